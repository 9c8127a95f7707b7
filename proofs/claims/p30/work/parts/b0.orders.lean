/-! search: the orders by their codes, and that the class goes through them as the codes grow -/
section ORD
variable {σ τ : MH} {n c k : Nat}
/-- the town at place k of the order with code c -/
def rC (n c k : Nat) : Nat := if k = 0 then 0 else if k < n then c / n ^ (n - 1 - k) % n else k
def dsB (n c k : Nat) : Bool := !(Nat.beq (rC n c k) 0) && (List.range n).all (fun m => Nat.ble m k || !(Nat.beq (rC n c m) (rC n c k)))
def vC (n c : Nat) : Bool := (List.range n).all (fun k => Nat.beq k 0 || dsB n c k)
def PLc (n : Nat) : List Nat := (List.range (n ^ (n - 1))).filter (vC n)
def hpO (n c : Nat) : MH := (fun b k => if b = 148 then nI n else nI (rC n c k), fun _ _ => 0)
def nxO (n c : Nat) : Option (Int32 × List Int32) := (Search_nextOrder (hpO n c)).map (fun z => (z.1, (List.range 6).map (fun k => z.2.1 157 k)))
def endB (n c : Nat) : Bool := match nxO n c with
  | some z => decide (z.1 = 0)
  | none => false
def nextB (n c d : Nat) : Bool := match nxO n c with
  | some z => decide (z.1 = 1) && decide (z.2 = (List.range 6).map (fun k => nI (rC n d k)))
  | none => false
def chB (n : Nat) : Nat → List Nat → Bool
  | c, [] => endB n c
  | c, d :: l => nextB n c d && chB n d l
def okO (n : Nat) (l : List Nat) : Bool := match l with
  | [] => false
  | c :: l => (List.range 6).all (fun k => Nat.beq (rC n c k) k) && Nat.ble (l.length + 1) 120 && chB n c l
theorem okO_2 : okO 2 (PLc 2) = true := by decide +kernel
theorem okO_3 : okO 3 (PLc 3) = true := by decide +kernel
theorem okO_4 : okO 4 (PLc 4) = true := by decide +kernel
theorem okO_5 : okO 5 (PLc 5) = true := by decide +kernel
theorem okO_6 : okO 6 (PLc 6) = true := by decide +kernel
theorem okO_all (h1 : 2 ≤ n) (h2 : n ≤ 6) : okO n (PLc n) = true := by
  rcases (show n = 2 ∨ n = 3 ∨ n = 4 ∨ n = 5 ∨ n = 6 by omega) with rfl | rfl | rfl | rfl | rfl
  · exact okO_2
  · exact okO_3
  · exact okO_4
  · exact okO_5
  · exact okO_6
/-! the class's next order looks at the order and the number of towns alone -/
def S2 (σ τ : MH) : Prop := σ.1 148 1 = τ.1 148 1 ∧ ∀ k, k < 6 → σ.1 157 k = τ.1 157 k
theorem itr_sim {S T R Q : Type} {f : S → Option (S ⊕ R)} {g : T → Option (T ⊕ Q)} (P : S → T → Prop) (O : R → Q → Prop) (h : ∀ s t, P s t → (∃ s' t', f s = some (.inl s') ∧ g t = some (.inl t') ∧ P s' t') ∨ (∃ r q, f s = some (.inr r) ∧ g t = some (.inr q) ∧ O r q) ∨ g t = none) : ∀ (N : Nat) (s : S) (t : T) (q : Q), P s t → itr g N t = some q → ∃ r, itr f N s = some r ∧ O r q := by
  intro N
  induction N with
  | zero =>
    intro s t q _ hq
    cases hq
  | succ N ih =>
    intro s t q hP hq
    rcases h s t hP with ⟨s', t', h1, h2, h3⟩ | ⟨r, q', h1, h2, h3⟩ | h2
    · rw [itr_one h2] at hq
      rw [itr_one h1]
      exact ih s' t' q h3 hq
    · rw [itr_end h2] at hq
      cases hq
      exact ⟨r, itr_end h1, h3⟩
    · have : itr g (N + 1) t = none := by
        show (match g t with | none => none | some (.inl s') => itr g N s' | some (.inr r) => some r) = _
        rw [h2]
      rw [this] at hq
      cases hq
theorem l4_sim (h : S2 σ τ) (v1 v2 : Int32) : Search_nextOrder_l4 v1 v2 σ = Search_nextOrder_l4 v1 v2 τ := by
  unfold Search_nextOrder_l4 Search_nextOrder_b36
  rw [h.1]
  by_cases i1 : inb v2 6 = true
  · by_cases i2 : inb (v2 + 1) 6 = true
    · rw [h.2 _ (inb_lt i1), h.2 _ (inb_lt i2)]
    · rw [if_neg i2, if_neg i2]
  · rw [if_neg i1, if_neg i1]
theorem l55_sim (h : S2 σ τ) (v1 v2 v3 : Int32) : Search_nextOrder_l55 v1 v2 v3 σ = Search_nextOrder_l55 v1 v2 v3 τ := by
  unfold Search_nextOrder_l55 Search_nextOrder_b83
  rw [h.1]
  by_cases i1 : inb v3 6 = true
  · by_cases i2 : inb v1 6 = true
    · rw [h.2 _ (inb_lt i1), h.2 _ (inb_lt i2)]
    · rw [if_neg i2, if_neg i2]
  · rw [if_neg i1, if_neg i1]
/-- nothing but the order has changed -/
def PO (b _k : Nat) : Prop := b = 157
theorem swap_sim (h : S2 σ τ) {v1 v2 : Int32} {τ' : MH} (e : Search_swap v1 v2 τ = some τ') : ∃ σ', Search_swap v1 v2 σ = some σ' ∧ S2 σ' τ' ∧ Fx PO σ σ' := by
  have same : some τ = some τ' → ∃ σ', some σ = some σ' ∧ S2 σ' τ' ∧ Fx PO σ σ' := fun e => by
    cases e
    exact ⟨σ, rfl, h, Fx.rf⟩
  unfold Search_swap Search_swap0 at e ⊢
  by_cases c1 : v1 < 0
  · rw [if_pos c1] at e ⊢; exact same e
  · rw [if_neg c1] at e ⊢
    by_cases c2 : 6 ≤ v1
    · rw [if_pos c2] at e ⊢; exact same e
    · rw [if_neg c2] at e ⊢
      by_cases c3 : v2 < 0
      · rw [if_pos c3] at e ⊢; exact same e
      · rw [if_neg c3] at e ⊢
        by_cases c4 : 6 ≤ v2
        · rw [if_pos c4] at e ⊢; exact same e
        · rw [if_neg c4] at e ⊢
          by_cases i1 : inb v1 6 = true
          · rw [if_pos i1] at e ⊢
            by_cases i2 : inb v2 6 = true
            · rw [if_pos i2] at e ⊢
              cases e
              refine ⟨_, rfl, ⟨?_, fun k hk => ?_⟩, (Fx_sI (P := PO) rfl).tr (Fx_sI rfl)⟩
              · rw [sI_obj (by decide), sI_obj (by decide), sI_obj (by decide), sI_obj (by decide)]
                exact h.1
              · rw [sI_at, sI_at, sI_at, sI_at, h.2 _ (inb_lt i1), h.2 _ (inb_lt i2), h.2 k hk]
            · rw [if_neg i2] at e; cases e
          · rw [if_neg i1] at e; cases e
theorem next_sim (h : S2 σ τ) {r : Int32} {τ' : MH} (e : Search_nextOrder τ = some (r, τ')) : ∃ σ', Search_nextOrder σ = some (r, σ') ∧ S2 σ' τ' ∧ Fx PO σ σ' := by
  have e0 : ∀ z, Search_nextOrder0 τ = some z → ∃ σ', Search_nextOrder0 σ = some (z.1, σ') ∧ S2 σ' z.2 ∧ Fx PO σ σ' := by
    intro z hz
    unfold Search_nextOrder0 at hz ⊢
    have q4 : Search_nextOrder_L4 σ (0, 1) = Search_nextOrder_L4 τ (0, 1) := by
      show itr _ FU _ = itr _ FU _
      rw [show (fun s : Int32 × Int32 => Search_nextOrder_l4 s.1 s.2 σ) = fun s : Int32 × Int32 => Search_nextOrder_l4 s.1 s.2 τ from funext fun s => l4_sim h _ _]
    rw [q4]
    cases hL : Search_nextOrder_L4 τ (0, 1) with
    | none => rw [hL] at hz; cases hz
    | some z5 =>
      rw [hL, Option.bind_some] at hz
      rw [Option.bind_some]
      by_cases c : z5 = 0
      · rw [if_pos c] at hz ⊢
        cases hz
        exact ⟨σ, rfl, h, Fx.rf⟩
      · rw [if_neg c] at hz ⊢
        have q55 : Search_nextOrder_L55 z5 σ (z5, z5 + 1) = Search_nextOrder_L55 z5 τ (z5, z5 + 1) := by
          show itr _ FU _ = itr _ FU _
          rw [show (fun s : Int32 × Int32 => Search_nextOrder_l55 z5 s.1 s.2 σ) = fun s : Int32 × Int32 => Search_nextOrder_l55 z5 s.1 s.2 τ from funext fun s => l55_sim h _ _ _]
        rw [q55]
        cases hM : Search_nextOrder_L55 z5 τ (z5, z5 + 1) with
        | none => rw [hM] at hz; cases hz
        | some z11 =>
          rw [hM, Option.bind_some] at hz
          rw [Option.bind_some]
          cases hS : Search_swap z5 z11 τ with
          | none => rw [hS] at hz; cases hz
          | some τ1 =>
            rw [hS, Option.bind_some] at hz
            obtain ⟨σ1, g1, g2, g3⟩ := swap_sim h hS
            rw [g1, Option.bind_some, g2.1]
            cases hW : Search_nextOrder_L108 (τ1.1 148 1 - 1, z5 + 1, τ1) with
            | none => rw [hW] at hz; cases hz
            | some z20 =>
              rw [hW, Option.bind_some] at hz
              cases hz
              obtain ⟨r, k1, k2, k3, k4⟩ := itr_sim (f := fun s : Int32 × Int32 × MH => Search_nextOrder_l108 s.1 s.2.1 s.2.2) (g := fun s : Int32 × Int32 × MH => Search_nextOrder_l108 s.1 s.2.1 s.2.2) (fun s t => s.1 = t.1 ∧ s.2.1 = t.2.1 ∧ S2 s.2.2 t.2.2 ∧ Fx PO σ s.2.2) (fun r q => r.1 = q.1 ∧ S2 r.2 q.2 ∧ Fx PO σ r.2) (fun s t hst => by
                obtain ⟨s1, s2, s3⟩ := s
                obtain ⟨t1, t2, t3⟩ := t
                obtain ⟨x1, x2, x3, x4⟩ := hst
                dsimp only at x1 x2 x3 x4 ⊢
                subst x1; subst x2
                unfold Search_nextOrder_l108
                by_cases c : s1 ≤ s2
                · rw [if_pos c, if_pos c]
                  exact Or.inr (Or.inl ⟨_, _, rfl, rfl, rfl, x3, x4⟩)
                · rw [if_neg c, if_neg c]
                  cases hS : Search_swap s2 s1 t3 with
                  | none => exact Or.inr (Or.inr rfl)
                  | some t4 =>
                    obtain ⟨s4, y1, y2, y3⟩ := swap_sim x3 hS
                    rw [y1]
                    exact Or.inl ⟨_, _, rfl, rfl, rfl, rfl, y2, x4.tr y3⟩) FU (τ1.1 148 1 - 1, z5 + 1, σ1) (τ1.1 148 1 - 1, z5 + 1, τ1) z20 ⟨rfl, rfl, g2, g3⟩ hW
              obtain ⟨r1, r2⟩ := r
              dsimp only at k2 k3 k4
              subst k2
              refine ⟨r2, ?_, k3, k4⟩
              show (Search_nextOrder_L108 (τ1.1 148 1 - 1, z5 + 1, σ1)).bind _ = _
              rw [show Search_nextOrder_L108 (τ1.1 148 1 - 1, z5 + 1, σ1) = _ from k1]
              rfl
  unfold Search_nextOrder bzo at e ⊢
  cases hz : Search_nextOrder0 τ with
  | none => rw [hz] at e; cases e
  | some z =>
    rw [hz, Option.bind_some] at e
    obtain ⟨σ', h1, h2, h3⟩ := e0 z hz
    rw [h1, Option.bind_some]
    by_cases c : bz z.1 = true
    · rw [if_pos c] at e ⊢
      cases e
      exact ⟨σ', rfl, h2, h3⟩
    · rw [if_neg c] at e; cases e
/-- the order with code c lies in the class -/
def OrC (n c : Nat) (σ : MH) : Prop := σ.1 148 1 = nI n ∧ ∀ k, k < 6 → σ.1 157 k = nI (rC n c k)
theorem OrC_2 (h : OrC n c σ) : S2 σ (hpO n c) := ⟨h.1.trans rfl, fun k hk => (h.2 k hk).trans rfl⟩
theorem c_end (h : OrC n c σ) (he : endB n c = true) : ∃ σ', Search_nextOrder σ = some (0, σ') ∧ Fx PO σ σ' := by
  unfold endB nxO at he
  cases hz : Search_nextOrder (hpO n c) with
  | none => rw [hz] at he; cases he
  | some z =>
    obtain ⟨z1, z2⟩ := z
    rw [hz] at he
    have hr : z1 = 0 := of_decide_eq_true he
    subst hr
    obtain ⟨σ', h1, -, h3⟩ := next_sim (OrC_2 h) hz
    exact ⟨σ', h1, h3⟩
theorem c_nextO (h : OrC n c σ) {d : Nat} (he : nextB n c d = true) : ∃ σ', Search_nextOrder σ = some (1, σ') ∧ Fx PO σ σ' ∧ OrC n d σ' := by
  unfold nextB nxO at he
  cases hz : Search_nextOrder (hpO n c) with
  | none => rw [hz] at he; cases he
  | some z =>
    obtain ⟨z1, z2⟩ := z
    rw [hz] at he
    have he2 : (decide (z1 = 1) && decide ((List.range 6).map (fun k => z2.1 157 k) = (List.range 6).map (fun k => nI (rC n d k)))) = true := he
    rw [Bool.and_eq_true, decide_eq_true_eq, decide_eq_true_eq] at he2
    obtain ⟨hr, hl⟩ := he2
    subst hr
    obtain ⟨σ', h1, h2, h3⟩ := next_sim (OrC_2 h) hz
    refine ⟨σ', h1, h3, (h3 148 1 (by unfold PO; decide)).trans h.1, fun k hk => ?_⟩
    rw [h2.2 k hk]
    exact List.map_inj_left.mp hl k (List.mem_range.mpr hk)
end ORD
