/-! THE ONES AND THE OTHERS -/
theorem itr_list {T R : Type} {f : T → Option (T ⊕ R)} (l : List Nat) (P : List Nat → T → Prop) (Q : R → Prop) {m : Nat} {s : T} (h0 : P [] s) (hs : ∀ pre x post z, l = pre ++ x :: post → P pre z → ∃ z', f z = some (.inl z') ∧ P (pre ++ [x]) z') (he : ∀ z, P l z → ∃ r, f z = some (.inr r) ∧ Q r) (hm : l.length < m) : ∃ r, itr f m s = some r ∧ Q r := by
  refine itr_h (fun p z => P (l.take p) z) Q (N := l.length) l.length 0 m s (by omega) (by simpa using h0) (fun p z hp hz => ?_) (fun z hz => he z (by rwa [List.take_length] at hz)) hm
  left
  have e : l = l.take p ++ l[p] :: l.drop (p + 1) := by
    rw [← List.drop_eq_getElem_cons hp, List.take_append_drop]
  obtain ⟨z', e1, e2⟩ := hs (l.take p) l[p] (l.drop (p + 1)) z e hz
  refine ⟨z', e1, ?_⟩
  have : l.take (p + 1) = l.take p ++ [l[p]] := by
    rw [List.take_succ, List.getElem?_eq_getElem hp]
    rfl
  show P (l.take (p + 1)) z'
  rw [this]
  exact e2
def lstP (p : Nat → Bool) (n : Nat) : List Nat := (List.range n).filter p
theorem lstP_s (p : Nat → Bool) (n : Nat) : lstP p (n + 1) = lstP p n ++ (if p n = true then [n] else []) := by
  unfold lstP
  rw [List.range_succ, List.filter_append]
  congr 1
  by_cases h : p n = true
  · rw [if_pos h]; simp [h]
  · rw [if_neg h]; simp [h]
theorem lstP_len (p : Nat → Bool) (n : Nat) : (lstP p n).length ≤ n := by
  unfold lstP
  exact Nat.le_trans (List.length_filter_le _ _) (by rw [List.length_range]; exact Nat.le_refl _)
theorem lstP_mem {p : Nat → Bool} {n x : Nat} (h : x ∈ lstP p n) : x < n ∧ p x = true := by
  unfold lstP at h
  rw [List.mem_filter, List.mem_range] at h
  exact h
theorem lstP_mem2 {p : Nat → Bool} {n x : Nat} (h : x < n) (hp : p x = true) : x ∈ lstP p n := List.mem_filter.mpr ⟨List.mem_range.mpr h, hp⟩
/-- a fold over the list is a fold over all, by the predicate -/
theorem fo_list {S : Type} (p : Nat → Bool) (g : Nat → S → S) (n : Nat) (s : S) : (lstP p n).foldl (fun s i => g i s) s = fo (fun i s => if p i = true then g i s else s) n s := by
  induction n with
  | zero => rfl
  | succ n ih =>
    rw [lstP_s, List.foldl_append, ih]
    show _ = (if p n = true then g n (fo _ n s) else fo _ n s)
    by_cases h : p n = true
    · rw [if_pos h, if_pos h]; rfl
    · rw [if_neg h, if_neg h]; rfl
/-- an array of ints that holds a list -/
def AR (b : Nat) (l : List Nat) (σ : MH) : Prop := ∀ p x, l[p]? = some x → σ.1 b p = nI x
theorem AR_at {b : Nat} {l pre post : List Nat} {x : Nat} {σ : MH} (h : AR b l σ) (e : l = pre ++ x :: post) : σ.1 b pre.length = nI x := by
  refine h pre.length x ?_
  rw [e, List.getElem?_append_right (Nat.le_refl _), Nat.sub_self]
  rfl
theorem AR_app {b x : Nat} {l : List Nat} {σ : MH} (h : AR b l σ) : AR b (l ++ [x]) (sI σ b l.length (nI x)) := fun p y hy => by
  rw [sI_at]
  by_cases q : p = l.length
  · rw [if_pos ⟨rfl, q⟩]
    rw [q, List.getElem?_append_right (Nat.le_refl _), Nat.sub_self] at hy
    cases hy; rfl
  · rw [if_neg (fun z => q z.2)]
    have hlt : p < l.length := by
      have := (List.getElem?_eq_some_iff.mp hy).1
      rw [List.length_append, List.length_singleton] at this
      omega
    rw [List.getElem?_append_left hlt] at hy
    exact h p y hy
theorem AR_of {b : Nat} {l : List Nat} {σ σ' : MH} (h : AR b l σ) (e : ∀ p, σ'.1 b p = σ.1 b p) : AR b l σ' := fun p x hx => (e p).trans (h p x hx)
/-- what the matchings change in the class -/
def PG (b _k : Nat) : Prop := b = 116 ∨ b = 127 ∨ (129 ≤ b ∧ b ≤ 147)
theorem PG_PX {σ σ' : MH} (hf : Fx PG σ σ') : Fx PX σ σ' := hf.mo (fun b k q => by unfold PG at q; unfold PX PC PQ; omega)
theorem PJ_PG {σ σ' : MH} (hf : Fx PJ σ σ') : Fx PG σ σ' := hf.mo (fun b k q => by unfold PJ at q; unfold PG; omega)
theorem LD_PG {A : Nat → Int32} {σ σ' : MH} (h : LD 1 A σ) (hf : Fx PG σ σ') : LD 1 A σ' := LD_of h (fun b k h1 h2 => hf b k (by unfold PG; omega))
theorem LawC_PG {L : LawF} {σ σ' : MH} (h : LawC L σ) (hf : Fx PG σ σ') : LawC L σ' := LawC_of h (fun b k h1 h2 => hf b k (by unfold PG; omega))
def oneP (A : Nat → Int32) (i : Nat) : Bool := liveR A i && decide (A i = 0)
def othP (A : Nat → Int32) (i : Nat) : Bool := liveR A i && !decide (A i = 0)
def onesL (A : Nat → Int32) : List Nat := lstP (oneP A) 12
def othsL (A : Nat → Int32) : List Nat := lstP (othP A) 12
/-- the lists are laid, and nobody is WED or asked -/
def Gat (A : Nat → Int32) (σ : MH) : Prop := σ.1 129 6 = nI (onesL A).length ∧ σ.1 129 7 = nI (othsL A).length ∧ AR 131 (onesL A) σ ∧ AR 132 (othsL A) σ
section GATHER
variable {L : LawF} {σ : MH} {A : Nat → Int32} {i j k n w : Nat}
theorem c_gather1 (hD : LD 1 A σ) (wf : WF A) (hk : k < 12) (h6 : σ.1 129 6 = nI (lstP (oneP A) k).length) (h7 : σ.1 129 7 = nI (lstP (othP A) k).length) (a1 : AR 131 (lstP (oneP A) k) σ) (a2 : AR 132 (lstP (othP A) k) σ) : ∃ σ', Couples_gather_l22 1 (nI k) σ = some (.inl (nI (k + 1), σ')) ∧ Fx PG σ σ' ∧ σ'.1 129 6 = nI (lstP (oneP A) (k + 1)).length ∧ σ'.1 129 7 = nI (lstP (othP A) (k + 1)).length ∧ AR 131 (lstP (oneP A) (k + 1)) σ' ∧ AR 132 (lstP (othP A) (k + 1)) σ' ∧ (∀ m, σ'.1 130 m = if m = k then -2 else σ.1 130 m) ∧ (∀ m, σ'.1 147 m = if m = k then 0 else σ.1 147 m) ∧ σ'.1 129 2 = σ.1 129 2 ∧ σ'.1 129 3 = σ.1 129 3 := by
  obtain ⟨f1, f2, f3, f4⟩ := ix3 12 hk
  have F0 : Fx PG σ (sI (sI σ 130 k (-2)) 147 k 0) := (Fx_sI (P := PG) (a := 130) (by unfold PG; omega)).tr (Fx_sI (P := PG) (a := 147) (by unfold PG; omega))
  have hD0 := LD_PG hD F0
  have x6 : (sI (sI σ 130 k (-2)) 147 k 0).1 129 6 = nI (lstP (oneP A) k).length := by rw [sI_obj (by decide), sI_obj (by decide)]; exact h6
  have x7 : (sI (sI σ 130 k (-2)) 147 k 0).1 129 7 = nI (lstP (othP A) k).length := by rw [sI_obj (by decide), sI_obj (by decide)]; exact h7
  have x2 : (sI (sI σ 130 k (-2)) 147 k 0).1 129 2 = σ.1 129 2 := by rw [sI_obj (by decide), sI_obj (by decide)]
  have x3 : (sI (sI σ 130 k (-2)) 147 k 0).1 129 3 = σ.1 129 3 := by rw [sI_obj (by decide), sI_obj (by decide)]
  have xa1 : AR 131 (lstP (oneP A) k) (sI (sI σ 130 k (-2)) 147 k 0) := AR_of a1 (fun p => by rw [sI_obj (by decide), sI_obj (by decide)])
  have xa2 : AR 132 (lstP (othP A) k) (sI (sI σ 130 k (-2)) 147 k 0) := AR_of a2 (fun p => by rw [sI_obj (by decide), sI_obj (by decide)])
  have x130 : ∀ m, (sI (sI σ 130 k (-2)) 147 k 0).1 130 m = if m = k then -2 else σ.1 130 m := fun m => by
    rw [sI_obj (by decide), sI_at]
    by_cases q : m = k
    · rw [if_pos ⟨rfl, q⟩, if_pos q]
    · rw [if_neg (fun z => q z.2), if_neg q]
  have x147 : ∀ m, (sI (sI σ 130 k (-2)) 147 k 0).1 147 m = if m = k then 0 else σ.1 147 m := fun m => by
    rw [sI_at]
    by_cases q : m = k
    · rw [if_pos ⟨rfl, q⟩, if_pos q]
    · rw [if_neg (fun z => q z.2), if_neg q, sI_obj (by decide)]
  have eS : (sI (sI σ 130 k (-2)) 147 k 0).1 2 k = A k := (hD0.2.1 k hk).1
  unfold Couples_gather_l22 Couples_gather_b83 Couples_gather_b111
  rw [if_neg f1, if_pos f2, f3, (rf2 ld1).1, show 1 + 1 = 2 from rfl]
  generalize sI (sI σ 130 k (-2)) 147 k 0 = σ1 at F0 hD0 x6 x7 x2 x3 xa1 xa2 x130 x147 eS ⊢
  rw [c_isAlive hD0 wf hk, Option.bind_some, eS]
  have l1 := lstP_len (oneP A) k
  have l2 := lstP_len (othP A) k
  cases hl : liveR A k
  · have p1 : oneP A k = false := by unfold oneP; rw [hl]; rfl
    have p2 : othP A k = false := by unfold othP; rw [hl]; rfl
    have s1 : lstP (oneP A) (k + 1) = lstP (oneP A) k := by rw [lstP_s, p1, if_neg (by decide), List.append_nil]
    have s2 : lstP (othP A) (k + 1) = lstP (othP A) k := by rw [lstP_s, p2, if_neg (by decide), List.append_nil]
    rw [s1, s2, bI_f, if_pos rfl, Option.bind_some, if_pos rfl, lit_nI 1, nI_add]
    exact ⟨σ1, rfl, F0, x6, x7, xa1, xa2, x130, x147, x2, x3⟩
  · rw [bI_t, if_neg (show ¬ (1 : Int32) = 0 by decide)]
    by_cases q : A k = 0
    · have p1 : oneP A k = true := by unfold oneP; rw [hl, decide_eq_true q]; rfl
      have p2 : othP A k = false := by unfold othP; rw [hl, decide_eq_true q]; rfl
      have s1 : lstP (oneP A) (k + 1) = lstP (oneP A) k ++ [k] := by rw [lstP_s, p1, if_pos rfl]
      have s2 : lstP (othP A) (k + 1) = lstP (othP A) k := by rw [lstP_s, p2, if_neg (by decide), List.append_nil]
      rw [s1, s2, if_pos q, x6, if_pos (inb_nI (by omega) (by decide)), nI_clamp (by omega), sI_obj (by decide), x6, lit_nI 1, nI_add, nI_add, List.length_append, List.length_singleton]
      refine ⟨_, rfl, (F0.tr (Fx_sI (P := PG) (a := 131) (by unfold PG; omega))).tr (Fx_sI (P := PG) (a := 129) (by unfold PG; omega)), sI_same, ?_, AR_of (AR_app xa1) (fun p => by rw [sI_obj (by decide)]), AR_of xa2 (fun p => by rw [sI_obj (by decide), sI_obj (by decide)]), fun m => ?_, fun m => ?_, ?_, ?_⟩
      · rw [sI_fld (by decide), sI_obj (by decide)]; exact x7
      · rw [sI_obj (by decide), sI_obj (by decide)]; exact x130 m
      · rw [sI_obj (by decide), sI_obj (by decide)]; exact x147 m
      · rw [sI_fld (by decide), sI_obj (by decide)]; exact x2
      · rw [sI_fld (by decide), sI_obj (by decide)]; exact x3
    · have p1 : oneP A k = false := by unfold oneP; rw [hl, decide_eq_false q]; rfl
      have p2 : othP A k = true := by unfold othP; rw [hl, decide_eq_false q]; rfl
      have s1 : lstP (oneP A) (k + 1) = lstP (oneP A) k := by rw [lstP_s, p1, if_neg (by decide), List.append_nil]
      have s2 : lstP (othP A) (k + 1) = lstP (othP A) k ++ [k] := by rw [lstP_s, p2, if_pos rfl]
      rw [s1, s2, if_neg q, Option.bind_some, if_neg (show ¬ (1 : Int32) = 0 by decide), x7, if_pos (inb_nI (by omega) (by decide)), nI_clamp (by omega), sI_obj (by decide), x7, lit_nI 1, nI_add, nI_add, List.length_append, List.length_singleton]
      refine ⟨_, rfl, (F0.tr (Fx_sI (P := PG) (a := 132) (by unfold PG; omega))).tr (Fx_sI (P := PG) (a := 129) (by unfold PG; omega)), ?_, sI_same, AR_of xa1 (fun p => by rw [sI_obj (by decide), sI_obj (by decide)]), AR_of (AR_app xa2) (fun p => by rw [sI_obj (by decide)]), fun m => ?_, fun m => ?_, ?_, ?_⟩
      · rw [sI_fld (by decide), sI_obj (by decide)]; exact x6
      · rw [sI_obj (by decide), sI_obj (by decide)]; exact x130 m
      · rw [sI_obj (by decide), sI_obj (by decide)]; exact x147 m
      · rw [sI_fld (by decide), sI_obj (by decide)]; exact x2
      · rw [sI_fld (by decide), sI_obj (by decide)]; exact x3
theorem c_gather (hD : LD 1 A σ) (wf : WF A) : ∃ σ', Couples_gather 1 σ = some σ' ∧ Fx PG σ σ' ∧ Gat A σ' ∧ (∀ m, m < 12 → σ'.1 130 m = -2 ∧ σ'.1 147 m = 0) ∧ σ'.1 129 2 = 0 ∧ σ'.1 129 3 = 0 := by
  have F0 : Fx PG σ (sI (sI (sI (sI σ 129 6 0) 129 7 0) 129 2 0) 129 3 0) := ((((Fx_sI (P := PG) (a := 129) (by unfold PG; omega)).tr (Fx_sI (P := PG) (a := 129) (by unfold PG; omega))).tr (Fx_sI (P := PG) (a := 129) (by unfold PG; omega)))).tr (Fx_sI (P := PG) (a := 129) (by unfold PG; omega))
  have x6 : (sI (sI (sI (sI σ 129 6 0) 129 7 0) 129 2 0) 129 3 0).1 129 6 = 0 := by rw [sI_fld (by decide), sI_fld (by decide), sI_fld (by decide), sI_same]
  have x7 : (sI (sI (sI (sI σ 129 6 0) 129 7 0) 129 2 0) 129 3 0).1 129 7 = 0 := by rw [sI_fld (by decide), sI_fld (by decide), sI_same]
  have x2 : (sI (sI (sI (sI σ 129 6 0) 129 7 0) 129 2 0) 129 3 0).1 129 2 = 0 := by rw [sI_fld (by decide), sI_same]
  have x3 : (sI (sI (sI (sI σ 129 6 0) 129 7 0) 129 2 0) 129 3 0).1 129 3 = 0 := sI_same
  have eP : Couples_gather 1 σ = Couples_gather_L22 1 (0, sI (sI (sI (sI σ 129 6 0) 129 7 0) 129 2 0) 129 3 0) := by
    unfold Couples_gather Couples_gather0
    cases Couples_gather_L22 1 (0, sI (sI (sI (sI σ 129 6 0) 129 7 0) 129 2 0) 129 3 0) <;> rfl
  rw [eP]
  generalize sI (sI (sI (sI σ 129 6 0) 129 7 0) 129 2 0) 129 3 0 = σ0 at F0 x6 x7 x2 x3
  refine itr_n 12 (fun (k : Nat) (z : Int32 × MH) => z.1 = nI k ∧ Fx PG σ z.2 ∧ (z.2.1 129 6 = nI (lstP (oneP A) k).length ∧ z.2.1 129 7 = nI (lstP (othP A) k).length ∧ AR 131 (lstP (oneP A) k) z.2 ∧ AR 132 (lstP (othP A) k) z.2) ∧ (∀ m, m < k → z.2.1 130 m = -2 ∧ z.2.1 147 m = 0) ∧ z.2.1 129 2 = 0 ∧ z.2.1 129 3 = 0) _ ⟨rfl, F0, ⟨x6, x7, fun p x h => (by cases h), fun p x h => (by cases h)⟩, fun m hm => by omega, x2, x3⟩ (fun k z hk hz => ?_) (fun z hz => ?_)
  · obtain ⟨z1, z2⟩ := z
    obtain ⟨rfl, hf, ⟨h6, h7, a1, a2⟩, hm, h2, h3⟩ := hz
    obtain ⟨σ', e, g, b6, b7, b1, b2, b3, b4, b5, b8⟩ := c_gather1 (LD_PG hD hf) wf hk h6 h7 a1 a2
    refine Or.inl ⟨_, e, rfl, hf.tr g, ⟨b6, b7, b1, b2⟩, fun m hmk => ?_, b5.trans h2, b8.trans h3⟩
    dsimp only
    rw [b3, b4]
    by_cases q : m = k
    · rw [if_pos q, if_pos q]; exact ⟨rfl, rfl⟩
    · rw [if_neg q, if_neg q]; exact hm m (by omega)
  · obtain ⟨z1, z2⟩ := z
    obtain ⟨rfl, hf, hg, hm, h2, h3⟩ := hz
    refine ⟨z2, ?_, hf, hg, hm, h2, h3⟩
    show Couples_gather_l22 1 (nI 12) z2 = _
    unfold Couples_gather_l22
    rw [if_pos (by decide)]
end GATHER
