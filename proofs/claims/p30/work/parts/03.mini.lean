/-! THE SMALL MACHINE: a method's code as a list, its heap as numbers (what the objects are never changes once they are made) -/
def shk (a : Nat) : Nat := (shT.getD a (99, 0)).1
def shn (a : Nat) : Nat := (shT.getD a (99, 0)).2
def rfv (a k : Nat) : Nat := (rfT.getD a []).getD k 0
def fkr (c k : Nat) : Bool := (fkT.getD c []).getD k false
def fzr (c k : Nat) : Bool := (fzT.getD c []).getD k false
def fnl (c k : Nat) : Bool := (fnT.getD c []).getD k false
theorem shT_len : shT.length = shN := by decide +kernel
theorem shk_lt {a k : Nat} (h : shk a = k) (hk : k ≠ 99) : a < shN := by
  rcases Nat.lt_or_ge a shN with q | q
  · exact q
  · refine absurd ?_ hk
    rw [← h]
    unfold shk
    rw [List.getD_eq_getElem?_getD, List.getElem?_eq_none (by rw [shT_len]; exact q)]
    rfl
abbrev MH : Type := (Nat → Nat → Int32) × (Nat → Nat → Int64)
abbrev Mth : Type := MethodName × ByteArray × Nat × Option FieldType × String
abbrev MC : Type := Option Nat × List (Option Value) × List Value × MH
abbrev ME : Type := Nat × Instr × Nat × Int32 × Int64
/-- the world: classes' numbers, the arrays' classes, the objects' addresses, the strings', their bytes' -/
abbrev MD : Type := va_G × (ClassId × ClassId × ClassId × ClassId) × (Nat → Nat) × (Nat → Nat) × (Nat → Nat)
def mv (w : MD) : Value → Value
  | .ref i => .ref (w.2.2.1 i)
  | .retAddr i => .ref (w.2.2.2.1 i)
  | .float b => .ref (w.2.2.2.2 b.toNat)
  | v => v
theorem mv_cat (w : MD) (v : Value) : (mv w v).category = v.category := by cases v <;> rfl
def mtys (w : MD) : List (ClassId × FieldType) := [(w.2.1.1, .int), (w.2.1.2.1, .long), (w.2.1.2.2.1, .byte), (w.2.1.2.2.2, .array .int)]
def entF (w : MD) (σ : MH) (a : Nat) : List Value := (List.range (shn a)).map fun k => if fkr (shk a) k = true then .ref (w.2.2.1 (rfv a k)) else .int (σ.1 a k)
def ent (w : MD) (σ : MH) (a : Nat) : va_E :=
  if shk a = 20 then .inl (w.2.1.1, shn a, .inl (σ.1 a))
  else if shk a = 21 then .inl (w.2.1.2.1, shn a, .inr (.inl (σ.2 a)))
  else if shk a = 22 then .inl (w.2.1.2.2.1, shn a, .inl (σ.1 a))
  else if shk a = 23 then .inl (w.2.1.2.2.2, shn a, .inr (.inr (.inr (.inr (fun i => some (w.2.2.1 (rfv a i)))))))
  else .inr (shk a, entF w σ a)
def wsO (w : MD) (σ : MH) : va_W := (List.range shN).map fun a => (w.2.2.1 a, ent w σ a)
theorem wsO_get {w : MD} {σ : MH} {a : Nat} (h : a < shN) : (wsO w σ)[a]? = some (w.2.2.1 a, ent w σ a) := by
  unfold wsO
  rw [List.getElem?_map, List.getElem?_range h]
  rfl
theorem wsO_len (w : MD) (σ : MH) : (wsO w σ).length = shN := by simp [wsO]
theorem wsO_some {w : MD} {σ : MH} {a : Nat} {q : Nat × va_E} (h : (wsO w σ)[a]? = some q) : a < shN ∧ q = (w.2.2.1 a, ent w σ a) := by
  have h1 : a < shN := by
    have := (List.getElem?_eq_some_iff.mp h).1
    rwa [wsO_len] at this
  rw [wsO_get h1] at h
  exact ⟨h1, (Option.some.inj h).symm⟩
def sI (σ : MH) (a i : Nat) (v : Int32) : MH := (fun b => if b = a then upd (σ.1 b) i v else σ.1 b, σ.2)
def sJ (σ : MH) (a i : Nat) (v : Int64) : MH := (σ.1, fun b => if b = a then vp_updL (σ.2 b) i v else σ.2 b)
theorem wsO_upd {w : MD} {σ σ' : MH} {a : Nat} {e : va_E} (ha : a < shN) (he : ent w σ' a = e) (ho : ∀ b, b ≠ a → ent w σ' b = ent w σ b) : (wsO w σ).set a (w.2.2.1 a, e) = wsO w σ' := by
  apply List.ext_getElem?
  intro k
  rw [List.getElem?_set]
  by_cases hk : a = k
  · subst hk
    rw [if_pos rfl, if_pos (by rw [wsO_len]; exact ha), wsO_get ha, he]
  · rw [if_neg hk]
    by_cases hl : k < shN
    · rw [wsO_get hl, wsO_get hl, ho k (fun q => hk q.symm)]
    · rw [List.getElem?_eq_none (by rw [wsO_len]; omega), List.getElem?_eq_none (by rw [wsO_len]; omega)]
theorem ent_sI_ne {w : MD} {σ : MH} {a b i : Nat} {v : Int32} (h : b ≠ a) : ent w (sI σ a i v) b = ent w σ b := by
  unfold ent entF sI
  simp only [if_neg h]
theorem ent_sJ_ne {w : MD} {σ : MH} {a b i : Nat} {v : Int64} (h : b ≠ a) : ent w (sJ σ a i v) b = ent w σ b := by
  unfold ent entF sJ
  simp only [if_neg h]
theorem ent_i {w : MD} {σ : MH} {a : Nat} (h : shk a = 20) : ent w σ a = .inl (w.2.1.1, shn a, .inl (σ.1 a)) := by
  unfold ent; rw [if_pos h]
theorem ent_j {w : MD} {σ : MH} {a : Nat} (h : shk a = 21) : ent w σ a = .inl (w.2.1.2.1, shn a, .inr (.inl (σ.2 a))) := by
  unfold ent; rw [if_neg (by omega), if_pos h]
theorem ent_b {w : MD} {σ : MH} {a : Nat} (h : shk a = 22) : ent w σ a = .inl (w.2.1.2.2.1, shn a, .inl (σ.1 a)) := by
  unfold ent; rw [if_neg (by omega), if_neg (by omega), if_pos h]
theorem ent_r {w : MD} {σ : MH} {a : Nat} (h : shk a = 23) : ent w σ a = .inl (w.2.1.2.2.2, shn a, .inr (.inr (.inr (.inr (fun i => some (w.2.2.1 (rfv a i))))))) := by
  unfold ent; rw [if_neg (by omega), if_neg (by omega), if_neg (by omega), if_pos h]
theorem ent_o {w : MD} {σ : MH} {a c : Nat} (h : shk a = c) (hc : c < 20) : ent w σ a = .inr (c, entF w σ a) := by
  unfold ent; rw [if_neg (by omega), if_neg (by omega), if_neg (by omega), if_neg (by omega), h]
theorem wsO_sI {w : MD} {σ : MH} {a i : Nat} {v : Int32} (h : shk a = 20) : (wsO w σ).set a (w.2.2.1 a, .inl (w.2.1.1, shn a, .inl (upd (σ.1 a) i v))) = wsO w (sI σ a i v) := by
  refine wsO_upd (shk_lt h (by omega)) ?_ (fun b hb => ent_sI_ne hb)
  rw [ent_i h]; simp [sI]
theorem wsO_sB {w : MD} {σ : MH} {a i : Nat} {v : Int32} (h : shk a = 22) : (wsO w σ).set a (w.2.2.1 a, .inl (w.2.1.2.2.1, shn a, .inl (upd (σ.1 a) i v))) = wsO w (sI σ a i v) := by
  refine wsO_upd (shk_lt h (by omega)) ?_ (fun b hb => ent_sI_ne hb)
  rw [ent_b h]; simp [sI]
theorem wsO_sJ {w : MD} {σ : MH} {a i : Nat} {v : Int64} (h : shk a = 21) : (wsO w σ).set a (w.2.2.1 a, .inl (w.2.1.2.1, shn a, .inr (.inl (vp_updL (σ.2 a) i v)))) = wsO w (sJ σ a i v) := by
  refine wsO_upd (shk_lt h (by omega)) ?_ (fun b hb => ent_sJ_ne hb)
  rw [ent_j h]; simp [sJ]
theorem entF_get {w : MD} {σ : MH} {a k : Nat} (hk : k < shn a) : (entF w σ a)[k]? = some (if fkr (shk a) k = true then .ref (w.2.2.1 (rfv a k)) else .int (σ.1 a k)) := by
  unfold entF
  rw [List.getElem?_map, List.getElem?_range hk]
  rfl
theorem wsO_sF {w : MD} {σ : MH} {a c k : Nat} {v : Int32} (h : shk a = c) (hc : c < 20) (hk : k < shn a) (hf : fkr c k = false) : (wsO w σ).set a (w.2.2.1 a, .inr (c, (entF w σ a).set k (.int v))) = wsO w (sI σ a k v) := by
  refine wsO_upd (shk_lt h (by omega)) ?_ (fun b hb => ent_sI_ne hb)
  rw [ent_o h hc]
  congr 2
  apply List.ext_getElem?
  intro j
  rw [List.getElem?_set]
  have hlen : (entF w σ a).length = shn a := by simp [entF]
  by_cases hj : k = j
  · subst hj
    rw [if_pos rfl, if_pos (by rw [hlen]; exact hk), entF_get hk]
    rw [h, hf]
    simp [sI, upd]
  · rw [if_neg hj]
    by_cases hl : j < shn a
    · rw [entF_get hl, entF_get hl]
      simp only [sI, upd, if_true, if_neg (fun q : j = k => hj q.symm)]
    · rw [List.getElem?_eq_none (by simp [entF]; omega), List.getElem?_eq_none (by simp [entF]; omega)]
/-- the locals: what is known of them -/
def lvm (w : MD) (ls : Array Slot) (nL : Nat) (L : List (Option Value)) : Prop := ls.size = nL ∧ lv_wf ls ∧ ∀ (i : Nat) (v : Value), L[i]? = some (some v) → ls[i]? = some (.val (mv w v))
/-- no long stands just below -/
def nlb (L : List (Option Value)) (i : Nat) : Bool := match i with
  | 0 => true
  | k + 1 => match L.getD k none with
    | some v => v.category == 1
    | none => true
theorem lvm_st1 {w : MD} {ls : Array Slot} {nL i : Nat} {L : List (Option Value)} {v : Value} (h : lvm w ls nL L) (hi : i < nL) (hc : v.category = 1) (hp : nlb L i = true) :
    ∃ ls', storeLocals ls i (mv w v) = some ls' ∧ lvm w ls' nL (L.set i (some v)) := by
  obtain ⟨h1, h2, h3⟩ := h
  have hcm : (mv w v).category = 1 := by rw [mv_cat]; exact hc
  obtain ⟨ls', e, f1, f2, f3⟩ := lv_store1 (l := []) (v := mv w v) ⟨h1, h2, fun q hq => by cases hq⟩ hi hcm
  refine ⟨ls', e, f1, f2, fun j u hj => ?_⟩
  rw [List.getElem?_set] at hj
  by_cases hij : i = j
  · subst hij
    rw [if_pos rfl] at hj
    split at hj
    · cases hj; exact f3 (i, mv w v) (by simp)
    · cases hj
  · rw [if_neg hij] at hj
    obtain ⟨ls2, e2, g1, g2, g3⟩ := lv_store1 (l := [(j, mv w u)]) (v := mv w v) ⟨h1, h2, fun q hq => by
      rw [List.mem_singleton.mp hq]; exact h3 j u hj⟩ hi hcm
    rw [e] at e2
    cases e2
    refine g3 (j, mv w u) (List.mem_cons_of_mem _ (List.mem_filter.mpr ⟨List.mem_singleton.mpr rfl, ?_⟩))
    have hne : (j == i) = false := by simp; exact fun q => hij q.symm
    simp only [hne, Bool.not_false, Bool.true_and, Bool.not_eq_true', Bool.and_eq_false_iff]
    by_cases hj1 : j + 1 = i
    · subst hj1
      right
      simp only [nlb, List.getD_eq_getElem?_getD, hj, Option.getD_some] at hp
      rw [mv_cat]
      simp only [beq_iff_eq] at hp
      rw [hp]; rfl
    · left; simpa using hj1
theorem lvm_st2 {w : MD} {ls : Array Slot} {nL i : Nat} {L : List (Option Value)} {v : Value} (h : lvm w ls nL L) (hi : i + 1 < nL) (hc : v.category = 2) (hp : nlb L i = true) :
    ∃ ls', storeLocals ls i (mv w v) = some ls' ∧ lvm w ls' nL ((L.set i (some v)).set (i + 1) none) := by
  obtain ⟨h1, h2, h3⟩ := h
  have hcm : (mv w v).category = 2 := by rw [mv_cat]; exact hc
  obtain ⟨ls', e, f1, f2, f3⟩ := lv_store2 (l := []) (v := mv w v) ⟨h1, h2, fun q hq => by cases hq⟩ hi hcm
  refine ⟨ls', e, f1, f2, fun j u hj => ?_⟩
  rw [List.getElem?_set] at hj
  by_cases hij1 : i + 1 = j
  · subst hij1
    rw [if_pos rfl] at hj
    split at hj <;> cases hj
  rw [if_neg hij1, List.getElem?_set] at hj
  by_cases hij : i = j
  · subst hij
    rw [if_pos rfl] at hj
    split at hj
    · cases hj; exact f3 (i, mv w v) (by simp)
    · cases hj
  · rw [if_neg hij] at hj
    obtain ⟨ls2, e2, g1, g2, g3⟩ := lv_store2 (l := [(j, mv w u)]) (v := mv w v) ⟨h1, h2, fun q hq => by
      rw [List.mem_singleton.mp hq]; exact h3 j u hj⟩ hi hcm
    rw [e] at e2
    cases e2
    refine g3 (j, mv w u) (List.mem_cons_of_mem _ (List.mem_filter.mpr ⟨List.mem_singleton.mpr rfl, ?_⟩))
    have hne : (j == i) = false := by simp; exact fun q => hij q.symm
    have hne1 : (j == i + 1) = false := by simp; exact fun q => hij1 q.symm
    simp only [hne, hne1, Bool.not_false, Bool.true_and, Bool.not_eq_true', Bool.and_eq_false_iff]
    by_cases hj1 : j + 1 = i
    · subst hj1
      right
      simp only [nlb, List.getD_eq_getElem?_getD, hj, Option.getD_some] at hp
      rw [mv_cat]
      simp only [beq_iff_eq] at hp
      rw [hp]; rfl
    · left; simpa using hj1
theorem lvm_get {w : MD} {ls : Array Slot} {nL i : Nat} {L : List (Option Value)} {v : Value} (h : lvm w ls nL L) (hl : L.getD i none = some v) : ls[i]? = some (.val (mv w v)) := by
  refine h.2.2 i v ?_
  rw [List.getD_eq_getElem?_getD] at hl
  cases q : L[i]? with
  | none => rw [q] at hl; cases hl
  | some o => rw [q] at hl; simp only [Option.getD_some] at hl; rw [hl]
