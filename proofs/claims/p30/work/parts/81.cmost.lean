/-! most, in the class -/
section CMO
variable {L : LawF} {σ : MH} {A : Nat → Int32} {i j k n w p q t o x : Nat}
def exT (A : Nat → Int32) (t : Nat) : Nat → Bool := fun j => othP A j && t.testBit (lstP (othP A) j).length
theorem len2 : ∀ n, (lstP (oneP A) n).length + (lstP (othP A) n).length ≤ n := fun n => by
  induction n with
  | zero => exact Nat.le_refl _
  | succ n ih =>
    rw [lstP_s, lstP_s, List.length_append, List.length_append]
    by_cases h1 : oneP A n = true
    · have h2 : ¬ othP A n = true := fun z => one_oth h1 z
      rw [if_pos h1, if_neg h2]
      simp only [List.length_cons, List.length_nil]
      omega
    · rw [if_neg h1]
      by_cases h2 : othP A n = true
      · rw [if_pos h2]
        simp only [List.length_cons, List.length_nil]
        omega
      · rw [if_neg h2]
        simp only [List.length_nil]
        omega
theorem lens : (onesL A).length + (othsL A).length ≤ 12 := len2 12
theorem lstP_mono {f : Nat → Bool} {a b : Nat} (h : a ≤ b) : (lstP f a).length ≤ (lstP f b).length := by
  induction b with
  | zero => rw [show a = 0 by omega]; exact Nat.le_refl _
  | succ b ih =>
    by_cases q : a = b + 1
    · rw [q]; exact Nat.le_refl _
    · have := ih (by omega)
      rw [lstP_s, List.length_append]
      omega
theorem lstP_up {f : Nat → Bool} {a b : Nat} (h : a < b) (ha : f a = true) : (lstP f a).length < (lstP f b).length := by
  have := lstP_mono (f := f) (show a + 1 ≤ b from h)
  rw [lstP_s, if_pos ha, List.length_append, List.length_singleton] at this
  omega
theorem lstP_inj {f : Nat → Bool} {a b : Nat} (ha : f a = true) (hb : f b = true) : (lstP f a).length = (lstP f b).length ↔ a = b := by
  refine ⟨fun h => ?_, fun h => by rw [h]⟩
  rcases Nat.lt_trichotomy a b with q | q | q
  · have := lstP_up q ha; omega
  · exact q
  · have := lstP_up q hb; omega
theorem exT_at {pre post : List Nat} (h : othsL A = pre ++ x :: post) : exT A t x = t.testBit pre.length := by
  have e := lstP_mid 12 pre post h
  have hx := lstP_mem (mid_mem h)
  unfold exT
  rw [hx.2, e]
  rfl
theorem exT_or {pre post : List Nat} (h : othsL A = pre ++ x :: post) : exT A (t ||| 2 ^ pre.length) = stB (exT A t) x := by
  have e := lstP_mid 12 pre post h
  have hx := lstP_mem (mid_mem h)
  funext m
  unfold exT stB
  dsimp only
  rw [tb_or]
  by_cases om : othP A m = true
  · rw [om, Bool.true_and, Bool.true_and]
    congr 1
    rw [e]
    exact decide_eq_decide.mpr (lstP_inj om hx.2)
  · have om' : othP A m = false := Bool.eq_false_iff.mpr om
    rw [om', Bool.false_and, Bool.false_and, decide_eq_false (fun z => om (by rw [z]; exact hx.2))]
    rfl
theorem exT_0 : exT A 0 = fun _ => false := by
  funext m
  unfold exT
  rw [Nat.zero_testBit, Bool.and_false]
theorem c_setBest (h7 : σ.1 129 7 = nI o) (hp : p < 13) (ho : o < 13) (h : p * 2 ^ o + t < 4096) (v : Int32) : Couples_setBest (nI p) (nI t) v σ = some (sI σ 146 (p * 2 ^ o + t) v) := by
  obtain ⟨f1, f2, f3, f4⟩ := ix3 4096 h
  unfold Couples_setBest Couples_setBest0
  rw [h7, shl_nI hp ho, nI_add, if_neg f4, if_neg f1, if_pos f2, f3]
theorem c_bestOf (h7 : σ.1 129 7 = nI o) (hp : p < 13) (ho : o < 13) (h : p * 2 ^ o + t < 4096) : Couples_bestOf (nI p) (nI t) σ = some (σ.1 146 (p * 2 ^ o + t)) := by
  obtain ⟨f1, f2, f3, f4⟩ := ix3 4096 h
  unfold Couples_bestOf Couples_bestOf0
  rw [h7, shl_nI hp ho, nI_add, if_neg f4, if_neg f1, if_pos f2, f3]
def BDm (L : LawF) (A : Nat → Int32) (σ : MH) : Prop := ∀ p q i j, (onesL A)[p]? = some i → (othsL A)[q]? = some j → σ.1 (134 + p) q = if fpR L A i j = true then nI (bnd L A i j) else 0
def RWm (L : LawF) (A : Nat → Int32) (p : Nat) (l : List Nat) (σ : MH) : Prop := ∀ t, t < 2 ^ (othsL A).length → σ.1 146 (p * 2 ^ (othsL A).length + t) = nI (VM L A l (exT A t))
theorem at_mid {l pre post : List Nat} (h : l = pre ++ x :: post) : l[pre.length]? = some x := by
  rw [h, List.getElem?_append_right (Nat.le_refl _), Nat.sub_self]
  rfl
theorem fits_in {pr po : List Nat} {p : Nat} (h1 : p ≤ (onesL A).length) (ht : t < 2 ^ (othsL A).length) : p * 2 ^ (othsL A).length + t < 4096 := by
  have h := room (lens (A := A))
  have h2 : p * 2 ^ (othsL A).length ≤ (onesL A).length * 2 ^ (othsL A).length := Nat.mul_le_mul_right _ h1
  rw [Nat.succ_mul] at h
  omega
theorem c_withBond (wf : WF A) {pr po pre post : List Nat} (h1 : onesL A = pr ++ i :: po) (h2 : othsL A = pre ++ x :: post) (h7 : σ.1 129 7 = nI (othsL A).length) (hB : BDm L A σ) (hR : RWm L A (pr.length + 1) po σ) (ht : t < 2 ^ (othsL A).length) : Couples_withBond (nI pr.length) (nI pre.length) (nI t) σ = some (if okM L A (exT A t) i x = true then nI (bnd L A i x + VM L A po (stB (exT A t) x)) else -1) := by
  have hl := lens (A := A)
  have hp := pre_lt h1
  have hq := pre_lt h2
  obtain ⟨x12, ox⟩ := lstP_mem (mid_mem h2)
  obtain ⟨-, f2, f3, -⟩ := ix3 12 (show pr.length < 12 by omega)
  obtain ⟨-, g2, g3, -⟩ := ix3 12 (show pre.length < 12 by omega)
  have hb := hB _ _ _ _ (at_mid h1) (at_mid h2)
  have hor := or_lt ht hq
  have e1 := c_bestOf (σ := σ) (p := pr.length + 1) (t := t ||| 2 ^ pre.length) h7 (by omega) (by omega) (fits_in (A := A) (pr := []) (po := []) (by omega) hor)
  rw [hR _ hor, exT_or h2] at e1
  have hA : A x = 1 := by
    rcases (wf.2.2.2.2 x x12).1 with z | z
    · unfold othP at ox
      rw [z] at ox
      simp at ox
    · exact z
  unfold Couples_withBond Couples_withBond0 okM
  rw [and1 _ (by omega), bt_nI (by omega), if_pos f2, if_pos g2, f3, g3, rfB (by omega), hb, show nI pr.length + 1 = nI (pr.length + 1) from nI_1 _, or_nI (by omega), e1, Option.bind_some, hA, exT_at h2]
  cases t.testBit pre.length
  · rw [bI_f, if_neg (by decide)]
    by_cases hf : fpR L A i x = true
    · have b := bnd_sl wf hf
      rw [if_pos hf, if_neg (fun z => by
        have := (nI_eq (a := bnd L A i x) (b := 0) (by omega) (by decide)).mp z
        omega), hf, if_pos (by decide), nI_add]
    · rw [if_neg hf, if_pos rfl, Bool.eq_false_iff.mpr hf, if_neg (by decide)]
  · rw [bI_t, if_pos rfl, if_neg (by simp)]
theorem VM_list {r : List Nat} {T : Nat → Bool} : VM L A (i :: r) T = (othsL A).foldl (fun m j => if okM L A T i j = true then max m (bnd L A i j + VM L A r (stB T j)) else m) (VM L A r T) := by
  unfold othsL
  rw [fo_list (othP A) (fun j m => if okM L A T i j = true then max m (bnd L A i j + VM L A r (stB T j)) else m)]
  refine fo_congr (fun j m hj => ?_) _
  by_cases h : okM L A T i j = true
  · obtain ⟨h1, h2, -⟩ := ok_fp h
    have hl : liveR A j = true := by
      unfold fpR fitP at h1
      simp only [Bool.and_eq_true] at h1
      exact h1.2.2.1
    have o : othP A j = true := by
      unfold othP
      rw [hl, h2]
      rfl
    rw [if_pos o]
  · rw [if_neg h]
    split <;> rfl
theorem c_val (wf : WF A) {pr po : List Nat} (h1 : onesL A = pr ++ i :: po) (h7 : σ.1 129 7 = nI (othsL A).length) (hB : BDm L A σ) (hR : RWm L A (pr.length + 1) po σ) (ht : t < 2 ^ (othsL A).length) (v1 : Int32) : Couples_weighAll_L61 v1 (nI pr.length) (nI t) σ (nI (VM L A po (exT A t)), 0) = some (nI (VM L A (i :: po) (exT A t))) := by
  have hl := lens (A := A)
  have hpo : po.length ≤ 12 := by
    have := congrArg List.length h1
    rw [List.length_append, List.length_cons] at this
    omega
  have hv : ∀ T, VM L A po T ≤ 120000 := fun T => by
    have := VM_le (L := L) (A := A) po T
    omega
  obtain ⟨r, e, hr⟩ : ∃ r, Couples_weighAll_L61 v1 (nI pr.length) (nI t) σ (nI (VM L A po (exT A t)), 0) = some r ∧ r = nI (VM L A (i :: po) (exT A t)) := by
    rw [VM_list]
    refine itr_list (othsL A) (fun pre (z : Int32 × Int32) => z = (nI (pre.foldl (fun m j => if okM L A (exT A t) i j = true then max m (bnd L A i j + VM L A po (stB (exT A t) j)) else m) (VM L A po (exT A t))), nI pre.length) ∧ (pre.foldl (fun m j => if okM L A (exT A t) i j = true then max m (bnd L A i j + VM L A po (stB (exT A t) j)) else m) (VM L A po (exT A t))) ≤ 130000) _ ⟨rfl, by have := hv (exT A t); exact Nat.le_trans this (by decide)⟩ (fun pre x post z hx hz => ?_) (fun z hz => ?_) (by show (othsL A).length < 1000000; omega)
    · obtain ⟨rfl, hz2⟩ := hz
      have hpl := pre_lt hx
      have hfold : (pre ++ [x]).foldl (fun m j => if okM L A (exT A t) i j = true then max m (bnd L A i j + VM L A po (stB (exT A t) j)) else m) (VM L A po (exT A t)) = if okM L A (exT A t) i x = true then max (pre.foldl (fun m j => if okM L A (exT A t) i j = true then max m (bnd L A i j + VM L A po (stB (exT A t) j)) else m) (VM L A po (exT A t))) (bnd L A i x + VM L A po (stB (exT A t) x)) else pre.foldl (fun m j => if okM L A (exT A t) i j = true then max m (bnd L A i j + VM L A po (stB (exT A t) j)) else m) (VM L A po (exT A t)) := by
        rw [List.foldl_append]; rfl
      rw [hfold]
      generalize pre.foldl (fun m j => if okM L A (exT A t) i j = true then max m (bnd L A i j + VM L A po (stB (exT A t) j)) else m) (VM L A po (exT A t)) = m at hz2
      have hb : bnd L A i x + VM L A po (stB (exT A t) x) ≤ 130000 := by
        have := hv (stB (exT A t) x)
        have : bnd L A i x ≤ 10000 := by unfold bnd; omega
        omega
      refine ⟨_, ?_, rfl, ?_⟩
      · show Couples_weighAll_l61 v1 (nI pr.length) (nI t) _ (nI pre.length) σ = _
        unfold Couples_weighAll_l61
        rw [h7, if_neg (by rw [nI_leI (by omega) (by omega)]; omega), c_withBond wf h1 hx h7 hB hR ht, Option.bind_some, show nI pre.length + 1 = nI (pre.length + 1) from nI_1 _, List.length_append, List.length_singleton]
        by_cases h : okM L A (exT A t) i x = true
        · rw [if_pos h, if_pos h, jmax_nI (by omega) (by omega)]
        · rw [if_neg h, if_neg h, jmax_m1 (by omega)]
      · split <;> omega
    · obtain ⟨rfl, hz2⟩ := hz
      refine ⟨_, ?_, rfl⟩
      show Couples_weighAll_l61 v1 (nI pr.length) (nI t) _ (nI (othsL A).length) σ = _
      unfold Couples_weighAll_l61
      rw [h7, if_pos (Int32.le_refl _)]
  rw [e, hr]
theorem c_row (wf : WF A) {pr po : List Nat} (h1 : onesL A = pr ++ i :: po) (h7 : σ.1 129 7 = nI (othsL A).length) (hB : BDm L A σ) (hR : RWm L A (pr.length + 1) po σ) : ∃ σ', Couples_weighAll_L43 (nI (2 ^ (othsL A).length)) (nI pr.length) (0, σ) = some σ' ∧ Fx (fun b k => b = 146 ∧ pr.length * 2 ^ (othsL A).length ≤ k ∧ k < (pr.length + 1) * 2 ^ (othsL A).length) σ σ' ∧ RWm L A pr.length (i :: po) σ' := by
  have hl := lens (A := A)
  have hpl := pre_lt h1
  have hM : 2 ^ (othsL A).length ≤ 4096 := Nat.pow_le_pow_right (by decide) (show (othsL A).length ≤ 12 by omega)
  have hS : (pr.length + 1) * 2 ^ (othsL A).length = pr.length * 2 ^ (othsL A).length + 2 ^ (othsL A).length := Nat.succ_mul _ _
  refine itr_n (2 ^ (othsL A).length) (fun (k : Nat) (z : Int32 × MH) => z.1 = nI k ∧ Fx (fun b k => b = 146 ∧ pr.length * 2 ^ (othsL A).length ≤ k ∧ k < (pr.length + 1) * 2 ^ (othsL A).length) σ z.2 ∧ ∀ t, t < k → z.2.1 146 (pr.length * 2 ^ (othsL A).length + t) = nI (VM L A (i :: po) (exT A t))) _ ⟨rfl, Fx.rf, fun t ht => by omega⟩ (fun k z hk hz => ?_) (fun z hz => ?_) (by show 2 ^ (othsL A).length < 1000000; omega)
  · obtain ⟨z1, z2⟩ := z
    obtain ⟨rfl, hf, hv⟩ := hz
    dsimp only at hf hv
    have h7z : z2.1 129 7 = nI (othsL A).length := (hf 129 7 (by omega)).trans h7
    have hBz : BDm L A z2 := fun p q i j a b => by
      have hp : p < (onesL A).length := (List.getElem?_eq_some_iff.mp a).1
      rw [hf (134 + p) q (by omega)]; exact hB p q i j a b
    have hRz : RWm L A (pr.length + 1) po z2 := fun t ht => by
      rw [hf 146 _ (by omega)]; exact hR t ht
    have hk1 := fits_in (A := A) (pr := []) (po := []) (p := pr.length + 1) (t := k) (by omega) hk
    have hk0 := fits_in (A := A) (pr := []) (po := []) (p := pr.length) (t := k) (by omega) hk
    left
    refine ⟨(nI (k + 1), sI z2 146 (pr.length * 2 ^ (othsL A).length + k) (nI (VM L A (i :: po) (exT A k)))), ?_, rfl, hf.tr (Fx_sI ⟨rfl, by omega, by omega⟩), fun t ht => ?_⟩
    · show Couples_weighAll_l43 (nI (2 ^ (othsL A).length)) (nI pr.length) (nI k) z2 = _
      unfold Couples_weighAll_l43
      rw [if_neg (by rw [nI_leI (by omega) (by omega)]; omega), show nI pr.length + 1 = nI (pr.length + 1) from nI_1 _, c_bestOf h7z (by omega) (by omega) hk1, Option.bind_some, hRz k hk, c_val wf h1 h7z hBz hRz hk, Option.bind_some, c_setBest h7z (by omega) (by omega) hk0, Option.bind_some, show nI k + 1 = nI (k + 1) from nI_1 _]
    · dsimp only
      by_cases e : t = k
      · rw [e, sI_same]
      · rw [sI_ne (by omega)]
        exact hv t (by omega)
  · obtain ⟨z1, z2⟩ := z
    obtain ⟨rfl, hf, hv⟩ := hz
    refine ⟨z2, ?_, hf, hv⟩
    show Couples_weighAll_l43 (nI (2 ^ (othsL A).length)) (nI pr.length) (nI (2 ^ (othsL A).length)) z2 = _
    unfold Couples_weighAll_l43
    rw [if_pos (Int32.le_refl _)]
theorem c_weighAll (wf : WF A) (hG : Gat A σ) (hB : BDm L A σ) : ∃ σ', Couples_weighAll σ = some σ' ∧ Fx (fun b _ => b = 146) σ σ' ∧ ∀ p, p ≤ (onesL A).length → RWm L A p ((onesL A).drop p) σ' := by
  have hl := lens (A := A)
  have hM : 2 ^ (othsL A).length ≤ 4096 := Nat.pow_le_pow_right (by decide) (show (othsL A).length ≤ 12 by omega)
  have hmask : jshl 1 (σ.1 129 7) = nI (2 ^ (othsL A).length) := by
    rw [hG.2.1]
    have := shl_nI (p := 1) (o := (othsL A).length) (by decide) (by omega)
    rw [Nat.one_mul] at this
    exact this
  obtain ⟨σ1, e1, p1, r1⟩ : ∃ σ', Couples_weighAll_L9 (nI (2 ^ (othsL A).length)) (0, σ) = some σ' ∧ Fx (fun b _ => b = 146) σ σ' ∧ RWm L A (onesL A).length [] σ' := by
    refine itr_n (2 ^ (othsL A).length) (fun (k : Nat) (z : Int32 × MH) => z.1 = nI k ∧ Fx (fun b _ => b = 146) σ z.2 ∧ ∀ t, t < k → z.2.1 146 ((onesL A).length * 2 ^ (othsL A).length + t) = 0) _ ⟨rfl, Fx.rf, fun t ht => by omega⟩ (fun k z hk hz => ?_) (fun z hz => ?_) (by show 2 ^ (othsL A).length < 1000000; omega)
    · obtain ⟨z1, z2⟩ := z
      obtain ⟨rfl, hf, hv⟩ := hz
      dsimp only at hf hv
      have h7z : z2.1 129 7 = nI (othsL A).length := (hf 129 7 (by omega)).trans hG.2.1
      have h6z : z2.1 129 6 = nI (onesL A).length := (hf 129 6 (by omega)).trans hG.1
      have hk0 := fits_in (A := A) (pr := []) (po := []) (p := (onesL A).length) (t := k) (by omega) hk
      left
      refine ⟨(nI (k + 1), sI z2 146 ((onesL A).length * 2 ^ (othsL A).length + k) 0), ?_, rfl, hf.tr (Fx_sI rfl), fun t ht => ?_⟩
      · show Couples_weighAll_l9 (nI (2 ^ (othsL A).length)) (nI k) z2 = _
        unfold Couples_weighAll_l9
        rw [if_neg (by rw [nI_leI (by omega) (by omega)]; omega), h6z, c_setBest h7z (by omega) (by omega) hk0, Option.bind_some, show nI k + 1 = nI (k + 1) from nI_1 _]
      · dsimp only
        by_cases e : t = k
        · rw [e, sI_same]
        · rw [sI_ne (by omega)]
          exact hv t (by omega)
    · obtain ⟨z1, z2⟩ := z
      obtain ⟨rfl, hf, hv⟩ := hz
      refine ⟨z2, ?_, hf, hv⟩
      show Couples_weighAll_l9 (nI (2 ^ (othsL A).length)) (nI (2 ^ (othsL A).length)) z2 = _
      unfold Couples_weighAll_l9
      rw [if_pos (Int32.le_refl _)]
  obtain ⟨σ2, e2, p2, r2⟩ : ∃ σ', Couples_weighAll_L37 (nI (2 ^ (othsL A).length)) (nI (onesL A).length + -1, σ1) = some σ' ∧ Fx (fun b _ => b = 146) σ1 σ' ∧ ∀ p, p ≤ (onesL A).length → RWm L A p ((onesL A).drop p) σ' := by
    refine itr_n (onesL A).length (fun (k : Nat) (z : Int32 × MH) => z.1 = nI ((onesL A).length - k) + -1 ∧ Fx (fun b _ => b = 146) σ1 z.2 ∧ ∀ p, (onesL A).length - k ≤ p → p ≤ (onesL A).length → RWm L A p ((onesL A).drop p) z.2) _ ⟨rfl, Fx.rf, fun p a b => ?_⟩ (fun k z hk hz => ?_) (fun z hz => ?_) (by show (onesL A).length < 1000000; omega)
    · rw [show p = (onesL A).length by omega, List.drop_length]
      exact r1
    · obtain ⟨z1, z2⟩ := z
      obtain ⟨e0, hf, hv⟩ := hz
      dsimp only at e0 hf hv
      subst e0
      have hp : (onesL A).length - k - 1 < (onesL A).length := by omega
      have e3 : onesL A = (onesL A).take ((onesL A).length - k - 1) ++ (onesL A)[(onesL A).length - k - 1] :: (onesL A).drop ((onesL A).length - k - 1 + 1) := by
        rw [← List.drop_eq_getElem_cons hp, List.take_append_drop]
      have e4 : ((onesL A).take ((onesL A).length - k - 1)).length = (onesL A).length - k - 1 := by
        rw [List.length_take]; omega
      have e5 : (onesL A).drop ((onesL A).length - k - 1) = (onesL A)[(onesL A).length - k - 1] :: (onesL A).drop ((onesL A).length - k - 1 + 1) := List.drop_eq_getElem_cons hp
      have h7z : z2.1 129 7 = nI (othsL A).length := (hf 129 7 (by omega)).trans ((p1 129 7 (by omega)).trans hG.2.1)
      have hBz : BDm L A z2 := fun p q i j a b => by
        have hp : p < (onesL A).length := (List.getElem?_eq_some_iff.mp a).1
        rw [hf (134 + p) q (by omega), p1 (134 + p) q (by omega)]; exact hB p q i j a b
      obtain ⟨σ', g1, g2, g3⟩ := c_row wf e3 h7z hBz (by rw [e4]; exact hv _ (by omega) (by omega))
      rw [e4] at g1 g2 g3
      have e6 : nI ((onesL A).length - k) + -1 = nI ((onesL A).length - k - 1) := by
        have := subL (a := (onesL A).length - k) 1 (by omega)
        rw [← this]
        exact (Int32.sub_eq_add_neg _ _).symm
      left
      refine ⟨(nI ((onesL A).length - (k + 1)) + -1, σ'), ?_, rfl, hf.tr (g2.mo (fun b k q => q.1)), fun p a b => ?_⟩
      · show Couples_weighAll_l37 _ _ z2 = _
        unfold Couples_weighAll_l37
        rw [e6, if_neg (nI_pos (by omega)), g1, Option.bind_some, show (onesL A).length - (k + 1) = (onesL A).length - k - 1 by omega]
      · by_cases c : p = (onesL A).length - k - 1
        · rw [c, e5]
          exact g3
        · intro t ht
          dsimp only
          have : ((onesL A).length - k - 1 + 1) * 2 ^ (othsL A).length ≤ p * 2 ^ (othsL A).length := Nat.mul_le_mul_right _ (by omega)
          rw [g2 146 _ (by omega)]
          exact hv p (by omega) b t ht
    · obtain ⟨z1, z2⟩ := z
      obtain ⟨e0, hf, hv⟩ := hz
      dsimp only at e0 hf hv
      subst e0
      refine ⟨z2, ?_, hf, fun p hp => hv p (by omega) hp⟩
      show Couples_weighAll_l37 _ _ z2 = _
      unfold Couples_weighAll_l37
      rw [Nat.sub_self, if_pos (show nI 0 + -1 < 0 by decide)]
  refine ⟨σ2, ?_, p1.tr p2, r2⟩
  unfold Couples_weighAll Couples_weighAll0
  rw [hmask, e1, Option.bind_some, (p1 129 6 (by omega)).trans hG.1, show nI (onesL A).length - 1 = nI (onesL A).length + -1 from Int32.sub_eq_add_neg _ _, e2]
  rfl
end CMO
