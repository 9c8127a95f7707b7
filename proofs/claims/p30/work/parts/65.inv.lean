/-! WHAT HOLDS BETWEEN CALLS -/
def InvK (σ : MH) : Prop := σ.1 0 3 = σ.1 166 46 ∧ (σ.1 0 3 = 0 ∨ (σ.1 0 3 = 1 ∧ LD 37 (σ.1 169) σ ∧ WF (σ.1 169)))
def InvT (σ : MH) : Prop := σ.1 109 1 = σ.1 166 4 ∧ (∃ n, n ≤ 260 ∧ σ.1 109 1 = nI n) ∧ ∀ j, j < 260 → ∃ b, b < 256 ∧ σ.1 110 j = nI b ∧ σ.1 170 j = jb (nI b)
def InvW (σ : MH) : Prop := σ.1 111 6 = σ.1 166 13 ∧ ∃ L : LawF, LawOK L ∧ LawC L σ ∧ LawM L σ
def Inv (σ : MH) : Prop := LD 1 (σ.1 167) σ ∧ WF (σ.1 167) ∧ InvK σ ∧ InvT σ ∧ InvW σ
/-- what a question may change: in the class, in the reference -/
def PC (b _k : Nat) : Prop := (73 ≤ b ∧ b ≤ 108) ∨ (116 ≤ b ∧ b ≤ 165)
def PQ (b k : Nat) : Prop := b = 168 ∨ (171 ≤ b ∧ b ≤ 176) ∨ 182 ≤ b ∨ (b = 166 ∧ k ≠ 4 ∧ k ≠ 13 ∧ k ≠ 46)
def PX (b k : Nat) : Prop := PC b k ∨ PQ b k
theorem InvK_of {σ σ' : MH} (h : InvK σ) (h1 : ∀ b k, (37 ≤ b ∧ b < 73) ∨ b = 169 ∨ b = 0 ∨ (b = 166 ∧ k = 46) → σ'.1 b k = σ.1 b k) : InvK σ' := by
  obtain ⟨a, b⟩ := h
  refine ⟨?_, ?_⟩
  · rw [h1 0 3 (by omega), h1 166 46 (by omega)]; exact a
  · rcases b with b | ⟨b, c, d⟩
    · left; rw [h1 0 3 (by omega)]; exact b
    · right
      have e : σ'.1 169 = σ.1 169 := funext fun k => h1 169 k (by omega)
      rw [h1 0 3 (by omega), e]
      exact ⟨b, LD_of c (fun b k h2 h3 => h1 b k (by omega)), d⟩
theorem InvT_of {σ σ' : MH} (h : InvT σ) (h1 : ∀ b k, (b = 109 ∧ k = 1) ∨ b = 110 ∨ b = 170 ∨ (b = 166 ∧ k = 4) → σ'.1 b k = σ.1 b k) : InvT σ' := by
  obtain ⟨a, b, c⟩ := h
  refine ⟨?_, ?_, fun j hj => ?_⟩
  · rw [h1 109 1 (by omega), h1 166 4 (by omega)]; exact a
  · rw [h1 109 1 (by omega)]; exact b
  · rw [h1 110 j (by omega), h1 170 j (by omega)]; exact c j hj
theorem InvW_of {σ σ' : MH} (h : InvW σ) (h1 : ∀ b k, (111 ≤ b ∧ b ≤ 115) ∨ (177 ≤ b ∧ b ≤ 181) ∨ (b = 166 ∧ k = 13) → σ'.1 b k = σ.1 b k) : InvW σ' := by
  obtain ⟨a, L, b, c, d⟩ := h
  refine ⟨?_, L, b, LawC_of c (fun b k x y => h1 b k (by omega)), LawM_of d (fun b k x y => h1 b k (by omega)) (h1 166 13 (by omega))⟩
  rw [h1 111 6 (by omega), h1 166 13 (by omega)]; exact a
theorem Inv_q {σ σ' : MH} (h : Inv σ) (hf : Fx PX σ σ') : Inv σ' := by
  obtain ⟨h1, h2, h3, h4, h5⟩ := h
  have e : σ'.1 167 = σ.1 167 := funext fun k => hf 167 k (by unfold PX PC PQ; omega)
  refine ⟨?_, by rw [e]; exact h2, InvK_of h3 (fun b k q => hf b k (by unfold PX PC PQ; omega)), InvT_of h4 (fun b k q => hf b k (by unfold PX PC PQ; omega)), InvW_of h5 (fun b k q => hf b k (by unfold PX PC PQ; omega))⟩
  rw [e]
  exact LD_of h1 (fun b k a c => hf b k (by unfold PX PC PQ; omega))
/-- the land has changed, and the row with it -/
def PLd (b k : Nat) : Prop := PX b k ∨ (1 ≤ b ∧ b < 37) ∨ b = 167
theorem Inv_land {σ σ' : MH} (h : Inv σ) (hf : Fx PLd σ σ') (h1 : LD 1 (σ'.1 167) σ') (h2 : WF (σ'.1 167)) : Inv σ' := by
  obtain ⟨_, _, h3, h4, h5⟩ := h
  exact ⟨h1, h2, InvK_of h3 (fun b k q => hf b k (by unfold PLd PX PC PQ; omega)), InvT_of h4 (fun b k q => hf b k (by unfold PLd PX PC PQ; omega)), InvW_of h5 (fun b k q => hf b k (by unfold PLd PX PC PQ; omega))⟩
theorem PJ_PX {σ σ' : MH} (hf : Fx PJ σ σ') : Fx PX σ σ' := hf.mo (fun b k q => by unfold PJ at q; unfold PX PC PQ; omega)
theorem PK_PX {σ σ' : MH} (hf : Fx PK σ σ') : Fx PX σ σ' := hf.mo (fun b k q => by unfold PK at q; unfold PX PC PQ; omega)
theorem PX_PLd {σ σ' : MH} (hf : Fx PX σ σ') : Fx PLd σ σ' := hf.mo (fun b k q => Or.inl q)
/-- all that a question of the class may have left for the reference -/
theorem row_PX {σ σ' : MH} (hf : Fx PX σ σ') : σ'.1 167 = σ.1 167 := funext fun k => hf 167 k (by unfold PX PC PQ; omega)
theorem Inv.ld {σ : MH} (h : Inv σ) : LD 1 (σ.1 167) σ := h.1
theorem Inv.wf {σ : MH} (h : Inv σ) : WF (σ.1 167) := h.2.1
theorem ld1 : isLd 1 := Or.inl rfl
theorem ld37 : isLd 37 := Or.inr (Or.inl rfl)
theorem ld73 : isLd 73 := Or.inr (Or.inr rfl)
section CALLS
variable {σ : MH} {A : Nat → Int32} {i j k : Nat}
/-! person -/
theorem c_person (h : LD 1 A σ) (hk : k < 12) (s t : Int32) : Pz_person (nI k) s t σ = some (bI (personOK A k s t), if personOK A k s t = true then sI (sI (sI (sI σ 1 0 (A 108 ||| sh1 k)) 1 1 (A 109 ||| sh1 k)) 2 k s) 3 k t else σ) := by
  obtain ⟨f1, f2, f3, f4⟩ := ix3 12 hk
  unfold Pz_person Pz_person0 personOK
  rw [v_isNumber hk, Option.bind_some, if_neg (by decide), c_isTold h hk, Option.bind_some, f3]
  cases toldR A k
  · rw [bI_f, if_pos rfl]
    by_cases q1 : s < 0
    · rw [if_pos q1, decide_eq_false (ne_of_lt32 q1)]; rfl
    · rw [if_neg q1, decide_eq_true (Int32.not_lt.mp q1)]
      by_cases q2 : 1 < s
      · rw [if_pos q2, decide_eq_false (ne_of_lt32 q2)]; rfl
      · rw [if_neg q2, decide_eq_true (Int32.not_lt.mp q2)]
        by_cases q3 : t < 0
        · rw [if_pos q3, decide_eq_false (ne_of_lt32 q3)]; rfl
        · rw [if_neg q3, decide_eq_true (Int32.not_lt.mp q3)]
          by_cases q4 : t < 6
          · have q5 : t ≤ 5 := by grind
            rw [if_pos q4, decide_eq_true q5, if_pos f2, h.1.1, sI_fld (show (1 : Nat) ≠ 0 by decide), h.1.2.1]
            rfl
          · have q5 : ¬ t ≤ 5 := by grind
            rw [if_neg q4, decide_eq_false q5]; rfl
  · rw [bI_t, if_neg (by decide)]
    rfl
theorem c_personF {x : Int32} (h : x < 0 ∨ 12 ≤ x) (s t : Int32) : Pz_person x s t σ = some (0, σ) := by
  unfold Pz_person Pz_person0
  rw [v_isNumberF h, Option.bind_some, if_pos rfl]
  rfl
theorem bt_sh {i k : Nat} (hi : i < 32) (hk : k < 32) : bt (sh1 i) k = decide (k = i) := bt_one hi hk
theorem pr_at (hk : k < 12) (s t : Int32) (n : Nat) : personRow A k s t n = if n = 48 + k then sh1 k else if n = 12 + k then t else if n = k then s else if n = 109 then A 109 ||| sh1 k else if n = 108 then A 108 ||| sh1 k else A n := rfl
theorem pr_told (hk : k < 12) (hi : i < 12) (s t : Int32) : toldR (personRow A k s t) i = (toldR A i || decide (i = k)) := by
  unfold toldR
  rw [pr_at hk, if_neg (by omega), if_neg (by omega), if_neg (by omega), if_neg (by omega), if_pos rfl]
  exact bt_or1 (by omega) (by omega)
theorem pr_live (hk : k < 12) (hi : i < 12) (s t : Int32) : liveR (personRow A k s t) i = ((toldR A i || decide (i = k)) && (bt (A 109) i || decide (i = k))) := by
  unfold liveR
  have e : personRow A k s t 109 = A 109 ||| sh1 k := by
    rw [pr_at hk, if_neg (by omega), if_neg (by omega), if_neg (by omega), if_pos rfl]
  have := pr_told (A := A) hk hi s t
  unfold toldR at this
  rw [this, e, show sh1 k = jshl 1 (nI k) from rfl, bt_or1 (by omega) (by omega)]
  rfl
theorem LD_person (h : LD 1 A σ) (hk : k < 12) (hT : toldR A k = false) (s t : Int32) : LD 1 (personRow A k s t) (sI (sI (sI (sI σ 1 0 (A 108 ||| sh1 k)) 1 1 (A 109 ||| sh1 k)) 2 k s) 3 k t) := by
  have o : ∀ n, n ≠ 48 + k → n ≠ 12 + k → n ≠ k → n ≠ 109 → n ≠ 108 → personRow A k s t n = A n := fun n a b c d e => by
    rw [pr_at hk, if_neg a, if_neg b, if_neg c, if_neg d, if_neg e]
  have z : ∀ b m, b ≠ 1 → b ≠ 2 → b ≠ 3 → (sI (sI (sI (sI σ 1 0 (A 108 ||| sh1 k)) 1 1 (A 109 ||| sh1 k)) 2 k s) 3 k t).1 b m = σ.1 b m := fun b m h1 h2 h3 => by
    rw [sI_obj h3, sI_obj h2, sI_obj h1, sI_obj h1]
  refine ⟨⟨?_, ?_, ?_, ?_⟩, fun i hi => ?_, fun m n hm hn => ?_, fun i j hi hj q => ?_, fun m hm => ?_⟩
  · rw [sI_obj (by decide), sI_obj (by decide), sI_fld (by decide), sI_same, pr_at hk, if_neg (by omega), if_neg (by omega), if_neg (by omega), if_neg (by omega), if_pos rfl]
  · rw [sI_obj (by decide), sI_obj (by decide), sI_same, pr_at hk, if_neg (by omega), if_neg (by omega), if_neg (by omega), if_pos rfl]
  · rw [sI_obj (by decide), sI_obj (by decide), sI_fld (by decide), sI_fld (by decide), o 110 (by omega) (by omega) (by omega) (by omega) (by omega)]; exact h.1.2.2.1
  · rw [sI_obj (by decide), sI_obj (by decide), sI_fld (by decide), sI_fld (by decide), o 111 (by omega) (by omega) (by omega) (by omega) (by omega)]; exact h.1.2.2.2
  · obtain ⟨e1, e2, e3, e4, e5, e6, e7, e8⟩ := h.2.1 i hi
    refine ⟨?_, ?_, ?_, ?_, ?_, ?_, ?_, ?_⟩
    · rw [sI_obj (by decide), sI_at, pr_at hk]
      by_cases q : i = k
      · rw [if_pos ⟨rfl, q⟩, if_neg (by omega), if_neg (by omega), if_pos q]
      · rw [if_neg (fun z => q z.2), sI_obj (by decide), sI_obj (by decide), if_neg (by omega), if_neg (by omega), if_neg q, if_neg (by omega), if_neg (by omega)]
        exact e1
    · rw [sI_at, pr_at hk]
      by_cases q : i = k
      · rw [if_pos ⟨rfl, q⟩, if_neg (by omega), if_pos (by omega)]
      · rw [if_neg (fun z => q z.2), sI_obj (by decide), sI_obj (by decide), sI_obj (by decide), if_neg (by omega), if_neg (by omega), if_neg (by omega), if_neg (by omega), if_neg (by omega)]
        exact e2
    · rw [z _ _ (by omega) (by omega) (by omega), o _ (by omega) (by omega) (by omega) (by omega) (by omega)]; exact e3
    · rw [z _ _ (by omega) (by omega) (by omega), o _ (by omega) (by omega) (by omega) (by omega) (by omega)]; exact e4
    · rw [z _ _ (by omega) (by omega) (by omega), o _ (by omega) (by omega) (by omega) (by omega) (by omega)]; exact e5
    · rw [z _ _ (by omega) (by omega) (by omega), o _ (by omega) (by omega) (by omega) (by omega) (by omega)]; exact e6
    · rw [z _ _ (by omega) (by omega) (by omega), o _ (by omega) (by omega) (by omega) (by omega) (by omega)]; exact e7
    · rw [z _ _ (by omega) (by omega) (by omega), o _ (by omega) (by omega) (by omega) (by omega) (by omega)]; exact e8
  · rw [z _ _ (by omega) (by omega) (by omega), o _ (by omega) (by omega) (by omega) (by omega) (by omega)]; exact h.2.2.1 m n hm hn
  · rw [o _ (by omega) (by omega) (by omega) (by omega) (by omega)] at q
    rw [z _ _ (by omega) (by omega) (by omega), o _ (by omega) (by omega) (by omega) (by omega) (by omega)]; exact h.2.2.2.1 i j hi hj q
  · rw [z _ _ (by omega) (by omega) (by omega)]
    obtain ⟨h1, h2⟩ := h.2.2.2.2 m hm
    refine ⟨fun i hi => ?_, h2⟩
    rw [h1 i hi]
    unfold hldR
    rw [pr_told hk hi]
    by_cases q : i = k
    · subst q
      rw [hT, if_neg (by decide), decide_eq_true (rfl : i = i), Bool.or_true, if_pos rfl, pr_at hk, if_pos rfl, bt_sh (by omega) (by omega)]
    · rw [decide_eq_false q, Bool.or_false]
      by_cases q2 : toldR A i = true
      · rw [if_pos q2, if_pos q2, o _ (by omega) (by omega) (by omega) (by omega) (by omega)]
      · rw [if_neg q2, if_neg q2]
theorem WF_person (w : WF A) (hk : k < 12) (hT : toldR A k = false) {s t : Int32} (hs : s = 0 ∨ s = 1) (ht : ∃ u, u < 6 ∧ t = nI u) : WF (personRow A k s t) := by
  have o : ∀ n, n ≠ 48 + k → n ≠ 12 + k → n ≠ k → n ≠ 109 → n ≠ 108 → personRow A k s t n = A n := fun n a b c d e => by
    rw [pr_at hk, if_neg a, if_neg b, if_neg c, if_neg d, if_neg e]
  have hl : ∀ i, i < 12 → liveR A i = true → liveR (personRow A k s t) i = true := fun i hi h => by
    rw [pr_live hk hi]
    unfold liveR at h
    unfold toldR
    simp only [Bool.and_eq_true] at h
    rw [h.1, h.2]
    rfl
  refine ⟨fun m h1 h2 => ?_, fun m hm => ?_, ?_, ?_, fun i hi => ?_⟩
  · have a := w.1 m h1 h2
    constructor
    · rw [pr_at hk, if_neg (by omega), if_neg (by omega), if_neg (by omega), if_neg (by omega), if_pos rfl, show sh1 k = jshl 1 (nI k) from rfl, bt_or1 (by omega) (by omega), a.1, decide_eq_false (by omega)]
      rfl
    · rw [pr_at hk, if_neg (by omega), if_neg (by omega), if_neg (by omega), if_pos rfl, show sh1 k = jshl 1 (nI k) from rfl, bt_or1 (by omega) (by omega), a.2, decide_eq_false (by omega)]
      rfl
  · have a := w.2.1 m hm
    rw [pr_at hk, if_neg (by omega), if_neg (by omega), if_neg (by omega), if_pos rfl, pr_at hk, if_neg (by omega), if_neg (by omega), if_neg (by omega), if_neg (by omega), if_pos rfl, show sh1 k = jshl 1 (nI k) from rfl, bt_or1 (by omega) (by omega), bt_or1 (by omega) (by omega)]
    intro h
    simp only [Bool.or_eq_true] at h ⊢
    rcases h with h | h
    · exact Or.inl (a h)
    · exact Or.inr h
  · rw [o 110 (by omega) (by omega) (by omega) (by omega) (by omega)]; exact w.2.2.1
  · rw [o 111 (by omega) (by omega) (by omega) (by omega) (by omega)]; exact w.2.2.2.1
  · obtain ⟨p1, p2, p3, p4, p5, p6, ⟨g, m, q1, q2, q3, q4, q5⟩, p8, p9⟩ := w.2.2.2.2 i hi
    have e24 : ∀ j, j < 12 → personRow A k s t (24 + j) = A (24 + j) := fun j hj => o _ (by omega) (by omega) (by omega) (by omega) (by omega)
    refine ⟨?_, ?_, ?_, ?_, ?_, ?_, ?_, ?_, ?_⟩
    · rw [pr_at hk, if_neg (by omega), if_neg (by omega)]
      by_cases q : i = k
      · rw [if_pos q]; exact hs
      · rw [if_neg q, if_neg (by omega), if_neg (by omega)]; exact p1
    · rw [pr_at hk, if_neg (by omega)]
      by_cases q : i = k
      · rw [if_pos (by omega)]; exact ht
      · rw [if_neg (by omega), if_neg (by omega), if_neg (by omega), if_neg (by omega)]; exact p2
    · rw [e24 i hi]
      rcases p3 with q | ⟨j, a, b, c, d, e, f⟩
      · exact Or.inl q
      · exact Or.inr ⟨j, a, b, c, by rw [e24 j a]; exact d, hl i hi e, hl j a f⟩
    · rw [o _ (by omega) (by omega) (by omega) (by omega) (by omega)]; exact p4
    · intro n h1 h2
      rw [pr_at hk]
      by_cases q : i = k
      · rw [if_pos (by omega), bt_sh (by omega) (by omega), decide_eq_false (by omega)]
      · rw [if_neg (by omega), if_neg (by omega), if_neg (by omega), if_neg (by omega), if_neg (by omega)]; exact p5 n h1 h2
    · rw [o _ (by omega) (by omega) (by omega) (by omega) (by omega)]; exact p6
    · refine ⟨g, m, q1, q2, ?_, ?_, fun j hj => ?_⟩
      · rw [o _ (by omega) (by omega) (by omega) (by omega) (by omega)]; exact q3
      · rw [o _ (by omega) (by omega) (by omega) (by omega) (by omega)]; exact q4
      · rw [o _ (by omega) (by omega) (by omega) (by omega) (by omega)]; exact q5 j hj
    · intro h hh
      rw [o _ (by omega) (by omega) (by omega) (by omega) (by omega)]; exact p8 h hh
    · rw [pr_live hk hi, pr_at hk]
      by_cases q : i = k
      · intro _
        rw [if_pos (by omega), q, bt_sh (by omega) (by omega)]
        exact decide_eq_true rfl
      · rw [decide_eq_false q, Bool.or_false, Bool.or_false, if_neg (by omega), if_neg (by omega), if_neg (by omega), if_neg (by omega), if_neg (by omega)]
        exact p9
theorem st_person (hI : Inv σ) (a0 a1 a2 : Int32) : ∃ (r r' : Int32) (σ1 : MH) (σ2 : MH), Pz_person a0 a1 a2 σ = some (r, σ1) ∧ Md_person a0 a1 a2 σ1 = some (r', σ2) ∧ r = r' ∧ Inv σ2 := by
  rcases tw_ix a0 with ⟨k, hk, rfl⟩ | h
  · refine ⟨_, _, _, _, c_person hI.1 hk a1 a2, m_person hk a1 a2 _, ?_⟩
    cases q : personOK (σ.1 167) k a1 a2
    · rw [if_neg (by decide), q, if_neg (by decide)]
      exact ⟨rfl, hI⟩
    · rw [if_pos rfl]
      have e : (sI (sI (sI (sI σ 1 0 (σ.1 167 108 ||| sh1 k)) 1 1 (σ.1 167 109 ||| sh1 k)) 2 k a1) 3 k a2).1 167 = σ.1 167 := by
        rw [sI_objF (by decide), sI_objF (by decide), sI_objF (by decide), sI_objF (by decide)]
      rw [e, q, if_pos rfl]
      unfold personOK at q
      simp only [Bool.and_eq_true, Bool.not_eq_true', decide_eq_true_eq] at q
      obtain ⟨⟨q1, q2, q3⟩, q4, q5⟩ := q
      have hs : a1 = 0 ∨ a1 = 1 := by grind
      have e5 : (5 : Int32).toInt = ((5 : Nat) : Int) := rfl
      obtain ⟨u, hu, eu⟩ := nI_of2 (n := 5) e5 (Int32.not_lt.mpr q4) q5
      refine ⟨rfl, Inv_land hI (fun b m hb => ?_) ?_ ?_⟩
      · unfold PLd PX PC PQ at hb
        rw [sR_ne _ _ (by omega), sI_obj (by omega), sI_obj (by omega), sI_obj (by omega), sI_obj (by omega)]
      · rw [sR_at]
        refine LD_of (LD_person hI.1 hk q1 a1 a2) (fun b m h1 h2 => by rw [sR_ne _ _ (by omega)])
      · rw [sR_at]
        exact WF_person hI.2.1 hk q1 hs ⟨u, by omega, eu⟩
  · exact ⟨0, 0, σ, σ, c_personF h a1 a2, m_personF h a1 a2 σ, rfl, hI⟩
end CALLS
