/-! count, piece, mate, slack, personIs -/
section CALLS
variable {L : LawF} {σ : MH} {A : Nat → Int32} {i j k n w : Nat}
theorem eqM {x : Int32} {P : Prop} [Decidable P] {α : Type} {a b : α} (h : x = nI n) (hn : n < 2 ^ 31) : True := trivial
/-! count -/
def inTown (A : Nat → Int32) (u : Nat) : Int32 := setR (fun i => liveR A i && decide (A (12 + i) = nI u)) 12
theorem c_whoIsIn (h : LD 1 A σ) (wf : WF A) (u : Nat) : Land_whoIsIn 1 (nI u) σ = some (inTown A u) := by
  have hl : Land_whoIsIn_L4 1 (nI u) σ (0, 0) = some (inTown A u) := by
    unfold inTown
    refine itr_acc 12 (fun i b hi => ?_) (fun b => ?_)
    · show Land_whoIsIn_l4 1 (nI u) b (nI i) σ = _
      obtain ⟨f1, f2, f3, f4⟩ := ix3 12 hi
      unfold Land_whoIsIn_l4 Land_whoIsIn_b34
      have e : σ.1 (1 + 2) i = A (12 + i) := (h.2.1 i hi).2.1
      rw [if_neg f1, c_isAlive h wf hi, Option.bind_some, if_pos f2, f3, (rf2 ld1).2.1, e, lit_nI 1, nI_add]
      dsimp only
      rcases Bool.eq_false_or_eq_true (liveR A i) with hl | hl
      · simp only [hl, bI_t, Bool.true_and, decide_eq_true_eq, show ((1 : Int32) = 0) = False by decide, if_false]
        split <;> rfl
      · simp only [hl, bI_f, Bool.false_and, Bool.false_eq_true, if_false, if_true]
    · show Land_whoIsIn_l4 1 (nI u) b (nI 12) σ = _
      unfold Land_whoIsIn_l4
      rw [if_pos (by decide)]
  unfold Land_whoIsIn Land_whoIsIn0
  rw [hl]
  rfl
theorem m_inTown {u : Nat} (hu : u < 100) : Md_count_L108 (nI (10 + u)) σ (0, 0) = some (inTown (σ.1 167) u) := by
  unfold inTown
  refine itr_acc 12 (fun i b hi => ?_) (fun b => ?_)
  · show Md_count_l108 (nI (10 + u)) b (nI i) σ = _
    obtain ⟨f1, f2, f3, f4⟩ := ix3 12 hi
    have a1 := ixc (c := 12) hi (by decide)
    unfold Md_count_l108 Md_count_b144
    rw [if_neg f1, m_lives hi, Option.bind_some, lit_nI 12, if_pos a1.1, a1.2, lit_nI 10, pk_sub (by omega), show 10 + u - 10 = u by omega, lit_nI 1, nI_add]
    dsimp only
    rcases Bool.eq_false_or_eq_true (liveR (σ.1 167) i) with hl | hl
    · simp only [hl, bI_t, Bool.true_and, decide_eq_true_eq, show ((1 : Int32) = 0) = False by decide, if_false]
      split <;> rfl
    · simp only [hl, bI_f, Bool.false_and, Bool.false_eq_true, if_false, if_true]
  · show Md_count_l108 (nI (10 + u)) b (nI 12) σ = _
    unfold Md_count_l108
    rw [if_pos (by decide)]
theorem st_count (hI : Inv σ) (x : Int32) : ∃ (r r' : Int32), Pz_count x σ = some r ∧ Md_count x σ = some r' ∧ r = r' ∧ Inv σ := by
  have hD := hI.1
  obtain ⟨t1, t2, t3⟩ := hI.2.2.2.1
  obtain ⟨l1, -⟩ := hI.2.2.2.2
  by_cases hx : x < 0 ∨ 15 < x
  · refine ⟨-1, -1, ?_, ?_, rfl, hI⟩
    · unfold Pz_count Pz_count0
      have : ¬ x = 0 ∧ ¬ x = 1 ∧ ¬ x = 2 ∧ ¬ x = 3 ∧ ¬ x = 4 ∧ ¬ x = 5 ∧ ¬ x = 6 ∧ (x < 10 ∨ 16 ≤ x) := by grind
      obtain ⟨a0, a1, a2, a3, a4, a5, a6, a7⟩ := this
      rw [if_neg a0, if_neg a1, if_neg a2, if_neg a3, if_neg a4, if_neg a5, if_neg a6]
      rcases a7 with a7 | a7
      · rw [if_pos a7]
      · rw [if_neg (by grind), if_pos a7]
    · unfold Md_count Md_count0
      have : ¬ x = 0 ∧ ¬ x = 1 ∧ ¬ x = 2 ∧ ¬ x = 3 ∧ ¬ x = 4 ∧ ¬ x = 5 ∧ ¬ x = 6 ∧ (x < 10 ∨ 15 < x) := by grind
      obtain ⟨a0, a1, a2, a3, a4, a5, a6, a7⟩ := this
      have e : Md_in x 10 15 σ = some 0 := by
        rw [m_in]
        rcases a7 with h | h
        · rw [decide_eq_false (ne_of_lt32 h)]; rfl
        · rw [decide_eq_false (ne_of_lt32 h), Bool.and_false]; rfl
      rw [if_neg a0, if_neg a1, if_neg a2, if_neg a3, if_neg a4, if_neg a5, if_neg a6, e, Option.bind_some, if_pos rfl]
  · rcases limN x 15 with ⟨w, hw, rfl⟩ | h
    · by_cases w10 : 10 ≤ w
      · obtain ⟨u, rfl⟩ : ∃ u, w = 10 + u := ⟨w - 10, by omega⟩
        have cc : ∀ m, m < 10 → ¬ nI (10 + u) = (OfNat.ofNat m : Int32) := fun m hm z => by
          have := (eqL m (by omega) (by omega)).mp z; omega
        refine ⟨inTown (σ.1 167) u, inTown (σ.1 167) u, ?_, ?_, rfl, hI⟩
        · unfold Pz_count Pz_count0
          rw [if_neg (cc 0 (by decide)), if_neg (cc 1 (by decide)), if_neg (cc 2 (by decide)), if_neg (cc 3 (by decide)), if_neg (cc 4 (by decide)), if_neg (cc 5 (by decide)), if_neg (cc 6 (by decide)), if_neg (mt (ltL 10 (by omega) (by decide)).mp (by omega)), if_neg (mt (leR 16 (by omega) (by decide)).mp (by omega)), subL 10 (by omega), show 10 + u - 10 = u by omega, c_whoIsIn hD hI.2.1]
          rfl
        · unfold Md_count Md_count0
          rw [if_neg (cc 0 (by decide)), if_neg (cc 1 (by decide)), if_neg (cc 2 (by decide)), if_neg (cc 3 (by decide)), if_neg (cc 4 (by decide)), if_neg (cc 5 (by decide)), if_neg (cc 6 (by decide)), lit_nI 10, lit_nI 15, m_in_n (by decide) (by decide) (by omega), decide_eq_true (show 10 ≤ 10 + u by omega), decide_eq_true (show 10 + u ≤ 15 by omega), m_inTown (by omega)]
          rfl
      · have e0 := hD.1
        match w, w10 with
        | 0, _ => exact ⟨_, _, rfl, rfl, e0.2.2.1, hI⟩
        | 1, _ => exact ⟨_, _, rfl, rfl, e0.1, hI⟩
        | 2, _ => exact ⟨_, _, rfl, rfl, e0.2.1, hI⟩
        | 3, _ =>
          refine ⟨twosR (σ.1 167), twosR (σ.1 167), ?_, ?_, rfl, hI⟩
          · show (Land_countTwos 1 σ).bind (fun x4 => some x4) = _
            rw [c_countTwos ld1 hD]; rfl
          · show (Md_wedTwos σ).bind (fun x4 => some x4) = _
            rw [m_wedTwos]; rfl
        | 4, _ => exact ⟨_, _, rfl, rfl, l1, hI⟩
        | 5, _ => exact ⟨_, _, rfl, rfl, t1, hI⟩
        | 6, _ => exact ⟨_, _, rfl, rfl, e0.2.2.2, hI⟩
        | 7, _ => exact ⟨-1, -1, rfl, rfl, rfl, hI⟩
        | 8, _ => exact ⟨-1, -1, rfl, rfl, rfl, hI⟩
        | 9, _ => exact ⟨-1, -1, rfl, rfl, rfl, hI⟩
        | n + 10, h => omega
    · exact absurd h hx
/-! mate -/
theorem st_mate (hI : Inv σ) (x y : Int32) : ∃ (r r' : Int32), Pz_mate x y σ = some r ∧ Md_mate x y σ = some r' ∧ r = r' ∧ Inv σ := by
  rcases tw_ix x with ⟨k, hk, rfl⟩ | h
  · obtain ⟨f1, f2, f3, f4⟩ := ix3 12 hk
    rcases limN y 7 with ⟨m, hm, rfl⟩ | h
    · obtain ⟨g1, g2, g3, g4⟩ := ix3 8 (show 7 - m < 8 by omega)
      have y1 : Md_in (nI m) 0 7 σ = some 1 := (limN_y 7 hm (σ := σ)).1
      refine ⟨10 - hgR (σ.1 167) k (7 - m), 10 - hgR (σ.1 167) k (7 - m), ?_, ?_, rfl, hI⟩
      · unfold Pz_mate Pz_mate0
        have e : σ.1 (10 + k) (7 - m) = hgR (σ.1 167) k (7 - m) := hI.1.2.2.1 k (7 - m) hk (by omega)
        rw [v_isNumber hk, Option.bind_some, if_neg (by decide), if_neg (nI_pos (by omega)), if_pos ((ltL 8 (by omega) (by decide)).mpr (by omega)), if_pos f2, lit_nI 7, pk_sub hm, if_pos g2, f3, g3, rf9 hk, e]
      · unfold Md_mate Md_mate0
        rw [m_isTwelve hk, Option.bind_some, if_neg (by decide), y1, Option.bind_some, if_neg (by decide), lit_nI 7, pk_sub hm, m_heightOf hk (by omega)]
        rfl
    · refine ⟨-1, -1, ?_, ?_, rfl, hI⟩
      · unfold Pz_mate Pz_mate0
        rw [v_isNumber hk, Option.bind_some, if_neg (by decide)]
        rcases h with h | h
        · rw [if_pos h]
        · have h' : (7 : Int32) < y := h
          rw [if_neg (by grind), if_neg (by grind)]
      · unfold Md_mate Md_mate0
        have e : Md_in y 0 7 σ = some 0 := limN_n h σ
        rw [m_isTwelve hk, Option.bind_some, if_neg (by decide), e]
        rfl
  · refine ⟨-1, -1, ?_, ?_, rfl, hI⟩
    · unfold Pz_mate Pz_mate0
      rw [v_isNumberF h]; rfl
    · unfold Md_mate Md_mate0
      rw [m_isTwelveF h]; rfl
/-! piece -/
def holdWho (A : Nat → Int32) (k : Nat) : Nat := fnd (fun i => liveR A i && holdR A i k) 12 0
theorem m_pieceL (hk : k < 12) : Md_piece_L51 (nI k) σ 0 = some (if holdWho (σ.1 167) k = 12 then -2 else nI (holdWho (σ.1 167) k)) := by
  obtain ⟨r, e, hr⟩ : ∃ r, Md_piece_L51 (nI k) σ 0 = some r ∧ r = (if holdWho (σ.1 167) k = 12 then -2 else nI (holdWho (σ.1 167) k)) := by
    refine itr_n 12 (fun (i : Nat) (z : Int32) => z = nI i ∧ holdWho (σ.1 167) k = fnd (fun i => liveR (σ.1 167) i && holdR (σ.1 167) i k) (12 - i) i) _ ⟨rfl, rfl⟩ (fun i z hi hz => ?_) (fun z hz => ?_)
    · obtain ⟨rfl, hz⟩ := hz
      obtain ⟨g1, g2, g3, g4⟩ := ix3 12 hi
      have b1 := ixc (c := 48) hi (by decide)
      have hst : Md_piece_l51 (nI k) (nI i) σ = if (liveR (σ.1 167) i && holdR (σ.1 167) i k) = true then some (.inr (nI i)) else some (.inl (nI (i + 1))) := by
        unfold Md_piece_l51 Md_piece_b83 holdR
        rw [if_neg g1, m_lives hi, Option.bind_some, lit_nI 48, if_pos b1.1, b1.2, m_has, Option.bind_some, lit_nI 1, nI_add]
        cases liveR (σ.1 167) i
        · rfl
        · cases bt (σ.1 167 (48 + i)) k <;> rfl
      by_cases q : (liveR (σ.1 167) i && holdR (σ.1 167) i k) = true
      · right
        refine ⟨nI i, by rw [hst, if_pos q], ?_⟩
        have : fnd (fun i => liveR (σ.1 167) i && holdR (σ.1 167) i k) (12 - i) i = i := by
          rw [show 12 - i = (11 - i) + 1 by omega]
          unfold fnd
          rw [if_pos q]
        rw [hz, this, if_neg (by omega)]
      · left
        refine ⟨nI (i + 1), by rw [hst, if_neg q], rfl, ?_⟩
        rw [hz, show 12 - i = (12 - (i + 1)) + 1 by omega]
        show (if (liveR (σ.1 167) i && holdR (σ.1 167) i k) = true then i else fnd (fun i => liveR (σ.1 167) i && holdR (σ.1 167) i k) (12 - (i + 1)) (i + 1)) = _
        rw [if_neg q]
    · obtain ⟨rfl, hz⟩ := hz
      refine ⟨-2, ?_, ?_⟩
      · show Md_piece_l51 (nI k) (nI 12) σ = _
        unfold Md_piece_l51
        rw [if_pos (by decide)]
      · rw [hz]
        rfl
  rw [e, hr]
theorem c_holder (h : LD 1 A σ) (w : WF A) (hk : k < 12) : ((Land_isAlive 1 (σ.1 7 k) σ).bind fun x5 => if x5 = (0 : Int32) then some (-2 : Int32) else some (σ.1 7 k)) = some (if holdWho A k = 12 then -2 else nI (holdWho A k)) := by
  obtain ⟨h1, h2⟩ := h.2.2.2.2 k hk
  have h1 : ∀ i, i < 12 → (σ.1 7 k = nI i ↔ hldR A i k = true) := h1
  have h2 : σ.1 7 k = -2 ∨ ∃ i, i < 12 ∧ σ.1 7 k = nI i := h2
  have hb := fnd_le (p := fun i => liveR A i && holdR A i k) 12 0
  have hp := fnd_p (p := fun i => liveR A i && holdR A i k) 12 0
  have key : ∀ i, i < 12 → liveR A i = true → (holdR A i k = true ↔ σ.1 7 k = nI i) := fun i hi hl => by
    rw [h1 i hi]
    unfold hldR holdR
    rw [if_pos (live_told hl)]
  by_cases q : holdWho A k = 12
  · rw [if_pos q]
    rcases h2 with h2 | ⟨i, hi, h2⟩
    · rw [h2, c_isAliveF (Or.inl (by decide))]; rfl
    · rw [h2, c_isAlive h w hi, Option.bind_some]
      cases hl : liveR A i
      · rfl
      · exfalso
        have ph : (fun i => liveR A i && holdR A i k) i = true := by
          show (liveR A i && holdR A i k) = true
          rw [hl, (key i hi hl).mpr h2]; rfl
        have : ∀ n j, j ≤ i → i < j + n → fnd (fun i => liveR A i && holdR A i k) n j ≤ i := by
          intro n
          induction n with
          | zero => intro j a b; omega
          | succ n ih =>
            intro j a b
            unfold fnd
            split
            · exact a
            · rename_i z
              by_cases e : j = i
              · subst e; exact absurd ph z
              · exact ih (j + 1) (by omega) (by omega)
        have := this 12 0 (by omega) (by omega)
        unfold holdWho at q
        omega
  · have hlt : holdWho A k < 12 := by unfold holdWho at q ⊢; omega
    have hq := hp (by unfold holdWho at hlt; omega)
    have hq : (liveR A (holdWho A k) && holdR A (holdWho A k) k) = true := hq
    rw [Bool.and_eq_true] at hq
    rw [(key _ hlt hq.1).mp hq.2, c_isAlive h w hlt, Option.bind_some, hq.1, if_neg q]
    rfl
theorem st_piece (hI : Inv σ) (x y : Int32) : ∃ (r r' : Int32), Pz_piece x y σ = some r ∧ Md_piece x y σ = some r' ∧ r = r' ∧ Inv σ := by
  rcases tw_ix x with ⟨k, hk, rfl⟩ | h
  · obtain ⟨f1, f2, f3, f4⟩ := ix3 12 hk
    have a1 := ixc (c := 72) hk (by decide)
    rcases limN y 9 with ⟨m, hm, rfl⟩ | h
    · have y1 : Md_in (nI m) 0 9 σ = some 1 := (limN_y 9 hm (σ := σ)).1
      have c8 : (nI m = (8 : Int32)) = (m = 8) := propext (eqL 8 (by omega) (by decide))
      have d8 : ((8 : Int32) ≤ nI m) = (8 ≤ m) := propext (leR 8 (by omega) (by decide))
      have eC : Pz_piece (nI k) (nI m) σ = if 8 ≤ m then (if m = 8 then some (σ.1 8 k) else ((Land_isAlive 1 (σ.1 7 k) σ).bind fun x5 => if x5 = (0 : Int32) then some (-2 : Int32) else some (σ.1 7 k))) else (if inb (nI m) 8 = true then some (σ.1 (10 + k) m) else none) := by
        unfold Pz_piece Pz_piece0
        rw [v_isNumber hk, Option.bind_some, if_neg (show ¬ (1 : Int32) = 0 by decide), if_neg (nI_pos (by omega)), if_pos ((leL 9 (by omega) (by decide)).mpr hm)]
        simp only [f2, f3, if_true, rf9 hk, nI_clamp (show m < 2 ^ 31 by omega), c8, d8]
      have eM : Md_piece (nI k) (nI m) σ = if 8 ≤ m then (if m = 8 then some (σ.1 167 (72 + k)) else some (if holdWho (σ.1 167) k = 12 then -2 else nI (holdWho (σ.1 167) k))) else (Md_heightOf (nI k) (nI m) σ).bind fun x21 => some x21 := by
        unfold Md_piece Md_piece0
        rw [m_isTwelve hk, Option.bind_some, if_neg (show ¬ (1 : Int32) = 0 by decide), y1, Option.bind_some, if_neg (show ¬ (1 : Int32) = 0 by decide), lit_nI 72, a1.2, m_pieceL hk, Option.bind_some]
        simp only [a1.1, if_true, c8, d8]
      rw [eC, eM]
      by_cases q8 : 8 ≤ m
      · rw [if_pos q8, if_pos q8]
        by_cases q9 : m = 8
        · rw [if_pos q9, if_pos q9]
          exact ⟨_, _, rfl, rfl, (hI.1.2.1 k hk).2.2.2.2.2.1, hI⟩
        · rw [if_neg q9, if_neg q9]
          exact ⟨_, _, c_holder hI.1 hI.2.1 hk, rfl, rfl, hI⟩
      · rw [if_neg q8, if_neg q8, if_pos (inb_nI (by omega) (by decide)), m_heightOf hk (by omega)]
        exact ⟨_, _, rfl, rfl, hI.1.2.2.1 k m hk (by omega), hI⟩
    · refine ⟨-100, -100, ?_, ?_, rfl, hI⟩
      · unfold Pz_piece Pz_piece0
        rw [v_isNumber hk, Option.bind_some, if_neg (by decide)]
        rcases h with h | h
        · rw [if_pos h]
        · have h' : (9 : Int32) < y := h
          rw [if_neg (by grind), if_neg (ne_of_lt32 h')]
      · unfold Md_piece Md_piece0
        have e : Md_in y 0 9 σ = some 0 := limN_n h σ
        rw [m_isTwelve hk, Option.bind_some, if_neg (by decide), e]
        rfl
  · refine ⟨-100, -100, ?_, ?_, rfl, hI⟩
    · unfold Pz_piece Pz_piece0
      rw [v_isNumberF h]; rfl
    · unfold Md_piece Md_piece0
      rw [m_isTwelveF h]; rfl
/-! slack -/
theorem st_slack (hI : Inv σ) (x y z : Int32) : ∃ (r r' : Int32) (σ1 : MH) (σ2 : MH), Pz_slack x y z σ = some (r, σ1) ∧ Md_slack x y z σ1 = some (r', σ2) ∧ r = r' ∧ Inv σ2 := by
  have hD := hI.1
  have wf := hI.2.1
  obtain ⟨-, L, hL, hC, hM⟩ := hI.2.2.2.2
  rcases tw_ix x with ⟨i, hi, rfl⟩ | h
  · cases Ti : toldR (σ.1 167) i
    · refine ⟨-1, -1, σ, σ, ?_, ?_, rfl, hI⟩
      · unfold Pz_slack Pz_slack0
        rw [c_isTold hD hi, Ti]; rfl
      · unfold Md_slack Md_slack0
        rw [m_isPerson hi, Ti]; rfl
    · rcases tw_ix y with ⟨j, hj, rfl⟩ | h
      · cases Tj : toldR (σ.1 167) j
        · refine ⟨-1, -1, σ, σ, ?_, ?_, rfl, hI⟩
          · unfold Pz_slack Pz_slack0
            rw [c_isTold hD hi, Ti, Option.bind_some, c_isTold hD hj, Tj]; rfl
          · unfold Md_slack Md_slack0
            rw [m_isPerson hi, Ti, Option.bind_some, m_isPerson hj, Tj]; rfl
        · by_cases hij : i = j
          · subst hij
            refine ⟨-1, -1, σ, σ, ?_, ?_, rfl, hI⟩
            · unfold Pz_slack Pz_slack0
              rw [c_isTold hD hi, Ti, Option.bind_some, bI_t, if_neg (by decide), Option.bind_some, if_neg (by decide), if_pos rfl]
            · unfold Md_slack Md_slack0
              rw [m_isPerson hi, Ti, Option.bind_some, bI_t, if_neg (by decide), Option.bind_some, if_neg (by decide), if_pos rfl]
          · have hn : ¬ nI i = nI j := fun q => hij ((nI_eq (by omega) (by omega)).mp q)
            rcases limN z 2 with ⟨w, hw, rfl⟩ | h
            · have y1 : Md_in (nI w) 0 2 σ = some 1 := (limN_y 2 hw (σ := σ)).1
              have eC : Pz_slack (nI i) (nI j) (nI w) σ = if slackR (σ.1 167) i j < 0 then some (slackR (σ.1 167) i j, σ) else (if w = 0 then some (slackR (σ.1 167) i j, σ) else (if w = 1 then ((Judge_fit 1 (nI i) (nI j) σ).bind fun (x13, σ14) => if x13 = 0 then some (0, σ14) else some (1, σ14)) else ((Judge_liking 1 (nI i) (nI j) σ).bind fun (x10, σ11) => some (x10, σ11)))) := by
                unfold Pz_slack Pz_slack0
                rw [c_isTold hD hi, Ti, Option.bind_some, bI_t, if_neg (by decide), c_isTold hD hj, Tj, Option.bind_some, bI_t, if_neg (by decide), if_neg hn, if_neg (nI_pos (by omega)), if_pos ((leL 2 (by omega) (by decide)).mpr hw), c_slackOf ld1 hD wf hi hj Ti Tj, Option.bind_some]
                have c0 : (nI w = (0 : Int32)) = (w = 0) := propext (eqL 0 (by omega) (by decide))
                have c1 : (nI w = (1 : Int32)) = (w = 1) := propext (eqL 1 (by omega) (by decide))
                simp only [c0, c1]
              have eM : ∀ τ : MH, τ.1 167 = σ.1 167 → Md_slack (nI i) (nI j) (nI w) τ = if slackR (σ.1 167) i j = -1 then some (-1, τ) else (if w = 0 then some (slackR (σ.1 167) i j, τ) else (if w = 1 then ((Md_fit (nI i) (nI j) τ).bind fun (x16, σ17) => if x16 = 0 then some (0, σ17) else some (1, σ17)) else ((Md_likes (nI i) (nI j) τ).bind fun (x13, σ14) => some (x13, σ14)))) := by
                intro τ ht
                have y2 : Md_in (nI w) 0 2 τ = some 1 := (limN_y 2 hw (σ := τ)).1
                unfold Md_slack Md_slack0
                rw [m_isPerson hi, ht, Ti, Option.bind_some, bI_t, if_neg (by decide), m_isPerson hj, ht, Tj, Option.bind_some, bI_t, if_neg (by decide), if_neg hn, y2, Option.bind_some, if_neg (by decide), m_slackBy hi hj, ht, Option.bind_some]
                have c0 : (nI w = (0 : Int32)) = (w = 0) := propext (eqL 0 (by omega) (by decide))
                have c1 : (nI w = (1 : Int32)) = (w = 1) := propext (eqL 1 (by omega) (by decide))
                simp only [c0, c1]
              by_cases qs : slackR (σ.1 167) i j = -1
              · refine ⟨-1, -1, σ, σ, ?_, ?_, rfl, hI⟩
                · rw [eC, qs, if_pos (by decide)]
                · rw [eM σ rfl, if_pos qs]
              · have qp : ¬ slackR (σ.1 167) i j < 0 := Int32.not_lt.mpr (slack_pos wf qs)
                rw [if_neg qp] at eC
                by_cases w0 : w = 0
                · rw [if_pos w0] at eC
                  refine ⟨_, _, σ, σ, eC, ?_, rfl, hI⟩
                  rw [eM σ rfl, if_neg qs, if_pos w0]
                · rw [if_neg w0] at eC
                  by_cases w1 : w = 1
                  · rw [if_pos w1] at eC
                    obtain ⟨σ1, e1, g1⟩ := c_fit ld1 hD wf hL hC hi hj Ti Tj
                    have rt := row_PX (PJ_PX g1)
                    obtain ⟨σ2, e2, g2⟩ := m_fit hL (LawM_of hM (fun b k a c => g1 b k (by unfold PJ; omega)) (g1 166 13 (by unfold PJ; omega))) hi hj
                    refine ⟨bI (fitR L (σ.1 167) i j), bI (fitR L (σ.1 167) i j), σ1, σ2, ?_, ?_, rfl, Inv_q (Inv_q hI (PJ_PX g1)) (PK_PX g2)⟩
                    · rw [eC, e1, Option.bind_some]
                      cases fitR L (σ.1 167) i j <;> rfl
                    · rw [eM σ1 rt, if_neg qs, if_neg w0, if_pos w1, e2, Option.bind_some, rt]
                      cases fitR L (σ.1 167) i j <;> rfl
                  · rw [if_neg w1] at eC
                    obtain ⟨σ1, e1, g1⟩ := c_liking ld1 hD wf hL hC hi hj Ti Tj qs
                    have rt := row_PX (PJ_PX g1)
                    obtain ⟨σ2, e2, g2⟩ := m_likes hL (LawM_of hM (fun b k a c => g1 b k (by unfold PJ; omega)) (g1 166 13 (by unfold PJ; omega))) hi hj
                    refine ⟨likeR L (σ.1 167) i j, likeR L (σ.1 167) i j, σ1, σ2, ?_, ?_, rfl, Inv_q (Inv_q hI (PJ_PX g1)) (PK_PX g2)⟩
                    · rw [eC, e1, Option.bind_some]
                    · rw [eM σ1 rt, if_neg qs, if_neg w0, if_neg w1, e2, Option.bind_some, rt]
            · refine ⟨-1, -1, σ, σ, ?_, ?_, rfl, hI⟩
              · unfold Pz_slack Pz_slack0
                rw [c_isTold hD hi, Ti, Option.bind_some, bI_t, if_neg (by decide), c_isTold hD hj, Tj, Option.bind_some, bI_t, if_neg (by decide), if_neg hn]
                rcases h with h | h
                · rw [if_pos h]
                · have h' : (2 : Int32) < z := h
                  rw [if_neg (by grind), if_neg (ne_of_lt32 h')]
              · unfold Md_slack Md_slack0
                have e : Md_in z 0 2 σ = some 0 := limN_n h σ
                rw [m_isPerson hi, Ti, Option.bind_some, bI_t, if_neg (by decide), m_isPerson hj, Tj, Option.bind_some, bI_t, if_neg (by decide), if_neg hn, e]
                rfl
      · refine ⟨-1, -1, σ, σ, ?_, ?_, rfl, hI⟩
        · unfold Pz_slack Pz_slack0
          rw [c_isTold hD hi, Ti, Option.bind_some, c_isToldF h]; rfl
        · unfold Md_slack Md_slack0
          rw [m_isPerson hi, Ti, Option.bind_some, m_isPersonF h]; rfl
  · refine ⟨-1, -1, σ, σ, ?_, ?_, rfl, hI⟩
    · unfold Pz_slack Pz_slack0
      rw [c_isToldF h]; rfl
    · unfold Md_slack Md_slack0
      rw [m_isPersonF h]; rfl
end CALLS
