/-! the tape: feed, check -/
section TAPE
variable {σ : MH} {A : Nat → Int32} {i j k n h m : Nat} {v : Int32}
theorem jushr_bit {s : Int32} {k : Nat} (h : k < 32) (j : Nat) (hj : j + k < 32) : (jushr s (nI k)).toBitVec.getLsbD j = s.toBitVec.getLsbD (k + j) := by
  have e : (((nI k).toUInt32 &&& Int32.toUInt32 31).toBitVec % 32#32).toNat = k := by
    have : ∀ k : Nat, k < 32 → (((nI k).toUInt32 &&& Int32.toUInt32 31).toBitVec % 32#32).toNat = k := by decide +kernel
    exact this k h
  unfold jushr
  show ((s.toUInt32 >>> ((nI k).toUInt32 &&& Int32.toUInt32 31)).toBitVec).getLsbD j = _
  rw [UInt32.toBitVec_shiftRight]
  rw [show s.toUInt32.toBitVec = s.toBitVec from rfl]
  show (s.toBitVec >>> (((nI k).toUInt32 &&& Int32.toUInt32 31).toBitVec % 32#32)).getLsbD j = _
  rw [BitVec.ushiftRight_eq', e, BitVec.getLsbD_ushiftRight]
theorem bt255 {k : Nat} (hk : k < 32) : bt 255 k = decide (k < 8) := by
  have : ∀ k, k < 32 → bt 255 k = decide (k < 8) := by decide +kernel
  exact this k hk
theorem byte_same (v : Int32) (hk : k ≤ 24) : (jushr v (nI k)) &&& 255 = (jshr v (nI k)) &&& 255 := by
  refine bt_ext fun b hb => ?_
  rw [bt_and hb, bt_and hb, bt255 hb]
  by_cases q : b < 8
  · rw [bt_bit hb, bt_bit hb, jushr_bit (by omega) b (by omega), jshr_bit (by omega) b (by omega)]
  · rw [decide_eq_false q, Bool.and_false, Bool.and_false]
theorem jb_low (x : Int32) : jb (x &&& 255) = jb x := by
  unfold jb
  congr 1
  apply Int8.toBitVec_inj.1
  apply BitVec.eq_of_getLsbD_eq
  intro i hi
  have h2 : (255 : Int32).toBitVec.getLsbD i = true := by
    have : ∀ j, j < 8 → (255 : Int32).toBitVec.getLsbD j = true := by decide +kernel
    exact this i hi
  have h4 : (x &&& 255).toBitVec.getLsbD i = x.toBitVec.getLsbD i := by
    rw [Int32.toBitVec_and, BitVec.getLsbD_and, h2, Bool.and_true]
  have h3 : i < 32 := by omega
  show (((x &&& 255).toBitVec).signExtend 8).getLsbD i = (x.toBitVec.signExtend 8).getLsbD i
  rw [BitVec.getLsbD_signExtend, BitVec.getLsbD_signExtend, if_pos h3, if_pos h3, h4]
theorem jb_jb (x : Int32) : jb (jb x) = jb x := by
  unfold jb
  rw [Int8.toInt8_toInt32]
theorem nar_jb (x : Int32) : vp_nar .byte (jb x) = jb x := by
  show jb (jb x) = jb x
  exact jb_jb x
theorem jb_255 {b : Nat} (h : b < 256) : (jb (nI b)) &&& 255 = nI b := by
  have : ∀ b, b < 256 → (jb (nI b)) &&& 255 = nI b := by decide +kernel
  exact this b h
def bT (v : Int32) (m : Nat) : Nat := ((jushr v (nI (8 * m))) &&& 255).toNatClampNeg
theorem bT_ok (v : Int32) (hm : m < 4) : (jushr v (nI (8 * m))) &&& 255 = nI (bT v m) ∧ bT v m < 256 ∧ jb (jshr v (nI (8 * m))) = jb (nI (bT v m)) := by
  obtain ⟨b, hb, e⟩ := pk_andE (jushr v (nI (8 * m))) (m := 255) 8 (by decide)
  have e1 : bT v m = b := by
    unfold bT
    rw [e, nI_clamp (by omega)]
  rw [e1]
  refine ⟨e, by omega, ?_⟩
  rw [← e, byte_same v (by omega), jb_low]
def upT (n : Nat) (v : Int32) (f : Nat → Int32) : Nat → Int32 := fun j => if n ≤ j ∧ j < n + 4 then nI (bT v (3 - (j - n))) else f j
def upB (n : Nat) (v : Int32) (f : Nat → Int32) : Nat → Int32 := fun j => if n ≤ j ∧ j < n + 4 then jb (nI (bT v (3 - (j - n)))) else f j
def RB (x y : Int32) : Prop := ∃ b, b < 256 ∧ x = nI b ∧ y = jb (nI b)
theorem RB_up {f g : Nat → Int32} (h : ∀ j, j < 260 → RB (f j) (g j)) (n : Nat) (v : Int32) : ∀ j, j < 260 → RB (upT n v f j) (upB n v g j) := fun j hj => by
  unfold upT upB
  by_cases q : n ≤ j ∧ j < n + 4
  · rw [if_pos q, if_pos q]
    exact ⟨_, (bT_ok v (by omega)).2.1, rfl, rfl⟩
  · rw [if_neg q, if_neg q]
    exact h j hj
theorem c_add (v : Int32) (h1 : σ.1 109 1 = nI n) (hn : n + 4 ≤ 260) : ∃ σ', Tape_add v σ = some σ' ∧ Fx (fun b k => b = 110 ∨ (b = 109 ∧ k = 1)) σ σ' ∧ σ'.1 109 1 = nI (n + 4) ∧ σ'.1 110 = upT n v (σ.1 110) := by
  obtain ⟨r, e, p, g1, g2⟩ : ∃ r, Tape_add_L3 v (nI (32 - 8 * 0) + -8, σ) = some r ∧ Fx (fun b k => b = 110 ∨ (b = 109 ∧ k = 1)) σ r ∧ r.1 109 1 = nI (n + 4) ∧ ∀ j, r.1 110 j = if n ≤ j ∧ j < n + 4 then nI (bT v (3 - (j - n))) else σ.1 110 j := by
    refine itr_n 4 (fun (k : Nat) (z : Int32 × MH) => z.1 = nI (32 - 8 * k) + -8 ∧ Fx (fun b k => b = 110 ∨ (b = 109 ∧ k = 1)) σ z.2 ∧ z.2.1 109 1 = nI (n + k) ∧ ∀ j, z.2.1 110 j = if n ≤ j ∧ j < n + k then nI (bT v (3 - (j - n))) else σ.1 110 j) _ ⟨rfl, Fx.rf, h1, fun j => by rw [if_neg (by omega)]⟩ (fun k z hk hz => ?_) (fun z hz => ?_)
    · obtain ⟨z1, z2⟩ := z
      obtain ⟨e1, hf, hl, hv⟩ := hz
      dsimp only at e1 hf hl hv
      subst e1
      have e24 : nI (32 - 8 * k) + -8 = nI (8 * (3 - k)) := by
        have := subL (a := 32 - 8 * k) 8 (by omega)
        rw [show 8 * (3 - k) = 32 - 8 * k - 8 by omega, ← this]
        exact (Int32.sub_eq_add_neg _ _).symm
      have e25 : nI (8 * (3 - k)) + -8 = nI (32 - 8 * (k + 1)) + -8 := by rw [show 32 - 8 * (k + 1) = 8 * (3 - k) by omega]
      obtain ⟨f1, f2, f3, f4⟩ := ix3 260 (show n + k < 260 by omega)
      obtain ⟨b1, b2, b3⟩ := bT_ok v (show 3 - k < 4 by omega)
      refine Or.inl ⟨(nI (32 - 8 * (k + 1)) + -8, sI (sI z2 110 (n + k) (nI (bT v (3 - k)))) 109 1 (nI (n + (k + 1)))), ?_, rfl, (hf.tr (Fx_sI (Or.inl rfl))).tr (Fx_sI (Or.inr ⟨rfl, rfl⟩)), sI_same, fun j => ?_⟩
      · show Tape_add_l3 v _ z2 = _
        unfold Tape_add_l3 Tape_add_b50
        rw [e24, if_neg (nI_pos (by omega)), hl, if_neg f4, if_neg f1, if_pos f2, f3, b1, sI_obj (by decide), hl, e25, show nI (n + k) + 1 = nI (n + (k + 1)) from nI_1 _]
      · dsimp only
        rw [sI_obj (by decide), sI_at, hv j]
        by_cases q : j = n + k
        · rw [if_pos ⟨rfl, q⟩, if_pos (by omega), show 3 - (j - n) = 3 - k by omega]
        · rw [if_neg (fun y => q y.2)]
          by_cases c : n ≤ j ∧ j < n + k
          · rw [if_pos c, if_pos (by omega)]
          · rw [if_neg c, if_neg (by omega)]
    · obtain ⟨z1, z2⟩ := z
      obtain ⟨e1, hf, hl, hv⟩ := hz
      dsimp only at e1 hf hl hv
      subst e1
      refine ⟨z2, ?_, hf, hl, hv⟩
      show Tape_add_l3 v _ z2 = _
      unfold Tape_add_l3
      rw [if_pos (show nI (32 - 8 * 4) + -8 < 0 by decide)]
  refine ⟨r, ?_, p, g1, funext g2⟩
  unfold Tape_add Tape_add0
  rw [show (24 : Int32) = nI (32 - 8 * 0) + -8 from by decide, e]
  rfl
theorem m_types (v : Int32) (h1 : σ.1 166 4 = nI n) (hn : n + 4 ≤ 260) : ∃ σ', Md_types v σ = some σ' ∧ Fx (fun b k => b = 170 ∨ (b = 166 ∧ k = 4)) σ σ' ∧ σ'.1 166 4 = nI (n + 4) ∧ σ'.1 170 = upB n v (σ.1 170) := by
  obtain ⟨r, e, p, g1, g2⟩ : ∃ r, Md_types_L2 v (nI (4 - 0) + -1, σ) = some r ∧ Fx (fun b k => b = 170 ∨ (b = 166 ∧ k = 4)) σ r ∧ r.1 166 4 = nI (n + 4) ∧ ∀ j, r.1 170 j = if n ≤ j ∧ j < n + 4 then jb (nI (bT v (3 - (j - n)))) else σ.1 170 j := by
    refine itr_n 4 (fun (k : Nat) (z : Int32 × MH) => z.1 = nI (4 - k) + -1 ∧ Fx (fun b k => b = 170 ∨ (b = 166 ∧ k = 4)) σ z.2 ∧ z.2.1 166 4 = nI (n + k) ∧ ∀ j, z.2.1 170 j = if n ≤ j ∧ j < n + k then jb (nI (bT v (3 - (j - n)))) else σ.1 170 j) _ ⟨rfl, Fx.rf, h1, fun j => by rw [if_neg (by omega)]⟩ (fun k z hk hz => ?_) (fun z hz => ?_)
    · obtain ⟨z1, z2⟩ := z
      obtain ⟨e1, hf, hl, hv⟩ := hz
      dsimp only at e1 hf hl hv
      subst e1
      have e24 : nI (4 - k) + -1 = nI (3 - k) := dn1 (show k ≤ 3 by omega)
      obtain ⟨f1, f2, f3, f4⟩ := ix3 260 (show n + k < 260 by omega)
      obtain ⟨b1, b2, b3⟩ := bT_ok v (show 3 - k < 4 by omega)
      have e8 : (8 : Int32) * nI (3 - k) = nI (8 * (3 - k)) := by rw [lit_nI 8, pk_mul]
      refine Or.inl ⟨(nI (4 - (k + 1)) + -1, sI (sI z2 170 (n + k) (jb (nI (bT v (3 - k))))) 166 4 (nI (n + (k + 1)))), ?_, rfl, (hf.tr (Fx_sI (Or.inl rfl))).tr (Fx_sI (Or.inr ⟨rfl, rfl⟩)), sI_same, fun j => ?_⟩
      · show Md_types_l2 v _ z2 = _
        unfold Md_types_l2
        rw [e24, if_neg (nI_pos (by omega)), hl, if_pos f2, f3, e8, b3, nar_jb, sI_obj (by decide), hl, show 4 - (k + 1) = 3 - k by omega, show nI (n + k) + 1 = nI (n + (k + 1)) from nI_1 _]
      · dsimp only
        rw [sI_obj (by decide), sI_at, hv j]
        by_cases q : j = n + k
        · rw [if_pos ⟨rfl, q⟩, if_pos (by omega), show 3 - (j - n) = 3 - k by omega]
        · rw [if_neg (fun y => q y.2)]
          by_cases c : n ≤ j ∧ j < n + k
          · rw [if_pos c, if_pos (by omega)]
          · rw [if_neg c, if_neg (by omega)]
    · obtain ⟨z1, z2⟩ := z
      obtain ⟨e1, hf, hl, hv⟩ := hz
      dsimp only at e1 hf hl hv
      subst e1
      refine ⟨z2, ?_, hf, hl, hv⟩
      show Md_types_l2 v _ z2 = _
      unfold Md_types_l2
      rw [if_pos (show nI (4 - 4) + -1 < 0 by decide)]
  refine ⟨r, ?_, p, g1, funext g2⟩
  unfold Md_types Md_types0
  rw [show (3 : Int32) = nI (4 - 0) + -1 from by decide, e]
  rfl
theorem st_feed (hI : Inv σ) (a b c d e : Int32) : ∃ (r r' : Int32) (σ1 : MH) (σ2 : MH), Pz_feed a b c d e σ = some (r, σ1) ∧ Md_feed a b c d e σ1 = some (r', σ2) ∧ r = r' ∧ Inv σ2 := by
  obtain ⟨h1, h2, h3, ⟨t1, ⟨n, hn, t2⟩, t3⟩, h5⟩ := hI
  have t4 : σ.1 166 4 = nI n := t1.symm.trans t2
  have en : nI n + 20 = nI (n + 20) := by rw [lit_nI 20, nI_add]
  by_cases q : n + 20 ≤ 260
  · obtain ⟨σ1, e1, p1, l1, g1⟩ := c_add (σ := σ) a t2 (by omega)
    obtain ⟨σ2, e2, p2, l2, g2⟩ := c_add (σ := σ1) b l1 (by omega)
    obtain ⟨σ3, e3, p3, l3, g3⟩ := c_add (σ := σ2) c l2 (by omega)
    obtain ⟨σ4, e4, p4, l4, g4⟩ := c_add (σ := σ3) d l3 (by omega)
    obtain ⟨σ5, e5, p5, l5, g5⟩ := c_add (σ := σ4) e l4 (by omega)
    have F : Fx (fun b k => b = 110 ∨ (b = 109 ∧ k = 1)) σ σ5 := (((p1.tr p2).tr p3).tr p4).tr p5
    obtain ⟨τ1, d1, q1, m1, w1⟩ := m_types (σ := σ5) a ((F 166 4 (by omega)).trans t4) (by omega)
    obtain ⟨τ2, d2, q2, m2, w2⟩ := m_types (σ := τ1) b m1 (by omega)
    obtain ⟨τ3, d3, q3, m3, w3⟩ := m_types (σ := τ2) c m2 (by omega)
    obtain ⟨τ4, d4, q4, m4, w4⟩ := m_types (σ := τ3) d m3 (by omega)
    obtain ⟨τ5, d5, q5, m5, w5⟩ := m_types (σ := τ4) e m4 (by omega)
    have G : Fx (fun b k => b = 170 ∨ (b = 166 ∧ k = 4)) σ5 τ5 := (((q1.tr q2).tr q3).tr q4).tr q5
    have H : Fx (fun b k => b = 110 ∨ (b = 109 ∧ k = 1) ∨ b = 170 ∨ (b = 166 ∧ k = 4)) σ τ5 := (F.mo (fun b k q => by omega)).tr (G.mo (fun b k q => by omega))
    refine ⟨σ5.1 109 1, τ5.1 166 4, σ5, τ5, ?_, ?_, by rw [l5, m5], ?_⟩
    · unfold Pz_feed Pz_feed0
      rw [t2, en, if_pos ((leL 260 (by omega) (by decide)).mpr q), e1, Option.bind_some, e2, Option.bind_some, e3, Option.bind_some, e4, Option.bind_some, e5, Option.bind_some]
    · unfold Md_feed Md_feed0
      rw [F 166 4 (by omega), t4, en, if_pos ((leL 260 (by omega) (by decide)).mpr q), d1, Option.bind_some, d2, Option.bind_some, d3, Option.bind_some, d4, Option.bind_some, d5, Option.bind_some]
    · have er : τ5.1 167 = σ.1 167 := funext fun k => H 167 k (by omega)
      refine ⟨?_, by rw [er]; exact h2, InvK_of h3 (fun b k q => H b k (by omega)), ⟨?_, ⟨n + 20, q, ?_⟩, ?_⟩, InvW_of h5 (fun b k q => H b k (by omega))⟩
      · rw [er]
        exact LD_of h1 (fun b k a c => H b k (by omega))
      · rw [G 109 1 (by omega), l5, m5]
      · rw [G 109 1 (by omega), l5]
      · have r0 : ∀ j, j < 260 → RB (σ.1 110 j) (σ.1 170 j) := t3
        have r1 := RB_up (RB_up (RB_up (RB_up (RB_up r0 n a) (n + 4) b) (n + 4 + 4) c) (n + 4 + 4 + 4) d) (n + 4 + 4 + 4 + 4) e
        have ec : τ5.1 110 = upT (n + 4 + 4 + 4 + 4) e (upT (n + 4 + 4 + 4) d (upT (n + 4 + 4) c (upT (n + 4) b (upT n a (σ.1 110))))) := by
          rw [show τ5.1 110 = σ5.1 110 from funext fun k => G 110 k (by omega), g5, g4, g3, g2, g1]
        have em : τ5.1 170 = upB (n + 4 + 4 + 4 + 4) e (upB (n + 4 + 4 + 4) d (upB (n + 4 + 4) c (upB (n + 4) b (upB n a (σ.1 170))))) := by
          rw [w5, w4, w3, w2, w1, show σ5.1 170 = σ.1 170 from funext fun k => F 170 k (by omega)]
        rw [ec, em]
        exact r1
  · refine ⟨-1, -1, σ, σ, ?_, ?_, rfl, h1, h2, h3, ⟨t1, ⟨n, hn, t2⟩, t3⟩, h5⟩
    · unfold Pz_feed Pz_feed0
      rw [t2, en, if_neg (mt (leL 260 (by omega) (by decide)).mp q)]
    · unfold Md_feed Md_feed0
      rw [t4, en, if_neg (mt (leL 260 (by omega) (by decide)).mp q)]
/-- the tape emptied on both sides -/
def clr (σ : MH) : MH := sI (sI σ 109 1 0) 166 4 0
theorem Inv_clr (hI : Inv σ) : Inv (clr σ) := by
  obtain ⟨h1, h2, h3, ⟨t1, t2, t3⟩, h5⟩ := hI
  have H : Fx (fun b k => (b = 109 ∧ k = 1) ∨ (b = 166 ∧ k = 4)) σ (clr σ) := (Fx_sI (Or.inl ⟨rfl, rfl⟩)).tr (Fx_sI (Or.inr ⟨rfl, rfl⟩))
  have er : (clr σ).1 167 = σ.1 167 := funext fun k => H 167 k (by omega)
  have e1 : (clr σ).1 109 1 = 0 := by unfold clr; rw [sI_obj (by decide), sI_same]
  have e2 : (clr σ).1 166 4 = 0 := by unfold clr; rw [sI_same]
  refine ⟨?_, by rw [er]; exact h2, InvK_of h3 (fun b k q => H b k (by omega)), ⟨by rw [e1, e2], ⟨0, by omega, e1⟩, fun j hj => ?_⟩, InvW_of h5 (fun b k q => H b k (by omega))⟩
  · rw [er]
    exact LD_of h1 (fun b k a c => H b k (by omega))
  · rw [H 110 j (by omega), H 170 j (by omega)]
    exact t3 j hj
theorem byte_hg {b : Nat} (hb : b < 256) (hj : j < 260) (t : σ.1 110 j = nI b ∧ σ.1 170 j = jb (nI b)) : (σ.1 170 j) &&& 255 = σ.1 110 j := by
  rw [t.1, t.2, jb_255 hb]
theorem bytes_eq (hI : Inv σ) (hj : j < 260) : (σ.1 170 j) &&& 255 = σ.1 110 j := by
  obtain ⟨b, hb, t⟩ := hI.2.2.2.1.2.2 j hj
  exact byte_hg hb hj t
theorem st_check (hI : Inv σ) (x y : Int32) : ∃ (r r' : Int32) (σ1 : MH) (σ2 : MH), Pz_check x y σ = some (r, σ1) ∧ Md_check x y σ1 = some (r', σ2) ∧ r = r' ∧ Inv σ2 := by
  have no : Pz_check x y σ = some (-2, σ) → Md_check x y σ = some (-2, σ) → ∃ (r r' : Int32) (σ1 : MH) (σ2 : MH), Pz_check x y σ = some (r, σ1) ∧ Md_check x y σ1 = some (r', σ2) ∧ r = r' ∧ Inv σ2 := fun h1 h2 => ⟨-2, -2, σ, σ, h1, h2, rfl, hI⟩
  obtain ⟨t1, ⟨n, hn, t2⟩, t3⟩ := hI.2.2.2.1
  have t4 : σ.1 166 4 = nI n := t1.symm.trans t2
  rcases tw_ix x with ⟨k, hk, rfl⟩ | h
  · rcases limN y 8 with ⟨m, hm, rfl⟩ | h
    · obtain ⟨y1, y2, y3, y4⟩ := limN_y 8 hm (by decide) σ
      by_cases q : m ≤ n
      · have e1 : ∃ r, Pz_check_L41 (nI k) (nI m) (sI σ 109 1 0) 0 = some r ∧ Md_check_L35 (nI k) (nI m) (sI (sI σ 109 1 0) 166 4 0) 0 = some r := by
          have hb : ∀ j, j < m → Pz_check_l41 (nI k) (nI m) (nI j) (sI σ 109 1 0) = (if σ.1 110 j = σ.1 167 (112 + 8 * k + j) + 9 then some (.inl (nI (j + 1))) else some (.inr (nI j))) := fun j hj => by
            obtain ⟨f1, f2, f3, f4⟩ := ix3 260 (show j < 260 by omega)
            obtain ⟨g1, g2, g3, g4⟩ := ix3 12 hk
            obtain ⟨k1, k2, k3, k4⟩ := ix3 8 (show j < 8 by omega)
            unfold Pz_check_l41
            rw [if_neg (by rw [nI_leI (by omega) (by omega)]; omega), if_pos f2, if_pos g2, if_pos k2, f3, g3, rf9 hk, sI_obj (by decide), sI_obj (by omega), hI.1.2.2.1 k j hk (by omega), show nI j + 1 = nI (j + 1) from nI_1 _]
          have hm' : ∀ j, j < m → Md_check_l35 (nI k) (nI m) (nI j) (sI (sI σ 109 1 0) 166 4 0) = (if σ.1 110 j = σ.1 167 (112 + 8 * k + j) + 9 then some (.inl (nI (j + 1))) else some (.inr (nI j))) := fun j hj => by
            obtain ⟨f1, f2, f3, f4⟩ := ix3 260 (show j < 260 by omega)
            unfold Md_check_l35
            rw [if_neg (by rw [nI_leI (by omega) (by omega)]; omega), if_pos f2, f3, m_heightOf hk (by omega), Option.bind_some, sI_obj (by decide), sI_obj (by decide), bytes_eq hI (by omega), sI_objF (by decide), sI_objF (by decide), show nI j + 1 = nI (j + 1) from nI_1 _]
            rfl
          have he : Pz_check_l41 (nI k) (nI m) (nI m) (sI σ 109 1 0) = some (.inr (-1)) := by
            unfold Pz_check_l41
            rw [if_pos (Int32.le_refl _)]
          have he' : Md_check_l35 (nI k) (nI m) (nI m) (sI (sI σ 109 1 0) 166 4 0) = some (.inr (-1)) := by
            unfold Md_check_l35
            rw [if_pos (Int32.le_refl _)]
          have ef : ∀ d j N, j + d = m → d < N → itr (fun s : Int32 => Pz_check_l41 (nI k) (nI m) s (sI σ 109 1 0)) N (nI j) = itr (fun s : Int32 => Md_check_l35 (nI k) (nI m) s (sI (sI σ 109 1 0) 166 4 0)) N (nI j) ∧ ∃ r, itr (fun s : Int32 => Pz_check_l41 (nI k) (nI m) s (sI σ 109 1 0)) N (nI j) = some r := fun d => by
            induction d with
            | zero =>
              intro j N h1 h2
              obtain ⟨N, rfl⟩ := Nat.exists_eq_succ_of_ne_zero (show N ≠ 0 by omega)
              rw [show j = m by omega, itr_end he, itr_end he']
              exact ⟨rfl, _, rfl⟩
            | succ d ih =>
              intro j N h1 h2
              obtain ⟨N, rfl⟩ := Nat.exists_eq_succ_of_ne_zero (show N ≠ 0 by omega)
              have a1 := hb j (by omega)
              have a2 := hm' j (by omega)
              by_cases c : σ.1 110 j = σ.1 167 (112 + 8 * k + j) + 9
              · rw [if_pos c] at a1 a2
                rw [itr_one a1, itr_one a2]
                exact ih (j + 1) N (by omega) (by omega)
              · rw [if_neg c] at a1 a2
                rw [itr_end a1, itr_end a2]
                exact ⟨rfl, _, rfl⟩
          obtain ⟨a, r, b⟩ := ef m 0 FU (by omega) (by show m < 1000000; omega)
          exact ⟨r, b, a.symm.trans b⟩
        obtain ⟨r, e1, e2⟩ := e1
        refine ⟨r, r, sI σ 109 1 0, clr σ, ?_, ?_, rfl, Inv_clr hI⟩
        · unfold Pz_check Pz_check0
          rw [v_isNumber hk, Option.bind_some, if_neg (by decide), if_neg y2, if_neg y4, t2, if_pos ((nI_leI (by omega) (by omega)).mpr q), e1]
          rfl
        · have y1' := (limN_y 8 hm (by decide) (sI σ 109 1 0)).1
          rw [show (OfNat.ofNat 8 : Int32) = 8 from rfl] at y1'
          unfold Md_check Md_check0
          rw [m_isTwelve hk, Option.bind_some, if_neg (by decide), y1', Option.bind_some, if_neg (by decide), sI_obj (by decide), t4, if_pos ((nI_leI (by omega) (by omega)).mpr q), e2]
          rfl
      · refine no ?_ ?_
        · unfold Pz_check Pz_check0
          rw [v_isNumber hk, Option.bind_some, if_neg (by decide), if_neg y2, if_neg y4, t2, if_neg (fun z => q ((nI_leI (by omega) (by omega)).mp z))]
        · rw [show (OfNat.ofNat 8 : Int32) = 8 from rfl] at y1
          unfold Md_check Md_check0
          rw [m_isTwelve hk, Option.bind_some, if_neg (by decide), y1, Option.bind_some, if_neg (by decide), t4, if_neg (fun z => q ((nI_leI (by omega) (by omega)).mp z))]
    · refine no ?_ ?_
      · unfold Pz_check Pz_check0
        rw [v_isNumber hk, Option.bind_some, if_neg (by decide)]
        rcases h with h | h
        · rw [if_pos h]
        · rw [if_pos h]
          split <;> rfl
      · unfold Md_check Md_check0
        rw [m_isTwelve hk, Option.bind_some, if_neg (by decide), limN_n h, Option.bind_some, if_pos rfl]
  · refine no ?_ ?_
    · unfold Pz_check Pz_check0
      rw [v_isNumberF h, Option.bind_some, if_pos rfl]
    · unfold Md_check Md_check0
      rw [m_isTwelveF h, Option.bind_some, if_pos rfl]
end TAPE
