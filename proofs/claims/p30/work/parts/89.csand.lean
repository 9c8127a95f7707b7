/-! sanding, in the class -/
section CSA
variable {σ : MH} {A : Nat → Int32} {i j k n w h p r s a R S : Nat} {b : Option Nat}
theorem jabs_nat {x : Int32} (h1 : -100 ≤ x.toInt) (h2 : x.toInt ≤ 100) : jabs x = nI x.toInt.natAbs := by
  unfold jabs
  rw [ti_eq, nI_toInt (by omega)]
  have e0 : (0 : Int32).toInt = 0 := rfl
  by_cases q : (0 : Int32) ≤ x
  · rw [if_pos q]
    rw [ti_le, e0] at q
    omega
  · rw [if_neg q, ti_sub (by omega) (by omega), e0]
    rw [ti_le, e0] at q
    omega
def b9 (x : Int32) : Prop := -9 ≤ x.toInt ∧ x.toInt ≤ 9
theorem b9_of (wf : WF A) (hk : k < 12) (hh : h < 8) : b9 (hgR A k h) := by
  have := hg_bd wf hk h hh
  rw [ti_le, ti_le] at this
  exact this
def gz (o : Int32) (p : Nat) : Nat := (((p : Int) - 9) + o.toInt).natAbs
def cz (f : Int32) (p : Nat) : Nat := min 18 (((p : Int) - 9) - f.toInt).natAbs
theorem nI9 (hp : p < 19) : (nI p - 9).toInt = (p : Int) - 9 := by
  rw [ti_sub (by rw [nI_toInt (by omega)]; show (-2147483648 : Int) ≤ (p : Int) - 9; omega) (by rw [nI_toInt (by omega)]; show (p : Int) - 9 < 2147483648; omega), nI_toInt (by omega)]
  rfl
theorem gz_is {o : Int32} (ho : b9 o) (hp : p < 19) : jabs ((nI p - 9) + o) = nI (gz o p) ∧ jabs ((nI p - 9) - (-o)) = nI (gz o p) ∧ gz o p ≤ 18 := by
  obtain ⟨o1, o2⟩ := ho
  have e := nI9 hp
  have e2 : ((nI p - 9) + o).toInt = ((p : Int) - 9) + o.toInt := by rw [ti_add (by omega) (by omega), e]
  have e3 : jabs ((nI p - 9) + o) = nI (gz o p) := by
    rw [jabs_nat (by omega) (by omega), e2]
    rfl
  refine ⟨e3, ?_, ?_⟩
  · rw [← e3]
    congr 1
    grind
  · unfold gz
    omega
theorem cz_is {f : Int32} (hf : b9 f) (hp : p < 19) : jabs ((nI p - 9) - f) = nI (cz f p) := by
  obtain ⟨o1, o2⟩ := hf
  have e := nI9 hp
  have e2 : ((nI p - 9) - f).toInt = ((p : Int) - 9) - f.toInt := by rw [ti_sub (by omega) (by omega), e]
  rw [jabs_nat (by omega) (by omega), e2]
  unfold cz
  rw [Nat.min_eq_right (by omega)]
def mt2 (A : Nat → Int32) (a : Nat) (b : Option Nat) (h : Nat) : Int32 := hgR A (b.getD a) (7 - h)
def G1A (A : Nat → Int32) (a : Nat) (h p : Nat) : Nat := gz (hgR A a (7 - h)) p
def G2A (A : Nat → Int32) (b : Option Nat) (h p : Nat) : Nat := match b with
  | none => 0
  | some c => gz (hgR A c (7 - h)) p
def C0A (A : Nat → Int32) (k : Nat) (h p : Nat) : Nat := cz (hgR A k h) p
def loZ (x y z : Int32) : Nat := (9 + min x.toInt (min (-y.toInt) (-z.toInt))).toNat
def hiZ (x y z : Int32) : Nat := (9 + max x.toInt (max (-y.toInt) (-z.toInt))).toNat
def loA (A : Nat → Int32) (k a : Nat) (b : Option Nat) (h : Nat) : Nat := loZ (hgR A k h) (hgR A a (7 - h)) (mt2 A a b h)
def hiA (A : Nat → Int32) (k a : Nat) (b : Option Nat) (h : Nat) : Nat := hiZ (hgR A k h) (hgR A a (7 - h)) (mt2 A a b h)
theorem lohi {x y z : Int32} (hx : b9 x) (hy : b9 y) (hz : b9 z) : 9 + jmin x (jmin (-y) (-z)) = nI (loZ x y z) ∧ 9 + jmax x (jmax (-y) (-z)) = nI (hiZ x y z) ∧ loZ x y z < 19 ∧ hiZ x y z < 19 := by
  obtain ⟨x1, x2⟩ := hx
  obtain ⟨y1, y2⟩ := hy
  obtain ⟨z1, z2⟩ := hz
  have ng : ∀ y : Int32, -9 ≤ y.toInt → y.toInt ≤ 9 → (-y).toInt = -y.toInt := fun y h1 h2 => by
    have : -y = 0 - y := by grind
    rw [this, ti_sub (by rw [show (0 : Int32).toInt = 0 from rfl]; omega) (by rw [show (0 : Int32).toInt = 0 from rfl]; omega), show (0 : Int32).toInt = 0 from rfl]
    omega
  have mn : ∀ u v : Int32, (jmin u v).toInt = min u.toInt v.toInt := fun u v => by
    unfold jmin
    by_cases q : v < u
    · rw [if_pos q]; rw [ti_lt] at q; omega
    · rw [if_neg q]; rw [ti_lt] at q; omega
  have mx : ∀ u v : Int32, (jmax u v).toInt = max u.toInt v.toInt := fun u v => by
    unfold jmax
    by_cases q : u < v
    · rw [if_pos q]; rw [ti_lt] at q; omega
    · rw [if_neg q]; rw [ti_lt] at q; omega
  have e1 : (jmin x (jmin (-y) (-z))).toInt = min x.toInt (min (-y.toInt) (-z.toInt)) := by rw [mn, mn, ng y y1 y2, ng z z1 z2]
  have e2 : (jmax x (jmax (-y) (-z))).toInt = max x.toInt (max (-y.toInt) (-z.toInt)) := by rw [mx, mx, ng y y1 y2, ng z z1 z2]
  have e9 : (9 : Int32).toInt = 9 := rfl
  refine ⟨?_, ?_, ?_, ?_⟩
  · rw [ti_eq, ti_add (by rw [e1, e9]; omega) (by rw [e1, e9]; omega), e1, e9, nI_toInt (by unfold loZ; omega)]
    unfold loZ
    omega
  · rw [ti_eq, ti_add (by rw [e2, e9]; omega) (by rw [e2, e9]; omega), e2, e9, nI_toInt (by unfold hiZ; omega)]
    unfold hiZ
    omega
  · unfold loZ; omega
  · unfold hiZ; omega
theorem mt2_b9 (wf : WF A) (ha : a < 12) (hb : ∀ c, b = some c → c < 12) (hh : h < 8) : b9 (mt2 A a b h) := by
  unfold mt2
  cases b with
  | none => exact b9_of wf ha (by omega)
  | some c => exact b9_of wf (hb c rfl) (by omega)
theorem narA (wf : WF A) (hk : k < 12) (ha : a < 12) (hb : ∀ c, b = some c → c < 12) : NarF (G1A A a) (G2A A b) (C0A A k) (loA A k a b) (hiA A k a b) := by
  refine ⟨fun h p => ?_, fun h p hh hp hl => ?_, fun h p hh hp hl => ?_⟩
  · unfold C0A cz
    omega
  · have b1 := b9_of (h := h) wf hk hh
    have b2 := b9_of (h := 7 - h) wf ha (by omega)
    have b3 := mt2_b9 wf ha hb hh
    have hlo := (lohi b1 b2 b3).2.2.1
    have e2 : G2A A b h (loA A k a b h) ≤ G2A A b h p := by
      unfold loA at *
      cases b with
      | none => exact Nat.le_refl _
      | some c =>
        unfold b9 mt2 at *
        show gz (hgR A c (7 - h)) _ ≤ gz (hgR A c (7 - h)) p
        unfold gz loZ at *
        simp only [Option.getD_some] at *
        omega
    refine ⟨hlo, ?_, e2, ?_⟩
    · unfold loA G1A gz loZ b9 at *
      omega
    · unfold loA C0A cz loZ b9 at *
      omega
  · have b1 := b9_of (h := h) wf hk hh
    have b2 := b9_of (h := 7 - h) wf ha (by omega)
    have b3 := mt2_b9 wf ha hb hh
    have e2 : G2A A b h (hiA A k a b h) ≤ G2A A b h p := by
      unfold hiA at *
      cases b with
      | none => exact Nat.le_refl _
      | some c =>
        unfold b9 mt2 at *
        show gz (hgR A c (7 - h)) _ ≤ gz (hgR A c (7 - h)) p
        unfold gz hiZ at *
        simp only [Option.getD_some] at *
        omega
    refine ⟨?_, e2, ?_⟩
    · unfold hiA G1A gz hiZ b9 at *
      omega
    · unfold hiA C0A cz hiZ b9 at *
      omega
/-- what the class has weighed for a height -/
def WG (G1 G2 C0 : Nat → Nat → Nat) (lo hi : Nat → Nat) (n : Nat) (σ : MH) : Prop := σ.1 159 9 = nI (lo (7 - n)) ∧ σ.1 159 10 = nI (hi (7 - n)) ∧ ∀ p, p < 19 → σ.2 161 p = jI (C0 (7 - n) p * CHG + p * 19 ^ n) ∧ σ.1 162 p = nI (G1 (7 - n) p) ∧ σ.1 163 p = nI (G2 (7 - n) p)
theorem c_weigh (x y z : Int32) (hx : b9 x) (hy : b9 y) (hz : b9 z) (D : Nat) : ∃ σ', Sander_weigh x (-y) (-z) (jI D) σ = some σ' ∧ Fx (fun b _ => b = 159 ∨ b = 162 ∨ b = 163) σ σ' ∧ σ'.2 164 = σ.2 164 ∧ σ'.1 159 9 = nI (loZ x y z) ∧ σ'.1 159 10 = nI (hiZ x y z) ∧ ∀ p, p < 19 → σ'.2 161 p = jI (cz x p * CHG + p * D) ∧ σ'.1 162 p = nI (gz y p) ∧ σ'.1 163 p = nI (gz z p) := by
  obtain ⟨l1, l2, l3, l4⟩ := lohi hx hy hz
  have key : ∃ r, Sander_weigh_L35 x (-y) (-z) (jI D) (0, sI (sI σ 159 9 (9 + (jmin x (jmin (-y) (-z))))) 159 10 (9 + (jmax x (jmax (-y) (-z))))) = some r ∧ Fx (fun b _ => b = 159 ∨ b = 162 ∨ b = 163) σ r ∧ r.2 164 = σ.2 164 ∧ r.1 159 9 = nI (loZ x y z) ∧ r.1 159 10 = nI (hiZ x y z) ∧ ∀ p, p < 19 → r.2 161 p = jI (cz x p * CHG + p * D) ∧ r.1 162 p = nI (gz y p) ∧ r.1 163 p = nI (gz z p) := by
    have F0 : Fx (fun b _ => b = 159 ∨ b = 162 ∨ b = 163) σ (sI (sI σ 159 9 (9 + (jmin x (jmin (-y) (-z))))) 159 10 (9 + (jmax x (jmax (-y) (-z))))) := (Fx_sI (P := fun b _ => b = 159 ∨ b = 162 ∨ b = 163) (Or.inl rfl)).tr (Fx_sI (Or.inl rfl))
    refine itr_n 19 (fun (k : Nat) (u : Int32 × MH) => u.1 = nI k ∧ Fx (fun b _ => b = 159 ∨ b = 162 ∨ b = 163) σ u.2 ∧ u.2.2 164 = σ.2 164 ∧ u.2.1 159 9 = nI (loZ x y z) ∧ u.2.1 159 10 = nI (hiZ x y z) ∧ ∀ p, p < k → u.2.2 161 p = jI (cz x p * CHG + p * D) ∧ u.2.1 162 p = nI (gz y p) ∧ u.2.1 163 p = nI (gz z p)) _ ⟨rfl, F0, rfl, by rw [sI_fld (by decide), sI_same, l1], by rw [sI_same, l2], fun p hp => by omega⟩ (fun k u hk hu => ?_) (fun u hu => ?_)
    · obtain ⟨u1, u2⟩ := u
      obtain ⟨rfl, hf, h4, h9, h10, hv⟩ := hu
      dsimp only at hf h4 h9 h10 hv
      obtain ⟨f1, f2, f3, f4⟩ := ix3 19 hk
      obtain ⟨y1, y2, y3⟩ := gz_is hy hk
      obtain ⟨z1, z2, z3⟩ := gz_is hz hk
      have x1 := cz_is hx hk
      have x2 : cz x k ≤ 18 := by unfold cz; omega
      left
      refine ⟨(nI (k + 1), sI (sI (sJ u2 161 k (jI (cz x k * CHG + k * D))) 162 k (nI (gz y k))) 163 k (nI (gz z k))), ?_, rfl, ((hf.tr Fx_sJ).tr (Fx_sI (Or.inr (Or.inl rfl)))).tr (Fx_sI (Or.inr (Or.inr rfl))), ?_, ?_, ?_, fun p hp => ?_⟩
      · show Sander_weigh_l35 x (-y) (-z) (jI D) (nI k) u2 = _
        unfold Sander_weigh_l35
        rw [if_neg f1, if_pos f2, f3, x1, y2, z2, jI_of (by omega), jI_of (by omega), litJ 16983563041, jI_mul, jI_mul, jI_add, show nI k + 1 = nI (k + 1) from nI_1 _]
        rfl
      · dsimp only
        rw [sI_2, sI_2]
        show (sJ u2 161 k _).2 164 = _
        rw [← h4]
        exact funext fun m => sJ_ne (by omega)
      · dsimp only
        rw [sI_obj (by decide), sI_obj (by decide), sJ_1]; exact h9
      · dsimp only
        rw [sI_obj (by decide), sI_obj (by decide), sJ_1]; exact h10
      · dsimp only
        rw [sI_2, sI_2]
        by_cases e : p = k
        · subst e
          refine ⟨sJ_same, ?_, ?_⟩
          · rw [sI_obj (by decide), sI_same]
          · rw [sI_same]
        · rw [sJ_ne (by omega), sI_ne (by omega), sI_ne (by omega), sI_ne (by omega), sI_ne (by omega), sJ_1]
          exact hv p (by omega)
    · obtain ⟨u1, u2⟩ := u
      obtain ⟨rfl, hu⟩ := hu
      refine ⟨u2, ?_, hu⟩
      show Sander_weigh_l35 x (-y) (-z) (jI D) (nI 19) u2 = _
      unfold Sander_weigh_l35
      rw [if_pos (by decide)]
  obtain ⟨u, e, hu⟩ := key
  refine ⟨u, ?_, hu⟩
  unfold Sander_weigh Sander_weigh0
  rw [e]
  rfl
theorem c_leastOf (hr : r ≤ 60) (hs : s ≤ 60) : Sander_leastOf (nI r) (nI s) σ = some (σ.2 164 (r * 61 + s)) := by
  obtain ⟨f1, f2, f3, f4⟩ := ix3 61 (show r < 61 by omega)
  obtain ⟨g1, g2, g3, g4⟩ := ix3 61 (show s < 61 by omega)
  unfold Sander_leastOf Sander_leastOf0
  rw [if_neg f4, if_neg g4, if_neg f1, if_pos ((ltL 61 (by omega) (by decide)).mpr (by omega)), lit_nI 61, pk_mul, nI_add, if_pos (inb_nI (by omega) (by decide)), nI_clamp (by omega)]
theorem c_leastOfN {x y : Int32} (h : x < 0 ∨ y < 0) : Sander_leastOf x y σ = some (jI NEV) := by
  unfold Sander_leastOf Sander_leastOf0 Sander_leastOf_b20
  rcases h with h | h
  · rw [if_pos h]; rfl
  · rw [if_pos h]
    split <;> rfl
theorem sub_neg {a b : Nat} (ha : a < 2 ^ 31) (hb : b < 2 ^ 31) (h : a < b) : nI a - nI b < 0 := by
  rw [ti_lt, ti_sub (by rw [nI_toInt ha, nI_toInt hb]; omega) (by rw [nI_toInt ha, nI_toInt hb]; omega), nI_toInt ha, nI_toInt hb]
  show _ < (0 : Int)
  omega
variable {G1 G2 C0 : Nat → Nat → Nat} {lo hi : Nat → Nat}
theorem c_bestHere (hN : NarF G1 G2 C0 lo hi) (hn : n ≤ 7) (hlo : lo (7 - n) < 19) (hhi : hi (7 - n) < 19) (hg : ∀ p, p < 19 → G1 (7 - n) p ≤ 18 ∧ G2 (7 - n) p ≤ 18) (hW : WG G1 G2 C0 lo hi n σ) (hr : r ≤ 60) (hs : s ≤ 60) (hv : ∀ r' s', r' ≤ r → s' ≤ s → σ.2 164 (r' * 61 + s') = jI (valF G1 G2 C0 n r' s')) : Sander_bestHere (nI r) (nI s) σ = some (jI (valF G1 G2 C0 (n + 1) r s)) := by
  obtain ⟨w9, w10, wp⟩ := hW
  have cand_lt : ∀ p, p < 19 → candF G1 G2 C0 n p r s ≤ NEV := fun p hp => by
    unfold candF
    split
    · rename_i q
      have h1 := val_lt hN.1 (show n ≤ 8 by omega) (fun z => q.2.2 ((val_nev hN.1 (by omega)).2.mpr z))
      have h2 := hN.1 (7 - n) p
      have h3 : C0 (7 - n) p * CHG ≤ 18 * CHG := Nat.mul_le_mul_right _ h2
      have h4 : p * 19 ^ n ≤ 18 * CHG := Nat.mul_le_mul (by omega) (pow19 (by omega))
      have : CHG = 16983563041 := rfl
      have : NEV = 4611686018427387904 := rfl
      omega
    · exact Nat.le_refl _
  have nev63 : NEV < 2 ^ 63 := by decide
  obtain ⟨R, e, hR⟩ : ∃ x, Sander_bestHere_L14 (nI r) (nI s) σ (jI NEV, nI (lo (7 - n))) = some x ∧ ∃ R, x = jI R ∧ R ≤ NEV ∧ (R = NEV ∨ ∃ p, p < 19 ∧ R = candF G1 G2 C0 n p r s) ∧ (∀ p, lo (7 - n) ≤ p → p ≤ hi (7 - n) → p < 19 → R ≤ candF G1 G2 C0 n p r s) := by
    refine itr_n (hi (7 - n) + 1 - lo (7 - n)) (fun (m : Nat) (z : Int64 × Int32) => z.2 = nI (lo (7 - n) + m) ∧ ∃ R, z.1 = jI R ∧ R ≤ NEV ∧ (R = NEV ∨ ∃ p, p < 19 ∧ R = candF G1 G2 C0 n p r s) ∧ (∀ p, lo (7 - n) ≤ p → p < lo (7 - n) + m → R ≤ candF G1 G2 C0 n p r s)) _ ⟨rfl, NEV, rfl, Nat.le_refl _, Or.inl rfl, fun p a b => by omega⟩ (fun m z hm hz => ?_) (fun z hz => ?_) (by show hi (7 - n) + 1 - lo (7 - n) < 1000000; omega)
    · obtain ⟨z1, z2⟩ := z
      obtain ⟨e2, R, e1, r1, r2, r3⟩ := hz
      dsimp only at e1 e2
      subst e1; subst e2
      have hq : lo (7 - n) + m < 19 := by omega
      generalize hp : lo (7 - n) + m = p at hq
      obtain ⟨c1, c2, c3⟩ := wp p hq
      obtain ⟨g1, g2⟩ := hg p hq
      have hc := cand_lt p hq
      obtain ⟨f1, f2, f3, f4⟩ := ix3 19 hq
      have hmin : ∀ R', (R' = R ∧ candF G1 G2 C0 n p r s = NEV) ∨ R' = min R (candF G1 G2 C0 n p r s) → R' ≤ NEV ∧ (R' = NEV ∨ ∃ p, p < 19 ∧ R' = candF G1 G2 C0 n p r s) ∧ (∀ p, lo (7 - n) ≤ p → p < lo (7 - n) + (m + 1) → R' ≤ candF G1 G2 C0 n p r s) := fun R' hR' => by
        have hle : R' ≤ R ∧ R' ≤ candF G1 G2 C0 n p r s := by omega
        refine ⟨by omega, ?_, fun x a b => ?_⟩
        · rcases hR' with ⟨h, -⟩ | h
          · rw [h]; exact r2
          · by_cases c : R ≤ candF G1 G2 C0 n p r s
            · rw [Nat.min_eq_left c] at h
              rw [h]; exact r2
            · rw [Nat.min_eq_right (by omega)] at h
              exact Or.inr ⟨p, hq, h⟩
        · by_cases c : x = p
          · rw [c]; exact hle.2
          · have := r3 x a (by omega)
            omega
      have e9 : nI p + 1 = nI (lo (7 - n) + (m + 1)) := by
        rw [show nI p + 1 = nI (p + 1) from nI_1 _, ← hp]
        rfl
      left
      show ∃ s', Sander_bestHere_l14 (nI r) (nI s) (jI R) (nI p) σ = _ ∧ _
      unfold Sander_bestHere_l14 Sander_bestHere_b78
      rw [w10, if_neg (by rw [nI_ltI (by omega) (by omega)]; omega), if_neg f1, if_pos f2, f3, c2, c3, c1, e9]
      have hcase : candF G1 G2 C0 n p r s = if G1 (7 - n) p ≤ r ∧ G2 (7 - n) p ≤ s ∧ valF G1 G2 C0 n (r - G1 (7 - n) p) (s - G2 (7 - n) p) ≠ NEV then valF G1 G2 C0 n (r - G1 (7 - n) p) (s - G2 (7 - n) p) + (C0 (7 - n) p * CHG + p * 19 ^ n) else NEV := rfl
      by_cases q1 : G1 (7 - n) p ≤ r
      · by_cases q2 : G2 (7 - n) p ≤ s
        · rw [pk_sub q1, pk_sub q2, c_leastOf (by omega) (by omega), hv _ _ (by omega) (by omega), Option.bind_some]
          have hvn := (val_nev (G1 := G1) (G2 := G2) (n := n) (r := r - G1 (7 - n) p) (s := s - G2 (7 - n) p) hN.1 (by omega)).1
          by_cases q3 : valF G1 G2 C0 n (r - G1 (7 - n) p) (s - G2 (7 - n) p) = NEV
          · rw [if_pos (by rw [litJ 4611686018427387904]; exact (lg_J (by omega) nev63).mpr q3)]
            rw [if_neg (fun z => z.2.2 q3)] at hcase
            exact ⟨_, rfl, rfl, R, rfl, hmin R (Or.inl ⟨rfl, hcase⟩)⟩
          · rw [if_pos ⟨q1, q2, q3⟩] at hcase
            rw [if_neg (by rw [litJ 4611686018427387904]; exact fun z => q3 ((lg_J (by omega) nev63).mp z)), jI_add, ← hcase, jlmin_J (by omega) (by omega)]
            exact ⟨_, rfl, rfl, _, rfl, hmin _ (Or.inr rfl)⟩
        · rw [if_neg (fun z => q2 z.2.1)] at hcase
          rw [c_leastOfN (Or.inr (sub_neg (by omega) (by omega) (by omega))), Option.bind_some, if_pos (by rw [litJ 4611686018427387904]; exact (lg_J nev63 nev63).mpr rfl)]
          exact ⟨_, rfl, rfl, R, rfl, hmin R (Or.inl ⟨rfl, hcase⟩)⟩
      · rw [if_neg (fun z => q1 z.1)] at hcase
        rw [c_leastOfN (Or.inl (sub_neg (by omega) (by omega) (by omega))), Option.bind_some, if_pos (by rw [litJ 4611686018427387904]; exact (lg_J nev63 nev63).mpr rfl)]
        exact ⟨_, rfl, rfl, R, rfl, hmin R (Or.inl ⟨rfl, hcase⟩)⟩
    · obtain ⟨z1, z2⟩ := z
      obtain ⟨e2, R, e1, r1, r2, r3⟩ := hz
      dsimp only at e1 e2
      subst e1; subst e2
      refine ⟨jI R, ?_, R, rfl, r1, r2, fun p a b c => r3 p a (by omega)⟩
      show Sander_bestHere_l14 (nI r) (nI s) (jI R) (nI _) σ = _
      unfold Sander_bestHere_l14
      rw [w10, if_pos (by rw [nI_ltI (by omega) (by omega)]; omega)]
  obtain ⟨R', rfl, r1, r2, r3⟩ := hR
  rw [← least_is hN hn r1 r2 r3]
  unfold Sander_bestHere Sander_bestHere0
  rw [w9, show jmax 0 (nI (lo (7 - n))) = nI (lo (7 - n)) from jmax0 ((leR 0 (by omega) (by decide)).mpr (Nat.zero_le _)), litJ 4611686018427387904, show jI 4611686018427387904 = jI NEV from rfl, e]
  rfl
end CSA
