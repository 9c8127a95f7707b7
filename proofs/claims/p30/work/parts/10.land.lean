/-! WHAT THE WRITTEN WALKS STAND ON -/
def FU : Nat := 1000000
def isLd (t : Nat) : Prop := t = 1 ∨ t = 37 ∨ t = 73
theorem ldk {t : Nat} (h : isLd t) : shk t = 3 := by rcases h with rfl | rfl | rfl <;> rfl
theorem ldA {t : Nat} (h : isLd t) (k : Nat) (hk : [2, 3, 4, 5, 6, 7, 8, 11, 12].contains k = true) : IA (rfv t k) 12 := by
  have h1 : k = 2 ∨ k = 3 ∨ k = 4 ∨ k = 5 ∨ k = 6 ∨ k = 7 ∨ k = 8 ∨ k = 11 ∨ k = 12 := by simpa using hk
  rcases h with rfl | rfl | rfl <;> rcases h1 with rfl | rfl | rfl | rfl | rfl | rfl | rfl | rfl | rfl <;> exact ⟨rfl, rfl⟩
theorem ldR {t : Nat} (h : isLd t) (k : Nat) (hk : [9, 10].contains k = true) : IR (rfv t k) 12 := by
  have h1 : k = 9 ∨ k = 10 := by simpa using hk
  rcases h with rfl | rfl | rfl <;> rcases h1 with rfl | rfl <;> exact ⟨rfl, rfl⟩
theorem inb_lt {i : Int32} {n : Nat} (h : inb i n = true) : i.toNatClampNeg < n := Nat.not_le.mp fun q => inb_in h (Or.inr q)
theorem rowsIA (a n k : Nat) (hc : (List.range n).all (fun i => shk (rfv a i) == 20 && shn (rfv a i) == k) = true) {j : Nat} (hj : j < n) : IA (rfv a j) k := by
  have h := List.all_eq_true.mp hc j (List.mem_range.mpr hj)
  simp only [Bool.and_eq_true, beq_iff_eq] at h
  exact h
theorem ldH {t : Nat} (h : isLd t) {i : Int32} (hi : inb i 12 = true) : IA (rfv (rfv t 9) i.toNatClampNeg) 8 := by
  rcases h with rfl | rfl | rfl
  · exact rowsIA _ 12 8 (by decide +kernel) (inb_lt hi)
  · exact rowsIA _ 12 8 (by decide +kernel) (inb_lt hi)
  · exact rowsIA _ 12 8 (by decide +kernel) (inb_lt hi)
theorem ldW {t : Nat} (h : isLd t) {i : Int32} (hi : inb i 12 = true) : IA (rfv (rfv t 10) i.toNatClampNeg) 144 := by
  rcases h with rfl | rfl | rfl
  · exact rowsIA _ 12 144 (by decide +kernel) (inb_lt hi)
  · exact rowsIA _ 12 144 (by decide +kernel) (inb_lt hi)
  · exact rowsIA _ 12 144 (by decide +kernel) (inb_lt hi)
theorem rw_9 {i : Int32} (hi : inb i 12 = true) : IA (rfv 9 i.toNatClampNeg) 8 := rowsIA 9 12 8 (by decide +kernel) (inb_lt hi)
theorem rw_22 {i : Int32} (hi : inb i 12 = true) : IA (rfv 22 i.toNatClampNeg) 144 := rowsIA 22 12 144 (by decide +kernel) (inb_lt hi)
theorem rw_133 {i : Int32} (hi : inb i 12 = true) : IA (rfv 133 i.toNatClampNeg) 12 := rowsIA 133 12 12 (by decide +kernel) (inb_lt hi)
theorem rw_150 {i : Int32} (hi : inb i 6 = true) : IA (rfv 150 i.toNatClampNeg) 6 := rowsIA 150 6 6 (by decide +kernel) (inb_lt hi)
theorem inbN (c n : Nat) (h : (Nat.blt c n && Nat.blt n 1000000) = true) : inb (Int32.ofNat c) n = true := by
  simp only [Bool.and_eq_true] at h
  have h1 := blt_lt h.1
  have h2 := blt_lt h.2
  unfold inb
  have h3 : ¬ (nI c < 0) := nI_pos (by omega)
  have h4 : (nI c).toNatClampNeg = c := nI_clamp (by omega)
  show (!(decide (nI c < 0) || Nat.ble n (nI c).toNatClampNeg)) = true
  rw [h4]
  simp only [h3, decide_false, Bool.false_or, Bool.not_eq_true']
  cases q : Nat.ble n c with
  | false => rfl
  | true => exact absurd (Nat.le_of_ble_eq_true q) (by omega)
theorem nzB {y : Int32} (h : (y != 0) = true) : y ≠ 0 := by simpa using h
theorem bdS {α β : Type} {x : Option α} {f : α → Option β} {o : β} (h : x.bind f = some o) : ∃ a, x = some a ∧ f a = some o := Option.bind_eq_some_iff.mp h
theorem gdS {b : Bool} {α : Type} {x : Option α} {o : α} (h : (if b = true then x else none) = some o) : b = true ∧ x = some o := by
  by_cases hb : b = true
  · rw [if_pos hb] at h; exact ⟨hb, h⟩
  · rw [if_neg hb] at h; cases h
theorem ifT {c : Prop} [Decidable c] {α : Type} {x y o : α} (hc : c) (h : (if c then x else y) = o) : x = o := by rwa [if_pos hc] at h
theorem ifF {c : Prop} [Decidable c] {α : Type} {x y o : α} (hc : ¬ c) (h : (if c then x else y) = o) : y = o := by rwa [if_neg hc] at h
def bzp (x : Option Int32) : Option Int32 := x.bind fun r => if bz r = true then some r else none
def bzo (x : Option (Int32 × MH)) : Option (Int32 × MH) := x.bind fun r => if bz r.1 = true then some r else none
theorem bzp1 {x : Option Int32} {o : Int32} (h : bzp x = some o) : x = some o := by
  obtain ⟨r, h1, h2⟩ := bdS h
  obtain ⟨-, h3⟩ := gdS h2
  cases h3; exact h1
theorem bzp2 {x : Option Int32} {o : Int32} (h : bzp x = some o) : bz o = true := by
  obtain ⟨r, h1, h2⟩ := bdS h
  obtain ⟨h4, h3⟩ := gdS h2
  cases h3; exact h4
theorem bzo1 {x : Option (Int32 × MH)} {o : Int32 × MH} (h : bzo x = some o) : x = some o := by
  obtain ⟨r, h1, h2⟩ := bdS h
  obtain ⟨-, h3⟩ := gdS h2
  cases h3; exact h1
theorem bzo2 {x : Option (Int32 × MH)} {o : Int32 × MH} (h : bzo x = some o) : bz o.1 = true := by
  obtain ⟨r, h1, h2⟩ := bdS h
  obtain ⟨h4, h3⟩ := gdS h2
  cases h3; exact h4
theorem nrB {x : Int32} (h : bz x = true) : narrow .boolean (.int x) = .int x := by
  unfold bz at h
  simp only [Bool.or_eq_true, beq_iff_eq] at h
  rcases h with rfl | rfl <;> decide
def entL : List Value → List (Option Value)
  | [] => []
  | .long z :: r => some (.long z) :: none :: entL r
  | v :: r => some v :: entL r
def ent0 (as : List Value) (n : Nat) : List (Option Value) := entL as ++ List.replicate (n - (entL as).length) none
theorem ent0_in {as : List Value} (hd : ∀ v ∈ as, ∀ z, v ≠ .double z) : ∀ (k i : Nat) (v : Value), (entL as)[i]? = some (some v) → (k + i, v) ∈ lv_args k as := by
  induction as with
  | nil => intro k i v h; simp [entL] at h
  | cons a r ih =>
    intro k i v h
    have ih' := ih (fun v hv => hd v (List.mem_cons_of_mem _ hv))
    have one : a.category = 1 → entL (a :: r) = some a :: entL r → (k + i, v) ∈ lv_args k (a :: r) := by
      intro hc he
      rw [he] at h
      simp only [lv_args]
      rw [if_neg (by rw [hc]; decide)]
      cases i with
      | zero => simp only [List.getElem?_cons_zero] at h; cases h; exact List.mem_cons_self
      | succ i =>
        refine List.mem_cons_of_mem _ ?_
        have := ih' (k + 1) i v h
        rwa [show k + 1 + i = k + (i + 1) by omega] at this
    cases a with
    | long z =>
      simp only [lv_args, Value.category, if_true]
      cases i with
      | zero => simp only [entL, List.getElem?_cons_zero] at h; cases h; exact List.mem_cons_self
      | succ i =>
        cases i with
        | zero => simp [entL] at h
        | succ i =>
          refine List.mem_cons_of_mem _ ?_
          have := ih' (k + 2) i v h
          rwa [show k + 2 + i = k + (i + 1 + 1) by omega] at this
    | double z => exact absurd rfl (hd _ List.mem_cons_self z)
    | int z => exact one rfl rfl
    | float z => exact one rfl rfl
    | null => exact one rfl rfl
    | ref z => exact one rfl rfl
    | retAddr z => exact one rfl rfl
def noD : List Value → Bool
  | [] => true
  | .double _ :: _ => false
  | _ :: r => noD r
theorem noD_ok : ∀ as : List Value, noD as = true → ∀ v ∈ as, ∀ z, v ≠ .double z := by
  intro as
  induction as with
  | nil => intro _ v hv; cases hv
  | cons a r ih =>
    intro h v hv z e
    subst e
    rcases List.mem_cons.mp hv with rfl | hv
    · exact Bool.noConfusion h
    · have h2 : noD r = true := by cases a <;> simp_all [noD]
      exact ih h2 _ hv z rfl
theorem Ev.of2 {M : Mth} {d : Nat} {as : List Value} {σ σ' : MH} {r : Option Value} (hy : plainName M.1.cls = true) (hcls : M.1.cls = M.2.2.2.2) (hfit : (lg_sl as).length ≤ M.2.2.1)
    (hret : match r with
      | none => M.2.2.2.1 = none
      | some (.int x) => ∃ ty, M.2.2.2.1 = some ty ∧ narrow ty (.int x) = .int x
      | some (.long _) => M.2.2.2.1 = some .long
      | _ => False)
    (h : Go M d (some 0, ent0 as M.2.2.1, [], σ) (none, [], r.toList, σ')) (hnd : noD as = true := by rfl) : Ev M d as σ r σ' := by
  refine Ev.of hy hcls hfit (L := ent0 as M.2.2.1) (fun i v hi => ?_) hret h
  unfold ent0 at hi
  by_cases hl : i < (entL as).length
  · rw [List.getElem?_append_left hl] at hi
    have := ent0_in (noD_ok as hnd) 0 i v hi
    rwa [Nat.zero_add] at this
  · rw [List.getElem?_append_right (by omega), List.getElem?_replicate] at hi
    split at hi <;> cases hi
def cpI (σ : MH) (a0 a1 N : Nat) : MH := (fun b => if b = a1 then (fun k => if k < N then σ.1 a0 k else σ.1 b k) else σ.1 b, σ.2)
theorem Go_copy {M : Mth} {d : Nat} {cd : List ME} (b : BK M cd) (i : Nat) {pc idx aux : Nat} {v : Int32} {w : Int64} (hE : (cd.drop i).head? = some (pc, .invokestatic idx, aux, v, w)) (hl : Cond.methodLink M.2.2.2.2 idx arraycopyName ∈ TBG) {a0 a1 n0 n1 : Nat} (h0 : IA a0 n0) (h1 : IA a1 n1) (hd : 2 ≤ d) {x : Int32} (N : Nat) (e : x = Int32.ofNat N) (hN : Nat.blt N 1000000 = true) (l0 : N ≤ n0) (l1 : N ≤ n1) {S : List Value} (hcat : (S.map fun v => v.category).sum ≤ 8) {L : List (Option Value)} {σ : MH} : Go M d (some pc, L, .int x :: .int 0 :: .ref a1 :: .int 0 :: .ref a0 :: S, σ) (some (pc + 3), L, S, cpI σ a0 a1 N) := by
  obtain ⟨P, hPL, hd1, -⟩ := BK_at b hE
  intro p l e0 R s m args below meth c w0 A Q C k H locs ls hP hS hlv
  obtain ⟨hx, hb, hml, hown, hts, hWS, hWT, had, hA, hB, hF, hLo⟩ := C
  subst e
  have hN' := blt_lt hN
  have e0 : (Int32.ofNat N).toNatClampNeg = N := nI_clamp (n := N) (by omega)
  have e1 : (0 : Int32).toNatClampNeg = 0 := rfl
  have q0 : (wsO w0 σ)[a0]? = some (w0.2.2.1 a0, .inl (w0.2.1.1, n0, .inl (σ.1 a0))) := by rw [wsO_get (shk_lt h0.1 (by omega)), ent_i h0.1, h0.2]
  have q1 : (wsO w0 σ)[a1]? = some (w0.2.2.1 a1, .inl (w0.2.1.1, n1, .inl (σ.1 a1))) := by rw [wsO_get (shk_lt h1.1 (by omega)), ent_i h1.1, h1.2]
  refine va_copyi hx hb (hml.trans hlv.1.symm) hown (hts _ hl) (hts _ (TBG_mem (i := 785) (by decide +kernel) rfl)) (hts _ (TBG_mem (i := 784) (by decide +kernel) rfl)) (hts _ (TBG_mem (i := 130) (by decide +kernel) rfl)) hWS.1 hP (va_D_ws had hA) hS a0 a1 0 0 q0 q1 rfl rfl rfl (by decide) (by decide) (nI_pos (n := N) (by omega)) (by rw [e0, e1]; omega) (by rw [e0, e1]; omega) (fun _ _ => rfl) (by omega) ?_ hd1 (fun H1 locs1 hP1 _ hS1 => ?_)
  · show ((S.map (mv w0)).map fun v => v.category).sum + _ ≤ _
    rw [cat_mv]
    have h9 : nativeFrameWords "java/lang/System" "arraycopy" 5 + 11 ≤ 64 := by decide +kernel
    omega
  · refine k H1 locs1 ls ?_ hS1 hlv
    rw [e0, e1] at hP1
    have hz : (wsO w0 σ).set a1 (w0.2.2.1 a1, .inl (w0.2.1.1, n1, .inl (va_cpy (σ.1 a0) (σ.1 a1) 0 0 N))) = wsO w0 (cpI σ a0 a1 N) := by
      refine wsO_upd (shk_lt h1.1 (by omega)) ?_ (fun b hb => ?_)
      · rw [ent_i h1.1, h1.2]
        have hf : (cpI σ a0 a1 N).1 a1 = va_cpy (σ.1 a0) (σ.1 a1) 0 0 N := by
          funext j
          simp [cpI, va_cpy]
        rw [hf]
      · unfold ent entF cpI
        simp only [if_neg hb]
    rw [← hz]
    exact hP1
theorem tsw_in {x z : Int32} (hc : x = z) (lo hi : Int) (h : (decide (lo ≤ z.toInt) && decide (z.toInt ≤ hi)) = true) : (¬ x.toInt < lo) ∧ (¬ hi < x.toInt) := by
  subst hc
  simp only [Bool.and_eq_true, decide_eq_true_eq] at h
  omega
theorem tsw_all (x : Int32) (lo hi : Int) (l : List Int32) (hl : l = (List.range (hi - lo + 1).toNat).map (fun k : Nat => Int32.ofInt (lo + (k : Int)))) (h1 : ¬ x.toInt < lo) (h2 : ¬ hi < x.toInt) : x ∈ l := by
  rw [hl]
  refine List.mem_map.mpr ⟨(x.toInt - lo).toNat, List.mem_range.mpr (by omega), ?_⟩
  rw [show lo + ((x.toInt - lo).toNat : Int) = x.toInt by omega]
  exact Int32.ofInt_toInt x
theorem Go_lds {M : Mth} {d pc idx k : Nat} {tx : String} {L : List (Option Value)} {S : List Value} {σ : MH} (hd : decode M.2.1 pc = .ok (.ldc idx, 2)) (hs : strL[k]? = some (M.2.2.2.2, idx, tx)) : Go M d (some pc, L, S, σ) (some (pc + 2), L, .retAddr k :: S, σ) := by
  intro p l e R s m args below meth c w A Q C h H locs ls hP hS hl
  exact va_ldcS C.1 C.2.1 C.2.2.2.1 (C.2.2.2.2.2.1.2.2 k _ hs) hd (h H locs ls hP hS hl)
def jmax (x y : Int32) : Int32 := if x < y then y else x
def jmin (x y : Int32) : Int32 := if y < x then y else x
def jabs (x : Int32) : Int32 := if 0 ≤ x then x else 0 - x
def jlmin (x y : Int64) : Int64 := if y < x then y else x
section MATH
variable {M : Mth} {d : Nat} {cd : List ME} {pc idx aux : Nat} {v : Int32} {w : Int64} {S : List Value} {L : List (Option Value)} {σ : MH}
theorem Go_mmax (b : BK M cd) (n : Nat) {x y : Int32} (hE : (cd.drop n).head? = some (pc, .invokestatic idx, aux, v, w)) (hl : Cond.methodLink M.2.2.2.2 idx Lib.Math.max.name ∈ TBG) (hcat : (S.map fun v => v.category).sum ≤ 8) (hd : 1 ≤ d) : Go M d (some pc, L, .int y :: .int x :: S, σ) (some (pc + 3), L, .int (jmax x y) :: S, σ) := by
  obtain ⟨P, hPL, h1, -⟩ := BK_at b hE
  intro p l e R s m args below meth c w0 A Q C k H locs ls hP hS hlv
  obtain ⟨hx, hb, hml, hown, hts, hWS, hWT, had, hA, hB, hF, hLo⟩ := C
  exact va_mmax hx hb (hml.trans hlv.1.symm) hown (hts _ hl) (hts _ (TBG_mem (i := 661) (by decide +kernel) rfl)) (hts _ (TBG_mem (i := 126) (by decide +kernel) rfl)) (hts (Cond.code Lib.Math.max.name Lib.Math.max.code 2 (some .int)) (TBG_mem (i := 662) (by decide +kernel) rfl)) (by omega) (by show ((S.map (mv w0)).map fun v => v.category).sum + _ ≤ _; rw [cat_mv]; omega) (Nat.zero_le _) (Nat.zero_le _) h1 (k H locs ls hP hS hlv)
theorem Go_mmin (b : BK M cd) (n : Nat) {x y : Int32} (hE : (cd.drop n).head? = some (pc, .invokestatic idx, aux, v, w)) (hl : Cond.methodLink M.2.2.2.2 idx Lib.Math.min.name ∈ TBG) (hcat : (S.map fun v => v.category).sum ≤ 8) (hd : 1 ≤ d) : Go M d (some pc, L, .int y :: .int x :: S, σ) (some (pc + 3), L, .int (jmin x y) :: S, σ) := by
  obtain ⟨P, hPL, h1, -⟩ := BK_at b hE
  intro p l e R s m args below meth c w0 A Q C k H locs ls hP hS hlv
  obtain ⟨hx, hb, hml, hown, hts, hWS, hWT, had, hA, hB, hF, hLo⟩ := C
  exact va_mmin hx hb (hml.trans hlv.1.symm) hown (hts _ hl) (hts _ (TBG_mem (i := 664) (by decide +kernel) rfl)) (hts _ (TBG_mem (i := 126) (by decide +kernel) rfl)) (hts (Cond.code Lib.Math.min.name Lib.Math.min.code 2 (some .int)) (TBG_mem (i := 665) (by decide +kernel) rfl)) (by omega) (by show ((S.map (mv w0)).map fun v => v.category).sum + _ ≤ _; rw [cat_mv]; omega) (Nat.zero_le _) (Nat.zero_le _) h1 (k H locs ls hP hS hlv)
theorem Go_mabs (b : BK M cd) (n : Nat) {x : Int32} (hE : (cd.drop n).head? = some (pc, .invokestatic idx, aux, v, w)) (hl : Cond.methodLink M.2.2.2.2 idx Lib.Math.abs.name ∈ TBG) (hcat : (S.map fun v => v.category).sum ≤ 8) (hd : 1 ≤ d) : Go M d (some pc, L, .int x :: S, σ) (some (pc + 3), L, .int (jabs x) :: S, σ) := by
  obtain ⟨P, hPL, h1, -⟩ := BK_at b hE
  intro p l e R s m args below meth c w0 A Q C k H locs ls hP hS hlv
  obtain ⟨hx, hb, hml, hown, hts, hWS, hWT, had, hA, hB, hF, hLo⟩ := C
  exact va_mabs hx hb (hml.trans hlv.1.symm) hown (hts _ hl) (hts _ (TBG_mem (i := 824) (by decide +kernel) rfl)) (hts _ (TBG_mem (i := 126) (by decide +kernel) rfl)) (hts (Cond.code Lib.Math.abs.name Lib.Math.abs.code 1 (some .int)) (TBG_mem (i := 825) (by decide +kernel) rfl)) (by omega) (by show ((S.map (mv w0)).map fun v => v.category).sum + _ ≤ _; rw [cat_mv]; omega) (Nat.zero_le _) (Nat.zero_le _) h1 (k H locs ls hP hS hlv)
theorem Go_mlmin (b : BK M cd) (n : Nat) {x y : Int64} (hE : (cd.drop n).head? = some (pc, .invokestatic idx, aux, v, w)) (hl : Cond.methodLink M.2.2.2.2 idx Lib.MathLoose.min_long.x ∈ TBG) (hcat : (S.map fun v => v.category).sum ≤ 8) (hd : 1 ≤ d) : Go M d (some pc, L, .long y :: .long x :: S, σ) (some (pc + 3), L, .long (jlmin x y) :: S, σ) := by
  obtain ⟨P, hPL, h1, -⟩ := BK_at b hE
  intro p l e R s m args below meth c w0 A Q C k H locs ls hP hS hlv
  obtain ⟨hx, hb, hml, hown, hts, hWS, hWT, had, hA, hB, hF, hLo⟩ := C
  exact va_mmin_long hx hb (hml.trans hlv.1.symm) hown (hts _ hl) (hts _ (TBG_mem (i := 1126) (by decide +kernel) rfl)) (hts _ (TBG_mem (i := 126) (by decide +kernel) rfl)) (hts (Cond.code Lib.MathLoose.min_long.x Lib.MathLoose.min_long.code 4 (some .long)) (TBG_mem (i := 1127) (by decide +kernel) rfl)) (by omega) (by show ((S.map (mv w0)).map fun v => v.category).sum + _ ≤ _; rw [cat_mv]; omega) (Nat.zero_le _) (Nat.zero_le _) h1 (k H locs ls hP hS hlv)
end MATH
/-! the String constants: .retAddr i is the i-th one, .float i its bytes -/
def sB (k j : Nat) : Int32 := (strB.getD k []).getD j 0
section STR
variable {M : Mth} {d : Nat} {cd : List ME} {pc idx aux : Nat} {v : Int32} {w : Int64} {S : List Value} {L : List (Option Value)} {σ : MH}
theorem Go_gets (hd : decode M.2.1 pc = .ok (.getstatic idx, 3)) (hl : Cond.fieldLink M.2.2.2.2 idx "java/lang/String" "COMPACT_STRINGS" "Z" ∈ TBG) : Go M d (some pc, L, S, σ) (some (pc + 3), L, .int 1 :: S, σ) := by
  intro p l e R s m args below meth c w0 A Q C k H locs ls hP hS hlv
  exact va_gets C.1 C.2.1 C.2.2.2.2.2.2.1.2 hS C.2.2.2.1 (C.2.2.2.2.1 _ hl) (fun _ h => h) hd (k H locs ls hP hS hlv)
theorem Go_gfc {i : Nat} (hd : decode M.2.1 pc = .ok (.getfield idx, 3)) (hi : i < 2) (hl : Cond.fieldLink M.2.2.2.2 idx "java/lang/String" "coder" "B" ∈ TBG) : Go M d (some pc, L, .retAddr i :: S, σ) (some (pc + 3), L, .int 0 :: S, σ) := by
  intro p l e R s m args below meth c w0 A Q C k H locs ls hP hS hlv
  exact vk_getf C.1 C.2.1 (C.2.2.2.2.2.2.1.1.1 i hi).2.1 hS C.2.2.2.1 (C.2.2.2.2.1 _ hl) (fun _ h => h) hd (k H locs ls hP hS hlv)
theorem Go_gfv {i : Nat} (b : UInt32) (hb : b.toNat = i) (hd : decode M.2.1 pc = .ok (.getfield idx, 3)) (hi : i < 2) (hl : Cond.fieldLink M.2.2.2.2 idx "java/lang/String" "value" "[B" ∈ TBG) : Go M d (some pc, L, .retAddr i :: S, σ) (some (pc + 3), L, .float b :: S, σ) := by
  subst hb
  intro p l e R s m args below meth c w0 A Q C k H locs ls hP hS hlv
  exact vk_getf C.1 C.2.1 (C.2.2.2.2.2.2.1.1.1 b.toNat hi).2.2.1 hS C.2.2.2.1 (C.2.2.2.2.1 _ hl) (fun _ h => h) hd (k H locs ls hP hS hlv)
theorem Go_bls {b : UInt32} {i n : Nat} {x : Int32} (hb : b.toNat = i) (hd : decode M.2.1 pc = .ok (.baload, 1)) (hi : i < 2) (hn : strN.getD i 0 = n) (hx : inb x n = true) : Go M d (some pc, L, .int x :: .float b :: S, σ) (some (pc + 1), L, .int (sB i x.toNatClampNeg) :: S, σ) := by
  subst hb
  intro p l e R s m args below meth c w0 A Q C k H locs ls hP hS hlv
  exact va_tb C.1 C.2.1 (C.2.2.2.2.2.2.1.1.1 b.toNat hi).2.2.2 hS (by rw [hn]; exact inb_in hx) rfl hd (k H locs ls hP hS hlv)
theorem Go_als {b : UInt32} {i : Nat} {x : Int32} (hb : b.toNat = i) (hd : decode M.2.1 pc = .ok (.arraylength, 1)) (hi : i < 2) (hx : Int32.ofNat (strN.getD i 0) = x) : Go M d (some pc, L, .float b :: S, σ) (some (pc + 1), L, .int x :: S, σ) := by
  subst hb
  intro p l e R s m args below meth c w0 A Q C k H locs ls hP hS hlv
  exact va_tlen C.1 C.2.1 (C.2.2.2.2.2.2.1.1.1 b.toNat hi).2.2.2 hS hx hd (k H locs ls hP hS hlv)
end STR
theorem Go_callR {M : Mth} {d d1 : Nat} {cd : List ME} (b : BK M cd) (i : Nat) {pc idx aux n : Nat} {v : Int32} {w : Int64} (hE : (cd.drop i).head? = some (pc, .invokevirtual idx, aux, v, w)) {N : Mth} (hN : NK N n) (hl : Cond.methodLink M.2.2.2.2 idx N.1 ∈ TBG) (hin : Cond.instanceMethod N.1 ∈ TBG) (hcl : N.1.cls = "java/lang/String") (hse : Cond.selects N.1.cls N.1 N.1 ∈ TBG)
    {as S st st' : List Value} {a : Nat} {L : List (Option Value)} {σ σ' : MH} {r : Option Value} (ha : a < 2) (hn : as.length = n) (e1 : st = as.reverse ++ .retAddr a :: S) (e2 : r.toList ++ S = st') (hcat : (S.map fun v => v.category).sum ≤ 8) (hd : d1 + 1 ≤ d) (ev : Ev N d1 (.retAddr a :: as) σ r σ') : Go M d (some pc, L, st, σ) (some (pc + 3), L, st', σ') := by
  obtain ⟨P, hPL, h1, -⟩ := BK_at b hE
  intro p l e R s m args below meth c w0 A Q C k H locs ls hP hS hlv
  obtain ⟨hx, hb, hml, hown, hts, hWS, hWT, had, hA, hB, hF, hLo⟩ := C
  subst e1; subst e2
  obtain ⟨k1, k2, k3, k4, k5, k6⟩ := hN.back hts hd hF hLo
  have hrc : ∃ cell : Cell, H[w0.2.2.2.1 a]? = some cell ∧ cell.vm.isStatics = false ∧ s.vm.findClass N.1.cls = some cell.cls := by
    rw [hcl]
    exact vk_recv hWT.1 ha hS
  have hr := va_runV (C := N.1.cls) (b := w0.2.2.2.1 a) (g := F0 m pc ls ((as.reverse ++ .retAddr a :: S).map (mv w0))) (rest := S.map (mv w0)) (As := as.map (mv w0)) (p := p) (l := l) (e := e) (below := below) (meth := meth) (locs := locs) (cells := 0) (slots := 0) ⟨hx, hb, hml, hown, hts⟩ (ev l w0 H.size) ⟨⟨k1, k2, k3, k4, k5, k6, hts _ hN.1, hts _ hN.2.1, hN.2.2.1, hN.len, hts _ hl⟩, hts _ hin, hts _ hse⟩ ⟨PEv.blind, hrc, fun U hU hW => ⟨rfl, PEv.at hWS hWT had hA hB hP hS U hU hW⟩⟩ rfl (by rw [List.length_map]; exact hn) hlv.1 (by show (as.reverse ++ .retAddr a :: S).map (mv w0) = _; rw [List.map_append, List.map_reverse]; rfl) (lv_room (by rw [cat_mv]; exact hcat)) h1 ⟨Nat.zero_le _, Nat.zero_le _⟩
  refine W_call hr hS (fun q _ h => AF_in hA hB hS.1 q h) (AF_in hA hB hS.1) (fun t H1 locs1 ht hp hS1 => ?_)
  rw [ht] at hp
  have := k H1 locs1 ls hp hS1 hlv
  rw [List.map_append] at this
  cases r <;> exact this
theorem nrY {x : Int32} (h : bz x = true) : narrow .byte (.int x) = .int x := by
  unfold bz at h
  simp only [Bool.or_eq_true, beq_iff_eq] at h
  rcases h with rfl | rfl <;> decide
