/-! MAKING: the constructors, run by a machine whose heap is a list (numbers of objects stand for addresses) -/
abbrev GE : Type := Nat × Nat × List (Nat × Int32) × List (Nat × Nat)
abbrev GH : Type := List GE
def gI : List (Nat × Int32) → Nat → Int32
  | [], _ => 0
  | (j, v) :: r, i => if i = j then v else gI r i
def gR : List (Nat × Nat) → Nat → Option Nat
  | [], _ => none
  | (j, v) :: r, i => if i = j then some v else gR r i
def gent (w : MD) (e : GE) : va_E :=
  if e.1 = 20 then .inl (w.2.1.1, e.2.1, .inl (gI e.2.2.1))
  else if e.1 = 21 then .inl (w.2.1.2.1, e.2.1, .inr (.inl (fun _ => 0)))
  else if e.1 = 22 then .inl (w.2.1.2.2.1, e.2.1, .inl (gI e.2.2.1))
  else if e.1 = 23 then .inl (w.2.1.2.2.2, e.2.1, .inr (.inr (.inr (.inr (fun i => (gR e.2.2.2 i).map w.2.2.1)))))
  else .inr (e.1, (List.range e.2.1).map fun k => if fkr e.1 k = true then va_rf ((gR e.2.2.2 k).map w.2.2.1) else .int (gI e.2.2.1 k))
def g0 : GE := (99, 0, [], [])
def gws (w : MD) (G : GH) : va_W := (List.range G.length).map fun a => (w.2.2.1 a, gent w (G.getD a g0))
theorem gws_get {w : MD} {G : GH} {a : Nat} {e : GE} (h : G[a]? = some e) : (gws w G)[a]? = some (w.2.2.1 a, gent w e) := by
  have hl := (List.getElem?_eq_some_iff.mp h).1
  unfold gws
  rw [List.getElem?_map, List.getElem?_range hl]
  simp [List.getD_eq_getElem?_getD, h]
theorem gws_len (w : MD) (G : GH) : (gws w G).length = G.length := by simp [gws]
theorem gws_set {w : MD} {G : GH} {a : Nat} (E : GE) (ha : a < G.length) : (gws w G).set a (w.2.2.1 a, gent w E) = gws w (G.set a E) := by
  apply List.ext_getElem?
  intro k
  rw [List.getElem?_set]
  by_cases hk : a = k
  · subst hk
    rw [if_pos rfl, if_pos (by rw [gws_len]; exact ha), gws_get (e := E) (by rw [List.getElem?_set]; simp [ha])]
  · rw [if_neg hk]
    by_cases hl : k < G.length
    · have h1 : G[k]? = some G[k] := List.getElem?_eq_getElem hl
      rw [gws_get h1, gws_get (e := G[k]) (by rw [List.getElem?_set, if_neg hk, h1])]
    · rw [List.getElem?_eq_none (by rw [gws_len]; omega), List.getElem?_eq_none (by rw [gws_len, List.length_set]; omega)]
theorem gws_app {w : MD} {G F : GH} : gws w (G ++ F) = gws w G ++ (List.range F.length).map (fun k => (w.2.2.1 (G.length + k), gent w (F.getD k g0))) := by
  unfold gws
  rw [List.length_append, List.range_add, List.map_append]
  congr 1
  · apply List.map_congr_left
    intro a ha
    have := List.mem_range.mp ha
    simp [List.getD_eq_getElem?_getD, List.getElem?_append_left this]
  · rw [List.map_map]
    apply List.map_congr_left
    intro a _
    show (w.2.2.1 (G.length + a), gent w ((G ++ F).getD (G.length + a) g0)) = (w.2.2.1 (G.length + a), gent w (F.getD a g0))
    rw [List.getD_eq_getElem?_getD, List.getD_eq_getElem?_getD, List.getElem?_append_right (Nat.le_add_right _ _), Nat.add_sub_cancel_left]
theorem inner_int (c : ClassId) (K : Nat) : Jvm.Free.Multi.innerC c K (defaultValue .int) = vp_cell c (K, .inl (fun _ => 0)) := by
  show ({ cls := c, slots := Array.replicate K (defaultValue .int), vm := .none } : Cell) = { cls := c, slots := Array.ofFn (n := K) fun _ => .int 0, vm := .none }
  congr 1
  apply Array.ext
  · simp
  · intro i h1 h2
    simp [defaultValue]
/-- other addresses -/
def wa (w : MD) (ad : Nat → Nat) : MD := (w.1, w.2.1, ad, w.2.2.2)
/-- all references are to objects that are made -/
def bdV (n : Nat) : Value → Bool
  | .ref i => Nat.blt i n
  | .retAddr _ => false
  | .float _ => false
  | _ => true
def bdL (n : Nat) (L : List (Option Value)) : Bool := L.all fun x => match x with | some v => bdV n v | none => true
def bdG (n : Nat) (G : GH) : Bool := G.all fun e => e.2.2.2.all fun q => Nat.blt q.2 n
def cn (G : GH) : Nat := G.length
def sn (G : GH) : Nat := (G.map fun e => e.2.1).sum
def atk : ArrayType → Nat
  | .int => 20
  | .long => 21
  | .byte => 22
  | _ => 99
def kfind : List ME → Nat → Option ME
  | [], _ => none
  | E :: r, pc => match Nat.beq E.1 pc with
    | true => some E
    | false => kfind r pc
def clN (c : Nat) : Nat := (vwCl.getD c (RX0, TX0, 0)).2.2
def krun (tab : Nat → Option (Mth × List ME × Nat)) : Nat → Nat → Nat → Nat → List (Option Value) → List Value → GH → Option GH
  | 0, _, _, _, _, _, _ => none
  | n + 1, d, m, pc, L, S, G => match tab m with
    | none => none
    | some (M, cd, _) => match kfind cd pc with
      | none => none
      | some (_, I, aux, v, _) => match I, S with
        | .return_, [] => some G
        | .aload_n k, S => match L.getD k.val none with
          | some (.ref x) => krun tab n d m (pc + 1) L (.ref x :: S) G
          | _ => none
        | .iload_n k, S => match L.getD k.val none with
          | some (.int x) => krun tab n d m (pc + 1) L (.int x :: S) G
          | _ => none
        | .iconst _, S => krun tab n d m (pc + 1) L (.int v :: S) G
        | .bipush _, S => krun tab n d m (pc + 2) L (.int v :: S) G
        | .sipush _, S => krun tab n d m (pc + 3) L (.int v :: S) G
        | .ldc _, S => krun tab n d m (pc + 2) L (.int v :: S) G
        | .dup, .ref x :: S => krun tab n d m (pc + 1) L (.ref x :: .ref x :: S) G
        | .iadd, .int y :: .int x :: S => krun tab n d m (pc + 1) L (.int (x + y) :: S) G
        | .istore_n k, .int x :: S => if (Nat.blt k.val M.2.2.1 && nlb L k.val) = true then krun tab n d m (pc + 1) (L.set k.val (some (.int x))) S G else none
        | .iinc k _, S => match L.getD k none with
          | some (.int x) => if (Nat.blt k M.2.2.1 && nlb L k) = true then krun tab n d m (pc + 3) (L.set k (some (.int (x + v)))) S G else none
          | _ => none
        | .goto _, S => krun tab n d m aux L S G
        | .if_icmp .ge _, .int y :: .int x :: S => if y ≤ x then krun tab n d m aux L S G else krun tab n d m (pc + 3) L S G
        | .getfield _, .ref a :: S => match G[a]? with
          | some e => if (Nat.beq e.1 (aux / 64) && Nat.blt (aux % 64) e.2.1) = true then (match fkr (aux / 64) (aux % 64) with
              | true => (match gR e.2.2.2 (aux % 64) with
                | some b => krun tab n d m (pc + 3) L (.ref b :: S) G
                | none => none)
              | false => krun tab n d m (pc + 3) L (.int (gI e.2.2.1 (aux % 64)) :: S) G) else none
          | none => none
        | .putfield _, .ref b :: .ref a :: S => match G[a]? with
          | some e => if (Nat.beq e.1 (aux / 64) && Nat.blt (aux % 64) e.2.1 && fkr (aux / 64) (aux % 64) && fnl (aux / 64) (aux % 64)) = true then krun tab n d m (pc + 3) L S (G.set a (e.1, e.2.1, e.2.2.1, (aux % 64, b) :: e.2.2.2)) else none
          | none => none
        | .putfield _, .int x :: .ref a :: S => match G[a]? with
          | some e => if (Nat.beq e.1 (aux / 64) && Nat.blt (aux % 64) e.2.1 && !fkr (aux / 64) (aux % 64) && !fnl (aux / 64) (aux % 64) && bz x) = true then krun tab n d m (pc + 3) L S (G.set a (e.1, e.2.1, (aux % 64, x) :: e.2.2.1, e.2.2.2)) else none
          | none => none
        | .iastore, .int x :: .int i :: .ref a :: S => match G[a]? with
          | some e => if (Nat.beq e.1 20 && inb i e.2.1) = true then krun tab n d m (pc + 1) L S (G.set a (e.1, e.2.1, (i.toNatClampNeg, x) :: e.2.2.1, e.2.2.2)) else none
          | none => none
        | .new _, S => if (bdL G.length L && S.all (bdV G.length) && bdG G.length G && Nat.blt aux 12) = true then krun tab n d m (pc + 3) L (.ref G.length :: S) (G ++ [(aux, clN aux, [], [])]) else none
        | .newarray t, .int x :: S => if (bdL G.length L && S.all (bdV G.length) && bdG G.length G && !decide (x < 0) && Nat.blt x.toNatClampNeg 100000 && Nat.blt (atk t) 99) = true then krun tab n d m (pc + 2) L (.ref G.length :: S) (G ++ [(atk t, x.toNatClampNeg, [], [])]) else none
        | .multianewarray _ _, .int k :: .int x :: S => if (bdL G.length L && S.all (bdV G.length) && bdG G.length G && !decide (x < 0) && Nat.blt x.toNatClampNeg 1000 && !decide (k < 0) && Nat.blt k.toNatClampNeg 1000) = true then krun tab n d m (pc + 4) L (.ref G.length :: S) (G ++ ((23, x.toNatClampNeg, [], (List.range x.toNatClampNeg).map fun i => (i, G.length + 1 + i)) :: List.replicate x.toNatClampNeg (20, k.toNatClampNeg, [], []))) else none
        | .invokespecial _, S => match aux with
          | 0 => match S, d with
            | .ref _ :: S, _ + 1 => if Nat.ble (S.map fun v => v.category).sum 8 = true then krun tab n d m (pc + 3) L S G else none
            | _, _ => none
          | q + 1 => match tab q with
            | none => none
            | some (N, _, np) => match d, (S.take (np + 1)).reverse with
              | d1 + 1, .ref b :: As => if (bdL G.length L && S.all (bdV G.length) && Nat.beq As.length np && Nat.ble ((S.drop (np + 1)).map fun v => v.category).sum 8 && noD (.ref b :: As) && Nat.ble (lg_sl (.ref b :: As)).length N.2.2.1) = true then (match krun tab n d1 q 0 (ent0 (.ref b :: As) N.2.2.1) [] G with
                | some G1 => krun tab n d m (pc + 3) L (S.drop (np + 1)) G1
                | none => none) else none
              | _, _ => none
        | _, _ => none
def klen : Instr → Nat
  | .new _ => 3
  | .newarray _ => 2
  | .multianewarray _ _ => 4
  | I => ilen I
def kOK (M : Mth) (P : PL) (E : ME) : Prop := decode M.2.1 E.1 = .ok (E.2.1, klen E.2.1) ∧ exE P E.1 E.2.1 E.2.2.1 E.2.2.2.1 E.2.2.2.2 = true
/-- what an instruction that makes or calls needs of the tables -/
def kLk (tab : Nat → Option (Mth × List ME × Nat)) (M : Mth) (I : Instr) (aux : Nat) : Prop := match I with
  | .new idx => ∃ (C : String) (T : u_T) (N : Nat), vwCl[aux]? = some (C, T, N) ∧ (∀ w ∈ u_ws C T N, w ∈ TBG) ∧ Cond.classLink M.2.2.2.2 idx C ∈ TBG ∧ Cond.instantiable C N ∈ TBG ∧ Cond.initialized C ∈ TBG ∧ ∃ ty : Nat → FieldType, (∀ k, k < N → parseFieldDescriptor (T k).2.2.1 = some (ty k)) ∧ ∀ k, k < N → defaultValue (ty k) = if fkr aux k = true then .null else .int 0
  | .multianewarray idx n => n = 2 ∧ Cond.classLink M.2.2.2.2 idx "[[I" ∈ TBG
  | .invokespecial idx => match aux with
    | 0 => Cond.methodLink M.2.2.2.2 idx objectInit ∈ TBG
    | q + 1 => ∀ (N : Mth) (cd : List ME) (np : Nat), tab q = some (N, cd, np) → Cond.methodLink M.2.2.2.2 idx N.1 ∈ TBG
  | .putfield idx => fkr (aux / 64) (aux % 64) = true → ∀ (C : String) (T : u_T) (N : Nat), vwCl[aux / 64]? = some (C, T, N) → (T (aux % 64)).1 = M.2.2.2.2
  | _ => True
def KTab (tab : Nat → Option (Mth × List ME × Nat)) : Prop := ∀ (m : Nat) (M : Mth) (cd : List ME) (np : Nat), tab m = some (M, cd, np) → (∃ P : PL, PLOK M.2.2.2.2 P ∧ ∀ E ∈ cd, kOK M P E) ∧ (∀ E ∈ cd, kLk tab M E.2.1 E.2.2.1) ∧ NK M np ∧ M.1.name = "<init>" ∧ Cond.instanceMethod M.1 ∈ TBG ∧ M.2.2.2.1 = none ∧ plainName M.1.cls = true ∧ M.1.cls = M.2.2.2.2
theorem kfind_ok : ∀ {cd : List ME} {pc : Nat} {E : ME}, kfind cd pc = some E → E ∈ cd ∧ E.1 = pc := by
  intro cd
  induction cd with
  | nil => intro pc E h; cases h
  | cons F r ih =>
    intro pc E h
    unfold kfind at h
    split at h
    · rename_i hb
      cases h
      exact ⟨List.mem_cons_self, Nat.eq_of_beq_eq_true hb⟩
    · obtain ⟨h1, h2⟩ := ih h
      exact ⟨List.mem_cons_of_mem _ h1, h2⟩
theorem sn_set {G : GH} {a : Nat} {e E : GE} (h : G[a]? = some e) (hE : E.2.1 = e.2.1) : sn (G.set a E) = sn G := by
  unfold sn
  congr 1
  apply List.ext_getElem?
  intro k
  simp only [List.getElem?_map, List.getElem?_set]
  by_cases hk : a = k
  · subst hk
    obtain ⟨h1, h2⟩ := List.getElem?_eq_some_iff.mp h
    rw [if_pos rfl, if_pos h1, List.getElem?_eq_getElem h1, h2]
    show some E.2.1 = some e.2.1
    rw [hE]
  · simp [hk]
theorem sn_set4 {G : GH} {a : Nat} {e : GE} {x : Nat} {y : List (Nat × Int32)} {z : List (Nat × Nat)} (h : G[a]? = some e) : sn (G.set a (x, e.2.1, y, z)) = sn G := sn_set h rfl
theorem sn_app (G F : GH) : sn (G ++ F) = sn G + sn F := by simp [sn]
theorem krun_mono {tab : Nat → Option (Mth × List ME × Nat)} : ∀ (n d m pc : Nat) (L : List (Option Value)) (S : List Value) (G Gf : GH), krun tab n d m pc L S G = some Gf → cn G ≤ cn Gf ∧ sn G ≤ sn Gf := by
  intro n
  induction n with
  | zero => intro d m pc L S G Gf h; cases h
  | succ n ih =>
    intro d m pc L S G Gf h
    unfold krun at h
    split at h
    · cases h
    split at h
    · cases h
    split at h
    · cases h; exact ⟨Nat.le_refl _, Nat.le_refl _⟩
    · split at h
      · exact ih _ _ _ _ _ _ _ h
      · cases h
    · split at h
      · exact ih _ _ _ _ _ _ _ h
      · cases h
    · exact ih _ _ _ _ _ _ _ h
    · exact ih _ _ _ _ _ _ _ h
    · exact ih _ _ _ _ _ _ _ h
    · exact ih _ _ _ _ _ _ _ h
    · exact ih _ _ _ _ _ _ _ h
    · exact ih _ _ _ _ _ _ _ h
    · split at h
      · exact ih _ _ _ _ _ _ _ h
      · cases h
    · split at h
      · split at h
        · exact ih _ _ _ _ _ _ _ h
        · cases h
      · cases h
    · exact ih _ _ _ _ _ _ _ h
    · split at h
      · exact ih _ _ _ _ _ _ _ h
      · exact ih _ _ _ _ _ _ _ h
    · split at h
      · split at h
        · split at h
          · split at h
            · exact ih _ _ _ _ _ _ _ h
            · cases h
          · exact ih _ _ _ _ _ _ _ h
        · cases h
      · cases h
    · split at h
      · rename_i e he
        split at h
        · have := ih _ _ _ _ _ _ _ h
          rw [sn_set4 he] at this
          simpa [cn] using this
        · cases h
      · cases h
    · split at h
      · rename_i e he
        split at h
        · have := ih _ _ _ _ _ _ _ h
          rw [sn_set4 he] at this
          simpa [cn] using this
        · cases h
      · cases h
    · split at h
      · rename_i e he
        split at h
        · have := ih _ _ _ _ _ _ _ h
          rw [sn_set4 he] at this
          simpa [cn] using this
        · cases h
      · cases h
    · split at h
      · have := ih _ _ _ _ _ _ _ h
        rw [sn_app] at this
        simp only [cn, List.length_append] at this ⊢
        omega
      · cases h
    · split at h
      · have := ih _ _ _ _ _ _ _ h
        rw [sn_app] at this
        simp only [cn, List.length_append] at this ⊢
        omega
      · cases h
    · split at h
      · have := ih _ _ _ _ _ _ _ h
        rw [sn_app] at this
        simp only [cn, List.length_append] at this ⊢
        omega
      · cases h
    · split at h
      · split at h
        · split at h
          · exact ih _ _ _ _ _ _ _ h
          · cases h
        · cases h
      · split at h
        · cases h
        · split at h
          · split at h
            · split at h
              · rename_i G1 hG1
                have h1 := ih _ _ _ _ _ _ _ hG1
                have h2 := ih _ _ _ _ _ _ _ h
                exact ⟨Nat.le_trans h1.1 h2.1, Nat.le_trans h1.2 h2.2⟩
              · cases h
            · cases h
          · cases h
    · cases h
/-- what the constructors' contracts carry: WS, and the word of the arrays of int[] -/
theorem va_AOA.same {t : FieldType} {u U : State} (h : u.vm = U.vm) (hZ : va_AOA t u) : va_AOA t U := by
  have h1 : u.setVm U.vm = u := by rw [← h]; rfl
  have e := Cond.arrayOver_setVmC (args := #[]) (s := U) (vm' := U.vm) (Vm.Alike.refl _) (.array t)
  have e2 : (Cond.arrayOver (.array t)).before #[] u = (Cond.arrayOver (.array t)).before #[] U := by
    simp only [Cond.before, Cond.holds, Cond.value, h]
  exact e2.symm.trans hZ
theorem va_AOA.warm {t : FieldType} {u U : State} (hW : u.WarmedH U.vm) (hZ : va_AOA t u) : va_AOA t U :=
  va_AOA.same (u := u.setVm U.vm) rfl ((Cond.arrayOver_setVmC (args := #[]) hW.alike (.array t)).trans hZ)
def WMk (w : MD) (U : State) : Prop := WS w U ∧ va_AOA .int U
theorem WMk.warm {w : MD} {s U : State} (hW : s.WarmedH U.vm) (h : WMk w s) : WMk w U := ⟨h.1.warm hW, h.2.warm hW⟩
theorem WMk.same {w : MD} {s U : State} (hv : U.vm = s.vm) (h : WMk w s) : WMk w U := ⟨h.1.same hv, h.2.same hv.symm⟩
def KX (M : Mth) (d : Nat) (p : Program) (R : Room) (s : State) (mi : MethodId) (args : Array Value) (meth : Method) (c : Code) (w : MD) (A : Nat → Prop) : Prop :=
  p.tables.exec = Jvm.exec ∧ c.code = M.2.1 ∧ c.maxLocals = M.2.2.1 ∧ s.vm.findClass M.2.2.2.2 = some mi.cls ∧ (∀ q ∈ TBG, q.before args s = true) ∧ WMk w s ∧ meth.name = "<init>" ∧ (∀ q, s.heap.size ≤ q → A q) ∧ d ≤ R.frames ∧ 64 * d ≤ R.locals
def KWit (M : Mth) (d pc : Nat) (L : List (Option Value)) (S : List Value) (G Gf : GH) : Prop :=
  ∀ (p : Program) (l : Launch) (e : Env) (R : Room) (s : State) (mi : MethodId) (args : Array Value) (below : List Frame) (meth : Method) (c : Code) (w : MD) (A : Nat → Prop) (Q : State → Prop) (c0 s0 : Nat), KX M d p R s mi args meth c w A → cn Gf - c0 ≤ R.cells → sn Gf - s0 ≤ R.slots → c0 ≤ cn G → s0 ≤ sn G →
  ∀ (ad : Nat → Nat) (H : Heap) (locs : List Loc) (ls : Array Slot), va_P w.1 vwCl (gws (wa w ad) G) H → va_D A (gws (wa w ad) G) → va_S A s.heap H locs → lvm (wa w ad) ls M.2.2.1 L →
  (∀ (ad' : Nat → Nat) (H' : Heap) (locs' : List Loc) (ls' : Array Slot) (pc' : Nat), (∀ k, k < G.length → ad' k = ad k) → va_P w.1 vwCl (gws (wa w ad') Gf) H' → va_D A (gws (wa w ad') Gf) → va_S A s.heap H' locs' → decode M.2.1 pc' = .ok (.return_, 1) → W p l e R s mi args below meth c H' locs' (cn Gf - c0) (sn Gf - s0) Q (F0 mi pc' ls' [])) →
  W p l e R s mi args below meth c H locs (cn G - c0) (sn G - s0) Q (F0 mi pc ls (S.map (mv (wa w ad))))
theorem mv_wa {w : MD} {ad ad' : Nat → Nat} {n : Nat} (ha : ∀ k, k < n → ad' k = ad k) {v : Value} (h : bdV n v = true) : mv (wa w ad') v = mv (wa w ad) v := by
  cases v with
  | ref i => exact congrArg Value.ref (ha i (blt_lt h))
  | retAddr i => rfl
  | float b => rfl
  | int x => rfl
  | long x => rfl
  | double x => rfl
  | null => rfl
theorem lvm_wa {w : MD} {ad ad' : Nat → Nat} {n nL : Nat} {ls : Array Slot} {L : List (Option Value)} (ha : ∀ k, k < n → ad' k = ad k) (hb : bdL n L = true) (h : lvm (wa w ad) ls nL L) : lvm (wa w ad') ls nL L := by
  refine ⟨h.1, h.2.1, fun i v hi => ?_⟩
  have h1 := List.all_eq_true.mp hb _ (List.mem_of_getElem? hi)
  rw [mv_wa ha h1]
  exact h.2.2 i v hi
theorem st_wa {w : MD} {ad ad' : Nat → Nat} {n : Nat} {S : List Value} (ha : ∀ k, k < n → ad' k = ad k) (hb : S.all (bdV n) = true) : S.map (mv (wa w ad')) = S.map (mv (wa w ad)) := by
  apply List.map_congr_left
  intro v hv
  exact mv_wa ha (List.all_eq_true.mp hb v hv)
theorem gR_mem : ∀ {l : List (Nat × Nat)} {i b : Nat}, gR l i = some b → (i, b) ∈ l := by
  intro l
  induction l with
  | nil => intro i b h; cases h
  | cons q r ih =>
    intro i b h
    obtain ⟨j, v⟩ := q
    unfold gR at h
    split at h
    · rename_i e; cases h; rw [e]; exact List.mem_cons_self
    · exact List.mem_cons_of_mem _ (ih h)
theorem gent_wa {w : MD} {ad ad' : Nat → Nat} {n : Nat} {e : GE} (ha : ∀ k, k < n → ad' k = ad k) (hb : (e.2.2.2.all fun q => Nat.blt q.2 n) = true) : gent (wa w ad') e = gent (wa w ad) e := by
  have hm : ∀ i, (gR e.2.2.2 i).map ad' = (gR e.2.2.2 i).map ad := by
    intro i
    cases q : gR e.2.2.2 i with
    | none => rfl
    | some b =>
      have := List.all_eq_true.mp hb _ (gR_mem q)
      exact congrArg some (ha b (blt_lt this))
  unfold gent wa
  simp only [hm]
theorem gws_wa {w : MD} {ad ad' : Nat → Nat} {G : GH} (ha : ∀ k, k < G.length → ad' k = ad k) (hb : bdG G.length G = true) : gws (wa w ad') G = gws (wa w ad) G := by
  unfold gws
  apply List.map_congr_left
  intro a h
  have hl := List.mem_range.mp h
  have h1 : G[a]? = some G[a] := List.getElem?_eq_getElem hl
  have h2 : G.getD a g0 = G[a] := by simp [List.getD_eq_getElem?_getD, h1]
  rw [h2, gent_wa ha (List.all_eq_true.mp hb _ (List.mem_of_getElem? h1))]
  exact congrArg (fun x => (x, gent (wa w ad) G[a])) (ha a hl)
def isRefT : Option FieldType → Bool
  | some (.object _) => true
  | some (.array _) => true
  | _ => false
theorem fkr_ref {ci k : Nat} {C : String} {T : u_T} {N : Nat} (hc : vwCl[ci]? = some (C, T, N)) (hk : k < N) (hf : fkr ci k = true) : ∃ ty, parseFieldDescriptor (T k).2.2.1 = some ty ∧ ∀ q, narrow ty (.ref q) = .ref q ∧ fits ty (.ref q) = true := by
  have h := (show (List.range 12).all (fun c => (List.range (clN c)).all fun k => !fkr c k || isRefT (parseFieldDescriptor ((vwCl.getD c (RX0, TX0, 0)).2.1 k).2.2.1)) = true by decide +kernel)
  have hl : ci < 12 := (List.getElem?_eq_some_iff.mp hc).1
  have h1 := List.all_eq_true.mp h ci (List.mem_range.mpr hl)
  have hg : vwCl.getD ci (RX0, TX0, 0) = (C, T, N) := by rw [List.getD_eq_getElem?_getD, hc]; rfl
  unfold clN at h1
  rw [hg] at h1
  have h2 := List.all_eq_true.mp h1 k (List.mem_range.mpr hk)
  rw [hf] at h2
  simp only [Bool.not_true, Bool.false_or] at h2
  cases q : parseFieldDescriptor (T k).2.2.1 with
  | none => rw [q] at h2; cases h2
  | some ty =>
    rw [q] at h2
    refine ⟨ty, rfl, fun r => ?_⟩
    cases ty <;> first | exact ⟨rfl, rfl⟩ | cases h2
theorem gent_o {w : MD} {e : GE} (h : e.1 < 20) : gent w e = .inr (e.1, (List.range e.2.1).map fun k => if fkr e.1 k = true then va_rf ((gR e.2.2.2 k).map w.2.2.1) else .int (gI e.2.2.1 k)) := by
  unfold gent
  rw [if_neg (by omega), if_neg (by omega), if_neg (by omega), if_neg (by omega)]
theorem gent_setR {w : MD} {e : GE} {k b : Nat} (h : e.1 < 20) (hk : k < e.2.1) (hf : fkr e.1 k = true) : gent w (e.1, e.2.1, e.2.2.1, (k, b) :: e.2.2.2) = .inr (e.1, ((List.range e.2.1).map fun k => if fkr e.1 k = true then va_rf ((gR e.2.2.2 k).map w.2.2.1) else .int (gI e.2.2.1 k)).set k (.ref (w.2.2.1 b))) := by
  rw [gent_o (e := (e.1, e.2.1, e.2.2.1, (k, b) :: e.2.2.2)) h]
  congr 2
  apply List.ext_getElem?
  intro j
  rw [List.getElem?_set]
  by_cases hj : k = j
  · subst hj
    simp only [List.length_map, List.length_range, hk, if_true, List.getElem?_map, List.getElem?_range hk, Option.map_some, hf, gR]
    rfl
  · rw [if_neg hj]
    by_cases hl : j < e.2.1
    · simp only [List.getElem?_map, List.getElem?_range hl, Option.map_some, gR, if_neg (fun q : j = k => hj q.symm)]
    · rw [List.getElem?_eq_none (by simp; omega), List.getElem?_eq_none (by simp; omega)]
theorem gent_setI {w : MD} {e : GE} {k : Nat} {x : Int32} (h : e.1 < 20) (hk : k < e.2.1) (hf : fkr e.1 k = false) : gent w (e.1, e.2.1, (k, x) :: e.2.2.1, e.2.2.2) = .inr (e.1, ((List.range e.2.1).map fun k => if fkr e.1 k = true then va_rf ((gR e.2.2.2 k).map w.2.2.1) else .int (gI e.2.2.1 k)).set k (.int x)) := by
  rw [gent_o (e := (e.1, e.2.1, (k, x) :: e.2.2.1, e.2.2.2)) h]
  congr 2
  apply List.ext_getElem?
  intro j
  rw [List.getElem?_set]
  by_cases hj : k = j
  · subst hj
    simp [hk, hf, gI]
  · rw [if_neg hj]
    by_cases hl : j < e.2.1
    · simp only [List.getElem?_map, List.getElem?_range hl, Option.map_some, gI, if_neg (fun q : j = k => hj q.symm)]
    · rw [List.getElem?_eq_none (by simp; omega), List.getElem?_eq_none (by simp; omega)]
theorem gent_i {w : MD} {e : GE} (h : e.1 = 20) : gent w e = .inl (w.2.1.1, e.2.1, .inl (gI e.2.2.1)) := by
  unfold gent; rw [if_pos h]
/-- one instruction that makes nothing: the machine goes on with the same addresses -/
theorem gws_lt {w : MD} {G : GH} {a : Nat} {e : GE} (h : G[a]? = some e) : a < G.length := (List.getElem?_eq_some_iff.mp h).1
theorem clN_of {ci : Nat} {C : String} {T : u_T} {N : Nat} (hc : vwCl[ci]? = some (C, T, N)) : clN ci = N := by
  unfold clN; rw [List.getD_eq_getElem?_getD, hc]; rfl
theorem gR_map {f : Nat → Nat} : ∀ (l : List Nat) (i : Nat), gR (l.map fun i => (i, f i)) i = if i ∈ l then some (f i) else none := by
  intro l
  induction l with
  | nil => intro i; simp [gR]
  | cons a r ih =>
    intro i
    simp only [List.map_cons, gR, ih]
    by_cases h : i = a
    · subst h; simp
    · by_cases h2 : i ∈ r <;> simp [h, h2]
theorem lgsl_mv (w : MD) : ∀ vs : List Value, (lg_sl (vs.map (mv w))).length = (lg_sl vs).length := by
  intro vs
  induction vs with
  | nil => rfl
  | cons v vs ih =>
    simp only [lg_sl, List.map_cons, List.flatMap_cons, List.length_append] at ih ⊢
    rw [ih]
    cases v <;> rfl
theorem lvargs_mv (w : MD) : ∀ (vs : List Value) (n : Nat) (q : Nat × Value), q ∈ lv_args n vs → (q.1, mv w q.2) ∈ lv_args n (vs.map (mv w)) := by
  intro vs
  induction vs with
  | nil => intro n q hq; cases hq
  | cons v vs ih =>
    intro n q hq
    simp only [lv_args, List.map_cons] at hq ⊢
    rcases List.mem_cons.mp hq with rfl | hq
    · exact List.mem_cons_self
    · refine List.mem_cons_of_mem _ ?_
      rw [mv_cat]
      exact ih _ q hq
theorem lvm_ent {w : MD} {as : List Value} {n : Nat} {ls : Array Slot} (hnd : noD as = true) (hl0 : lv_has ls n (lv_args 0 (as.map (mv w)))) : lvm w ls n (ent0 as n) := by
  refine ⟨hl0.1, hl0.2.1, fun i v hi => ?_⟩
  have hin : (i, v) ∈ lv_args 0 as := by
    unfold ent0 at hi
    by_cases hl : i < (entL as).length
    · rw [List.getElem?_append_left hl] at hi
      have := ent0_in (noD_ok as hnd) 0 i v hi
      rwa [Nat.zero_add] at this
    · rw [List.getElem?_append_right (by omega), List.getElem?_replicate] at hi
      split at hi <;> cases hi
  exact hl0.2.2 _ (lvargs_mv w as 0 (i, v) hin)
set_option maxHeartbeats 4000000 in
theorem krun_ok {tab : Nat → Option (Mth × List ME × Nat)} (ht : KTab tab) : ∀ (n d m pc : Nat) (L : List (Option Value)) (S : List Value) (G Gf : GH), krun tab n d m pc L S G = some Gf → ∀ (M : Mth) (cd : List ME) (np : Nat), tab m = some (M, cd, np) → KWit M d pc L S G Gf := by
  intro n
  induction n with
  | zero => intro d m pc L S G Gf h; cases h
  | succ n ih =>
    intro d m pc L S G Gf h M cd np hm p l e R s mi args below meth c w A Q c0 s0 X hc hs h0 h1 ad H locs ls hP hD hS hl k
    obtain ⟨hx, hb, hml, hown, hts, hWS, hin, hA, hF, hLo⟩ := id X
    obtain ⟨⟨P, hPL, hcd⟩, hlk, -⟩ := ht m M cd np hm
    have hmono := krun_mono (tab := tab) n
    unfold krun at h
    rw [hm] at h
    dsimp only at h
    split at h
    · cases h
    rename_i pcE I aux v wl hfE
    obtain ⟨hEm, hpc⟩ := kfind_ok hfE
    obtain ⟨hdec, hex⟩ := hcd _ hEm
    have hlk := hlk _ hEm
    dsimp only at hpc hdec hex hlk
    subst hpc
    have go : ∀ {pc2 : Nat} {L2 : List (Option Value)} {S2 : List Value} (ls2 : Array Slot), krun tab n d m pc2 L2 S2 G = some Gf → lvm (wa w ad) ls2 M.2.2.1 L2 → W p l e R s mi args below meth c H locs (cn G - c0) (sn G - s0) Q (F0 mi pc2 ls2 (S2.map (mv (wa w ad)))) := fun ls2 h2 hl2 => ih d m _ _ _ G Gf h2 M cd np hm p l e R s mi args below meth c w A Q c0 s0 X hc hs h0 h1 ad H locs ls2 hP hD hS hl2 k
    have gs : ∀ {pc2 a : Nat} {S2 : List Value} {H2 : Heap} {locs2 : List Loc} {e0 E0 : GE}, G[a]? = some e0 → E0.2.1 = e0.2.1 → krun tab n d m pc2 L S2 (G.set a E0) = some Gf → va_P w.1 vwCl ((gws (wa w ad) G).set a (ad a, gent (wa w ad) E0)) H2 → va_D A ((gws (wa w ad) G).set a (ad a, gent (wa w ad) E0)) → va_S A s.heap H2 locs2 → W p l e R s mi args below meth c H2 locs2 (cn G - c0) (sn G - s0) Q (F0 mi pc2 ls (S2.map (mv (wa w ad)))) := by
      intro pc2 a S2 H2 locs2 e0 E0 hg hE h2 hP2 hD2 hS2
      have hal := gws_lt (w := w) hg
      have e1 := gws_set (w := wa w ad) (G := G) E0 hal
      have e1' : (gws (wa w ad) G).set a (ad a, gent (wa w ad) E0) = gws (wa w ad) (G.set a E0) := e1
      rw [e1'] at hP2 hD2
      have ec : cn (G.set a E0) = cn G := by simp [cn]
      have es : sn (G.set a E0) = sn G := sn_set hg hE
      rw [← ec, ← es]
      exact ih d m _ _ _ (G.set a E0) Gf h2 M cd np hm p l e R s mi args below meth c w A Q c0 s0 X hc hs (by rw [ec]; exact h0) (by rw [es]; exact h1) ad H2 locs2 ls hP2 hD2 hS2 hl (fun ad' H' locs' ls' pc' hag => k ad' H' locs' ls' pc' (fun q hq => hag q (by rw [List.length_set]; exact hq)))
    split at h
    · cases h
      exact k ad H locs ls pcE (fun _ _ => rfl) hP hD hS hdec
    · split at h
      · rename_i x hm2
        exact lv_aload_n hx hb hdec rfl (lvm_get hl hm2) (go ls h hl)
      · cases h
    · split at h
      · rename_i x hm2
        exact lv_iload_n hx hb hdec rfl (lvm_get hl hm2) (go ls h hl)
      · cases h
    · exact lv_iconst hx hb hdec (of_decide_eq_true hex) (go ls h hl)
    · exact lv_bipush hx hb hdec (of_decide_eq_true hex) (go ls h hl)
    · exact lv_sipush hx hb hdec (of_decide_eq_true hex) (go ls h hl)
    · exact lv_ldc hx hb hown (hts _ (PL_c hPL hex)) hdec (go ls h hl)
    · exact lv_dup hx hb hdec rfl (go ls h hl)
    · exact lv_iadd hx hb hdec (go ls h hl)
    · rename_i k0 x S2
      split at h
      · rename_i hI
        obtain ⟨ls', e', h'⟩ := lvm_st1 (v := .int x) hl (blt_lt (Bool.and_eq_true_iff.mp hI).1) rfl (Bool.and_eq_true_iff.mp hI).2
        have kk := go ls' h h'
        intro T hT XX
        obtain ⟨t, a1, b1⟩ := kk T hT XX
        refine ⟨t, ?_, b1⟩
        simp only [mv, List.map_cons] at e' ⊢
        jvm_step XX.here [XX.here.top, ↓top_set XX.here.top, hx, hb, hdec, e', klen, ilen]
        exact a1
      · cases h
    · rename_i q dl
      split at h
      · rename_i x hm2
        split at h
        · rename_i hI
          obtain ⟨ls', e', h'⟩ := lvm_st1 (v := .int (x + v)) hl (blt_lt (Bool.and_eq_true_iff.mp hI).1) rfl (Bool.and_eq_true_iff.mp hI).2
          have hg := lvm_get hl hm2
          have hv : Int32.ofInt dl = v := of_decide_eq_true hex
          have kk := go ls' h h'
          intro T hT XX
          obtain ⟨t, a1, b1⟩ := kk T hT XX
          refine ⟨t, ?_, b1⟩
          subst hv
          simp only [mv] at e' hg ⊢
          jvm_step XX.here [XX.here.top, ↓top_set XX.here.top, hx, hb, hdec, hg, e', klen, ilen]
          exact a1
        · cases h
      · cases h
    · exact lv_goto hx hb hdec (of_decide_eq_true hex) (go ls h hl)
    · rename_i off y x S2
      split at h
      · rename_i hyx
        exact lv_icmp_ge hx hb hdec (of_decide_eq_true hex) (fun _ => go ls h hl) (fun q => absurd hyx q)
      · rename_i hyx
        exact lv_icmp_ge hx hb hdec (of_decide_eq_true hex) (fun q => absurd q hyx) (fun _ => go ls h hl)
    · rename_i idx a S2
      split at h
      · rename_i e0 he
        split at h
        · rename_i hI
          obtain ⟨hI1, hI2⟩ := Bool.and_eq_true_iff.mp hI
          have hk0 := Nat.eq_of_beq_eq_true hI1
          have hk1 := blt_lt hI2
          obtain ⟨Cn, T, N, ref, f1, f2, f3, f4, f5, f6, f7, f8, f9, f10, f11⟩ := PL_f hPL hex
          have hws := gws_get (w := wa w ad) he
          rw [gent_o (by omega), hk0] at hws
          have hsame : ∀ x, s.fieldFound? (T (aux % 64)).1 (T (aux % 64)).2.1 (T (aux % 64)).2.2.1 = some x → s.fieldFound? ref (T (aux % 64)).2.1 (T (aux % 64)).2.2.1 = some x := by
            rcases f7 with f7 | f7
            · intro x hx; rw [f7]; exact hx
            · intro x hx; exact u_same (hts _ f7) x hx
          split at h
          · rename_i hfk
            split at h
            · rename_i b hgr
              refine va_get (D := w.1) (ci := aux / 64) (v := .ref (ad b)) (C := Cn) (T := T) (N := N) hx hb hts f5 hown hWS.1.1 hP a hws f1 (aux % 64) f3 (hts _ f6) hsame ?_ hdec (go ls h hl)
              simp [List.getElem?_map, List.getElem?_range hk1, hfk, hgr, va_rf, wa]
            · cases h
          · rename_i hfk
            refine va_get (D := w.1) (ci := aux / 64) (v := .int (gI e0.2.2.1 (aux % 64))) (C := Cn) (T := T) (N := N) hx hb hts f5 hown hWS.1.1 hP a hws f1 (aux % 64) f3 (hts _ f6) hsame ?_ hdec (go ls h hl)
            simp [List.getElem?_map, List.getElem?_range hk1, hfk]
        · cases h
      · cases h
    · rename_i idx b a S2
      split at h
      · rename_i e0 he
        split at h
        · rename_i hI
          simp only [Bool.and_eq_true] at hI
          obtain ⟨⟨⟨hI1, hI2⟩, hI3⟩, hI4⟩ := hI
          have hk0 := Nat.eq_of_beq_eq_true hI1
          have hk1 := blt_lt hI2
          obtain ⟨Cn, T, N, ref, f1, f2, f3, f4, f5, f6, f7, f8, f9, ⟨ty, f10⟩, f11⟩ := PL_f hPL hex
          have hws := gws_get (w := wa w ad) he
          have hlt : e0.1 < 20 := by omega
          have hfr : fkr e0.1 (aux % 64) = true := by rw [hk0]; exact hI3
          have hgs := gent_setR (w := wa w ad) (b := b) hlt hk1 hfr
          rw [gent_o hlt, hk0] at hws
          rw [hk0] at hgs
          have hsame : ∀ x, s.fieldFound? (T (aux % 64)).1 (T (aux % 64)).2.1 (T (aux % 64)).2.2.1 = some x → s.fieldFound? ref (T (aux % 64)).2.1 (T (aux % 64)).2.2.1 = some x := by
            rcases f7 with f7 | f7
            · intro x hx; rw [f7]; exact hx
            · intro x hx; exact u_same (hts _ f7) x hx
          obtain ⟨tz, g1, g2⟩ := fkr_ref f1 f3 hI3
          refine va_putF (D := w.1) (ci := aux / 64) (v := .ref (ad b)) (ty := tz) (C := Cn) (T := T) (N := N) hx hb hts f5 ty f10 f11 hown hWS.1.1 hP hD hS a hws f1 (aux % 64) f3 (hts _ f6) hsame (f8.symm.trans hI4) hin (hlk hI3 Cn T N f1) g1 (g2 _).1 (g2 _).2 (by simp; exact hk1) hdec (fun H1 locs1 hP1 hD1 hS1 => ?_)
          refine gs he (by rfl) h ?_ ?_ hS1
          · rw [hk0, hgs]; exact hP1
          · rw [hk0, hgs]; exact hD1
        · cases h
      · cases h
    · rename_i idx x a S2
      split at h
      · rename_i e0 he
        split at h
        · rename_i hI
          simp only [Bool.and_eq_true, Bool.not_eq_true'] at hI
          obtain ⟨⟨⟨⟨hI1, hI2⟩, hI3⟩, hI4⟩, hI5⟩ := hI
          have hk0 := Nat.eq_of_beq_eq_true hI1
          have hk1 := blt_lt hI2
          obtain ⟨Cn, T, N, ref, f1, f2, f3, f4, f5, f6, f7, f8, f9, ⟨ty, f10⟩, f11⟩ := PL_f hPL hex
          have hws := gws_get (w := wa w ad) he
          have hlt : e0.1 < 20 := by omega
          have hfr : fkr e0.1 (aux % 64) = false := by rw [hk0]; exact hI3
          have hgs := gent_setI (w := wa w ad) (x := x) hlt hk1 hfr
          rw [gent_o hlt, hk0] at hws
          rw [hk0] at hgs
          have hsame : ∀ x, s.fieldFound? (T (aux % 64)).1 (T (aux % 64)).2.1 (T (aux % 64)).2.2.1 = some x → s.fieldFound? ref (T (aux % 64)).2.1 (T (aux % 64)).2.2.1 = some x := by
            rcases f7 with f7 | f7
            · intro x hx; rw [f7]; exact hx
            · intro x hx; exact u_same (hts _ f7) x hx
          have hnf : narrow (if fzr (aux / 64) (aux % 64) = true then .boolean else .int) (.int x) = .int x ∧ fits (if fzr (aux / 64) (aux % 64) = true then .boolean else .int) (.int x) = true := by
            unfold bz at hI5
            simp only [Bool.or_eq_true, beq_iff_eq] at hI5
            split
            · rcases hI5 with rfl | rfl <;> exact ⟨by decide, by decide⟩
            · exact ⟨rfl, rfl⟩
          refine va_put (D := w.1) (ci := aux / 64) (v := .int x) (C := Cn) (T := T) (N := N) hx hb hts f5 ty f10 f11 hown hWS.1.1 hP hD hS a hws f1 (aux % 64) f3 (hts _ f6) hsame (f8.symm.trans hI4) (f9 hI3) hnf.1 hnf.2 (by simp; exact hk1) hdec (fun H1 locs1 hP1 hD1 hS1 => ?_)
          refine gs he (by rfl) h ?_ ?_ hS1
          · rw [hk0, hgs]; exact hP1
          · rw [hk0, hgs]; exact hD1
        · cases h
      · cases h
    · rename_i x i a S2
      split at h
      · rename_i e0 he
        split at h
        · rename_i hI
          obtain ⟨hI1, hI2⟩ := Bool.and_eq_true_iff.mp hI
          have hk0 := Nat.eq_of_beq_eq_true hI1
          have hws := gws_get (w := wa w ad) he
          rw [gent_i hk0] at hws
          refine va_iast hx hb hWS.1.1 hP hD hS a 0 hws rfl (inb_in hI2) hdec (fun H1 locs1 hP1 hD1 hS1 => ?_)
          have hgs : gent (wa w ad) (e0.1, e0.2.1, (i.toNatClampNeg, x) :: e0.2.2.1, e0.2.2.2) = .inl (w.2.1.1, e0.2.1, .inl (upd (gI e0.2.2.1) i.toNatClampNeg x)) := by
            rw [gent_i (e := (e0.1, e0.2.1, (i.toNatClampNeg, x) :: e0.2.2.1, e0.2.2.2)) hk0]
            have hf : gI ((i.toNatClampNeg, x) :: e0.2.2.1) = upd (gI e0.2.2.1) i.toNatClampNeg x := by
              funext j
              simp [gI, upd]
            dsimp only
            rw [hf]
            rfl
          refine gs he (by rfl) h ?_ ?_ hS1
          · rw [hgs]; exact hP1
          · rw [hgs]; exact hD1
        · cases h
      · cases h
    · rename_i idx
      split at h
      · rename_i hI
        simp only [Bool.and_eq_true] at hI
        obtain ⟨⟨⟨hI1, hI2⟩, hI3⟩, hI4⟩ := hI
        obtain ⟨Cn, T, N, f1, f2, f3, f4, f5, ty, f6, f7⟩ := hlk
        have hN := clN_of f1
        have hmm := hmono _ _ _ _ _ _ _ h
        have ec : cn (G ++ [(aux, clN aux, [], [])]) = cn G + 1 := by simp [cn]
        have es : sn (G ++ [(aux, clN aux, [], [])]) = sn G + N := by rw [sn_app, hN]; simp [sn]
        rw [ec, es] at hmm
        refine va_new (D := w.1) (ci := aux) (fs := (List.range N).map fun k => if fkr aux k = true then .null else .int 0) (C := Cn) (T := T) (N := N) hx hb hts f2 ty f6 hown (hts _ f3) (hts _ f4) (hts _ f5) hWS.1.1 hP hD hS hA f1 (fun j hj => ?_) (by omega) (by omega) hdec (fun q H1 hP1 hD1 hS1 => ?_)
        · rw [f7 j hj]
          simp [vp_V, List.getD_eq_getElem?_getD, List.getElem?_map, List.getElem?_range hj]
        · have hag : ∀ j, j < G.length → (fun j => if j = G.length then q else ad j) j = ad j := fun j hj => if_neg (by omega)
          have hgw : gws (wa w (fun j => if j = G.length then q else ad j)) (G ++ [(aux, clN aux, [], [])]) = gws (wa w ad) G ++ [(q, .inr (aux, (List.range N).map fun k => if fkr aux k = true then .null else .int 0))] := by
            rw [gws_app, gws_wa hag hI3, hN]
            congr 1
            have hlt : aux < 20 := by have := blt_lt hI4; omega
            show [((if G.length + 0 = G.length then q else ad (G.length + 0)), gent _ (aux, N, [], []))] = _
            rw [if_pos (by omega), gent_o (e := (aux, N, [], [])) hlt]
            rfl
          have est : (Value.ref G.length :: S).map (mv (wa w (fun j => if j = G.length then q else ad j))) = .ref q :: S.map (mv (wa w ad)) := by
            rw [List.map_cons, st_wa hag hI2]
            show Value.ref (if G.length = G.length then q else ad G.length) :: _ = _
            rw [if_pos rfl]
          have := ih d m _ _ _ _ Gf h M cd np hm p l e R s mi args below meth c w A Q c0 s0 X hc hs (by rw [ec]; omega) (by rw [es]; omega) _ H1 locs ls (by rw [hgw]; exact hP1) (by rw [hgw]; exact hD1) hS1 (lvm_wa hag hI1 hl) (fun ad2 H2 locs2 ls2 pc2 hg2 => k ad2 H2 locs2 ls2 pc2 (fun j hj => (hg2 j (by simp; omega)).trans (hag j hj)))
          rw [est, ec, es, show cn G + 1 - c0 = cn G - c0 + 1 by omega, show sn G + N - s0 = sn G - s0 + N by omega] at this
          exact this
      · cases h
    · rename_i t x S2
      split at h
      · rename_i hI
        simp only [Bool.and_eq_true, Bool.not_eq_true', decide_eq_false_iff_not] at hI
        obtain ⟨⟨⟨⟨⟨hI1, hI2⟩, hI3⟩, hI4⟩, hI5⟩, hI6⟩ := hI
        have hI2' : S2.all (bdV G.length) = true := hI2
        have hx5 := blt_lt hI5
        have hmm := hmono _ _ _ _ _ _ _ h
        have ec : cn (G ++ [(atk t, x.toNatClampNeg, [], [])]) = cn G + 1 := by simp [cn]
        have es : sn (G ++ [(atk t, x.toNatClampNeg, [], [])]) = sn G + x.toNatClampNeg := by rw [sn_app]; simp [sn]
        rw [ec, es] at hmm
        have fin : ∀ (q : Nat) (H1 : Heap) (a0 : ClassId × vp_A), (∀ ad2, gent (wa w ad2) (atk t, x.toNatClampNeg, [], []) = .inl a0) → va_P w.1 vwCl (gws (wa w ad) G ++ [(q, .inl a0)]) H1 → va_D A (gws (wa w ad) G ++ [(q, .inl a0)]) → va_S A s.heap H1 locs → W p l e R s mi args below meth c H1 locs (cn G - c0 + 1) (sn G - s0 + x.toNatClampNeg) Q (F0 mi (pcE + 2) ls (.ref q :: S2.map (mv (wa w ad)))) := by
          intro q H1 a0 hge hP1 hD1 hS1
          have hag : ∀ j, j < G.length → (fun j => if j = G.length then q else ad j) j = ad j := fun j hj => if_neg (by omega)
          have hgw : gws (wa w (fun j => if j = G.length then q else ad j)) (G ++ [(atk t, x.toNatClampNeg, [], [])]) = gws (wa w ad) G ++ [(q, .inl a0)] := by
            rw [gws_app, gws_wa hag hI3]
            congr 1
            show [((if G.length + 0 = G.length then q else ad (G.length + 0)), gent _ (atk t, x.toNatClampNeg, [], []))] = _
            rw [if_pos (by omega), hge]
          have est : (Value.ref G.length :: S2).map (mv (wa w (fun j => if j = G.length then q else ad j))) = .ref q :: S2.map (mv (wa w ad)) := by
            rw [List.map_cons, st_wa hag hI2']
            show Value.ref (if G.length = G.length then q else ad G.length) :: _ = _
            rw [if_pos rfl]
          have := ih d m _ _ _ _ Gf h M cd np hm p l e R s mi args below meth c w A Q c0 s0 X hc hs (by rw [ec]; omega) (by rw [es]; omega) _ H1 locs ls (by rw [hgw]; exact hP1) (by rw [hgw]; exact hD1) hS1 (lvm_wa hag hI1 hl) (fun ad2 H2 locs2 ls2 pc2 hg2 => k ad2 H2 locs2 ls2 pc2 (fun j hj => (hg2 j (by simp; omega)).trans (hag j hj)))
          rw [est, ec, es, show cn G + 1 - c0 = cn G - c0 + 1 by omega, show sn G + x.toNatClampNeg - s0 = sn G - s0 + x.toNatClampNeg by omega] at this
          exact this
        have ci := (hWS.1.1.2 0 _ rfl).2
        have cj := (hWS.1.1.2 1 _ rfl).2
        have cb := (hWS.1.1.2 2 _ rfl).2
        have arrw : ∀ ty, (Cond.arrayClass ty) ∈ TBG → (Cond.arrayClass ty).before args s = true := fun ty h => hts _ h
        cases t <;> first | exact absurd hI6 (by decide) | skip
        · refine va_newa (atype := .byte) hx hb (arrw .byte (TBG_mem (i := 786) (by decide +kernel) rfl)) rfl hWS.1.1 hP hD hS hA (a0 := (x.toNatClampNeg, .inl (fun _ => 0))) (fun _ => rfl) hI4 rfl (by show x.toNatClampNeg * 1 ≤ _; omega) (by omega) (by omega) hdec (fun q cA H1 hK1 hP1 hD1 hS1 => ?_)
          have h9 : s.vm.findClass ("[" ++ FieldType.byte.toString) = some cA := (hK1.2 4 _ rfl).2
          have h8 : cA = w.2.1.2.2.1 := Option.some.inj (h9.symm.trans cb)
          subst h8
          exact fin q H1 _ (fun _ => rfl) hP1 hD1 hS1
        · refine va_newa (atype := .int) hx hb (arrw .int (TBG_mem (i := 227) (by decide +kernel) rfl)) rfl hWS.1.1 hP hD hS hA (a0 := (x.toNatClampNeg, .inl (fun _ => 0))) (fun _ => rfl) hI4 rfl (by show x.toNatClampNeg * 4 ≤ _; omega) (by omega) (by omega) hdec (fun q cA H1 hK1 hP1 hD1 hS1 => ?_)
          have h9 : s.vm.findClass ("[" ++ FieldType.int.toString) = some cA := (hK1.2 4 _ rfl).2
          have h8 : cA = w.2.1.1 := Option.some.inj (h9.symm.trans ci)
          subst h8
          exact fin q H1 _ (fun _ => rfl) hP1 hD1 hS1
        · refine va_newa (atype := .long) hx hb (arrw .long (TBG_mem (i := 501) (by decide +kernel) rfl)) rfl hWS.1.1 hP hD hS hA (a0 := (x.toNatClampNeg, .inr (.inl (fun _ => 0)))) (fun _ => rfl) hI4 rfl (by show x.toNatClampNeg * 8 ≤ _; omega) (by omega) (by omega) hdec (fun q cA H1 hK1 hP1 hD1 hS1 => ?_)
          have h9 : s.vm.findClass ("[" ++ FieldType.long.toString) = some cA := (hK1.2 4 _ rfl).2
          have h8 : cA = w.2.1.2.1 := Option.some.inj (h9.symm.trans cj)
          subst h8
          exact fin q H1 _ (fun _ => rfl) hP1 hD1 hS1
      · cases h
    · rename_i idx nd k0 x S2
      split at h
      · rename_i hI
        simp only [Bool.and_eq_true, Bool.not_eq_true', decide_eq_false_iff_not] at hI
        obtain ⟨⟨⟨⟨⟨⟨hI1, hI2⟩, hI3⟩, hI4⟩, hI5⟩, hI6⟩, hI7⟩ := hI
        have hI2' : S2.all (bdV G.length) = true := hI2
        obtain ⟨rfl, hcl⟩ := hlk
        have hx5 := blt_lt hI5
        have hx7 := blt_lt hI7
        have hmm := hmono _ _ _ _ _ _ _ h
        generalize hNx : x.toNatClampNeg = N' at *
        generalize hNk : k0.toNatClampNeg = K' at *
        have ec : cn (G ++ ((23, N', [], (List.range N').map fun i => (i, G.length + 1 + i)) :: List.replicate N' (20, K', [], []))) = cn G + (1 + N') := by simp [cn]; omega
        have es : sn (G ++ ((23, N', [], (List.range N').map fun i => (i, G.length + 1 + i)) :: List.replicate N' (20, K', [], []))) = sn G + (N' + N' * K') := by
          rw [sn_app]; simp [sn]
        rw [ec, es] at hmm
        have ci := (hWS.1.1.2 0 _ rfl).2
        have cr := (hWS.1.1.2 3 _ rfl).2
        have hP0 : va_P w.1 vwCl (gws (wa w ad) G ++ va_pl [] (fun _ => (.inr (0, []) : va_E))) H := by simpa [va_pl] using hP
        have hD0 : va_D A (gws (wa w ad) G ++ va_pl [] (fun _ => (.inr (0, []) : va_E))) := by simpa [va_pl] using hD
        refine va_mna (ty := .int) (cy := w.2.1.1) hx hb hown (hts _ hcl) hWS.2 (hts (.arrayClass .int) (TBG_mem (i := 227) (by decide +kernel) rfl)) ci hWS.1.1 hP0 hD0 hS hA (z := (K', .inl (fun _ => 0))) hI4 hI6 hNx hNk (by omega) (by show K' * 4 ≤ _; omega) (by omega) rfl rfl (by omega) (by omega) (fun cc => inner_int cc K') hdec (fun q r cA H1 hrin hrL hK1 hP1 hD1 hS1 => ?_)
        have h9 : s.vm.findClass ("[" ++ (FieldType.array .int).toString) = some cA := (hK1.2 4 _ rfl).2
        have h8 : cA = w.2.1.2.2.2 := Option.some.inj (h9.symm.trans cr)
        subst h8
        have hag : ∀ j, j < G.length → (fun j => if j < G.length then ad j else if j = G.length then q else r (j - G.length - 1)) j = ad j := fun j hj => if_pos hj
        generalize hadd : (fun j => if j < G.length then ad j else if j = G.length then q else r (j - G.length - 1)) = ad' at hag
        have aq : ad' G.length = q := by rw [← hadd]; simp
        have ar : ∀ i, ad' (G.length + 1 + i) = r i := fun i => by
          rw [← hadd]
          show (if G.length + 1 + i < G.length then ad (G.length + 1 + i) else if G.length + 1 + i = G.length then q else r (G.length + 1 + i - G.length - 1)) = r i
          rw [if_neg (by omega), if_neg (by omega)]
          congr 1
          omega
        have hgw : gws (wa w ad') (G ++ ((23, N', [], (List.range N').map fun i => (i, G.length + 1 + i)) :: List.replicate N' (20, K', [], []))) = (gws (wa w ad) G ++ [(q, .inl (w.2.1.2.2.2, N', .inr (.inr (.inr (.inr (fun i => if i < N' then some (r i) else none))))))]) ++ va_pl ([] ++ (List.range N').map r) (vr_up (fun _ => (.inr (0, []) : va_E)) ((List.range N').map r) (.inl (w.2.1.1, (K', .inl (fun _ => 0))))) := by
          rw [gws_app, gws_wa hag hI3, List.append_assoc]
          congr 1
          rw [List.length_cons, List.length_replicate, List.range_succ_eq_map, List.map_cons, List.singleton_append]
          congr 1
          · show (ad' (G.length + 0), gent (wa w ad') (23, N', [], (List.range N').map fun i => (i, G.length + 1 + i))) = _
            rw [Nat.add_zero, aq]
            congr 1
            unfold gent
            simp only [Nat.reduceEqDiff, if_false, if_true]
            congr 5
            refine congrArg (fun f => Sum.inr (Sum.inr f)) (funext fun i => ?_)
            show ((gR ((List.range N').map fun i => (i, G.length + 1 + i)) i).map ad') = _
            rw [gR_map]
            by_cases hi : i < N'
            · rw [if_pos (List.mem_range.mpr hi), if_pos hi]
              exact congrArg some (ar i)
            · rw [if_neg (fun z => hi (List.mem_range.mp z)), if_neg hi]
              rfl
          · unfold va_pl
            rw [List.nil_append, List.map_map, List.map_map]
            apply List.map_congr_left
            intro i hi
            have hi' := List.mem_range.mp hi
            show (ad' (G.length + (i + 1)), gent (wa w ad') ((List.replicate N' ((20, K', [], []) : GE)).getD i g0)) = (r i, vr_up _ _ _ (r i))
            rw [vr_up_in (List.mem_map.mpr ⟨i, hi, rfl⟩), show G.length + (i + 1) = G.length + 1 + i by omega, ar i]
            congr 1
            rw [List.getD_eq_getElem?_getD, List.getElem?_replicate, if_pos hi']
            rfl
        have est : (Value.ref G.length :: S2).map (mv (wa w ad')) = .ref q :: S2.map (mv (wa w ad)) := by
          rw [List.map_cons, st_wa hag hI2']
          show Value.ref (ad' G.length) :: _ = _
          rw [aq]
        have := ih d m _ _ _ _ Gf h M cd np hm p l e R s mi args below meth c w A Q c0 s0 X hc hs (by rw [ec]; omega) (by rw [es]; omega) _ H1 locs ls (by rw [hgw]; exact hP1) (by rw [hgw]; exact hD1) hS1 (lvm_wa hag hI1 hl) (fun ad2 H2 locs2 ls2 pc2 hg2 => k ad2 H2 locs2 ls2 pc2 (fun j hj => (hg2 j (by simp; omega)).trans (hag j hj)))
        rw [est, ec, es, show cn G + (1 + N') - c0 = cn G - c0 + 1 + N' by omega, show sn G + (N' + N' * K') - s0 = sn G - s0 + N' + N' * K' by omega] at this
        exact this
      · cases h
    · rename_i idx
      split at h
      · split at h
        · rename_i a S2 d1
          split at h
          · rename_i hI
            have hI := Nat.le_of_ble_eq_true hI
            have hz : (((S2.map (mv (wa w ad))).map fun v => v.category)).sum ≤ 8 := by rw [cat_mv]; exact hI
            exact W.objInit hx hb hown (hts _ hlk) (hts _ (TBG_mem (i := 139) (by decide +kernel) rfl)) (hts _ (TBG_mem (i := 140) (by decide +kernel) rfl)) rfl (hl.1.trans hml.symm) rfl hdec (by omega) (by show 2 * 0 + _ + 12 ≤ _; omega) (go ls h hl)
          · cases h
        · cases h
      · rename_i q
        split at h
        · cases h
        rename_i N cdN npN htq
        split at h
        · rename_i d1 b As hrev
          split at h
          · rename_i hI
            split at h
            · rename_i G1 hG1
              simp only [Bool.and_eq_true] at hI
              obtain ⟨⟨⟨⟨⟨hI1, hI2⟩, hI3⟩, hI4⟩, hI5⟩, hI6⟩ := hI
              have hm1 := hmono _ _ _ _ _ _ _ hG1
              have hm2 := hmono _ _ _ _ _ _ _ h
              obtain ⟨-, -, hNK, hnm, hinst, hret, hplain, hcls⟩ := ht q N cdN npN htq
              have hst : S = As.reverse ++ .ref b :: S.drop (npN + 1) := by
                have h2 : S.take (npN + 1) = (.ref b :: As).reverse := by rw [← hrev, List.reverse_reverse]
                have h3 := List.take_append_drop (npN + 1) S
                rw [h2, List.reverse_cons, List.append_assoc] at h3
                exact h3.symm
              generalize hS2 : S.drop (npN + 1) = S2 at *
              have hM : Met l N.1 (TBm N) { frames := d1, cells := cn G1 - cn G, slots := sn G1 - sn G, locals := 64 * d1 } (va_Pc ((Value.ref b :: As).map (mv (wa w ad))) (fun U => va_P w.1 vwCl (gws (wa w ad) G) U.heap ∧ WMk w U ∧ va_D (fun _ => True) (gws (wa w ad) G) ∧ U.heap.size = H.size)) (fun _ st o t => (o = .returned none ∧ ∃ ad', (∀ k, k < G.length → ad' k = ad k) ∧ va_P w.1 vwCl (gws (wa w ad') G1) t.heap ∧ va_D (va_A (gws (wa w ad) G) H.size) (gws (wa w ad') G1)) ∧ va_F (va_A (gws (wa w ad) G) H.size) st t) (cn G1 - cn G) (sn G1 - sn G) (va_A (gws (wa w ad) G) H.size) := by
                refine Met.ofW (cc := N.2.1) (maxL := N.2.2.1) (ret := N.2.2.2.1) hplain rfl ?_
                intro p' e' s' m' args' below' meth' c' s₁' B hml' hv
                obtain ⟨rfl, hP', hWS', hD', hsz⟩ := hv
                have hts0' := atoms_spec (ws := TBm N) B.pre
                have hown' : s'.vm.findClass N.1.cls = some m'.cls := findClass_of_methodNamed B.named
                rw [hcls] at hown'
                have hin' : meth'.name = "<init>" := ((name_of_methodNamed B.named B.method).1).trans hnm
                have hlocks' := B.notSynchronized
                have hA' : ∀ z, s'.heap.size ≤ z → va_A (gws (wa w ad) G) H.size z := fun z hz => Or.inr (by rw [← hsz]; exact hz)
                have hlen : (lg_sl ((Value.ref b :: As).map (mv (wa w ad)))).length = (lg_sl (.ref b :: As)).length := lgsl_mv _ _
                have hl0 := lv_entry ((Value.ref b :: As).map (mv (wa w ad))) (n := N.2.2.1) (by rw [hlen]; exact Nat.le_of_ble_eq_true hI6)
                rw [lg_entry_eq]
                generalize (lg_sl ((Value.ref b :: As).map (mv (wa w ad))) ++ List.replicate (N.2.2.1 - (lg_sl ((Value.ref b :: As).map (mv (wa w ad)))).length) Slot.unset).toArray = ls2 at hl0 ⊢
                have hl2 : lvm (wa w ad) ls2 N.2.2.1 (ent0 (.ref b :: As) N.2.2.1) := lvm_ent hI5 hl0
                have X' : KX N d1 p' (headSpec (TBm N) { frames := d1, cells := cn G1 - cn G, slots := sn G1 - sn G, locals := 64 * d1 }).room s' m' (((Value.ref b :: As).map (mv (wa w ad))).toArray) meth' c' w (va_A (gws (wa w ad) G) H.size) := ⟨B.exec, B.bytes, hml', hown', fun z hz => hts0' z (List.mem_cons_of_mem _ hz), hWS', hin', hA', Nat.le_refl _, Nat.le_refl _⟩
                have := ih d1 q 0 _ _ G G1 hG1 N cdN npN htq p' l e' _ s' m' _ below' meth' c' w _ (MQ below' (fun _ st o t => (o = .returned none ∧ ∃ ad', (∀ k, k < G.length → ad' k = ad k) ∧ va_P w.1 vwCl (gws (wa w ad') G1) t.heap ∧ va_D (va_A (gws (wa w ad) G) H.size) (gws (wa w ad') G1)) ∧ va_F (va_A (gws (wa w ad) G) H.size) st t) _ s' (cn G1 - cn G) (sn G1 - sn G) (va_A (gws (wa w ad) G) H.size)) (cn G) (sn G) X' (Nat.le_refl _) (Nat.le_refl _) (Nat.le_refl _) (Nat.le_refl _) ad s'.heap [] ls2 hP' (hD'.self) va_S.rf hl2 (fun ad' H' locs' ls' pc' hag hP1 hD1 hS1 hdr => by
                  exact W.vret B.exec B.bytes (B.returns.trans hret) (fun t ht _ => ⟨⟨rfl, ad', hag, by rw [ht]; exact hP1, hD1⟩, hS1.F ht⟩) hS1.2.2 hdr)
                rw [Nat.sub_self, Nat.sub_self] at this
                exact this
              have hFc : ∀ z, va_A (gws (wa w ad) G) H.size z → A z := fun z hz => by
                rcases hz with ⟨k2, e2, hz⟩ | hz
                · exact hD.2 k2 _ hz
                · exact hA z (Nat.le_trans hS.1 hz)
              have hcw : CallB R s args M.2.2.2.2 idx N.1 N.2.1 N.2.2.1 none (TBm N) { frames := d1, cells := cn G1 - cn G, slots := sn G1 - sn G, locals := 64 * d1 } (cn G1 - cn G) (sn G1 - sn G) npN := by
                obtain ⟨-, -, k3, k4, k5, k6⟩ := hNK.back hts (Nat.le_refl (d1 + 1)) hF hLo
                rw [hret] at k6
                have hc1 := hts _ hNK.1
                rw [hret] at hc1
                exact ⟨rfl, rfl, k3, k4, k5, k6, hc1, hts _ hNK.2.1, hNK.2.2.1, hNK.len, hts _ (hlk N cdN npN htq)⟩
              have hr := va_runI (g := F0 mi pcE ls (S.map (mv (wa w ad)))) (b := ad b) (As := As.map (mv (wa w ad))) (rest := S2.map (mv (wa w ad))) (p := p) (l := l) (e := e) (below := below) (meth := meth) (locs := locs) (cells := cn G - c0) (slots := sn G - s0) ⟨hx, hb, hml, hown, hts⟩ hM ⟨hcw, hnm, hts _ hinst⟩ ⟨fun a U g mk z => ⟨z.1, z.2.1, z.2.2.1.same rfl, z.2.2.2.1, z.2.2.2.2⟩, fun U hU hW => ⟨rfl, by rw [hU]; exact hP, hWS.warm hW, hD.weaken (fun _ _ _ _ => trivial), by rw [hU]⟩⟩ rfl (by rw [List.length_map]; exact Nat.eq_of_beq_eq_true hI3) hl.1 (by show S.map (mv (wa w ad)) = _; rw [hst, List.map_append, List.map_reverse]; rfl) (lv_room (by rw [cat_mv]; exact Nat.le_of_ble_eq_true hI4)) hdec ⟨by omega, by omega⟩
              intro T hT XX
              obtain ⟨vv, st₀, t, T', L2, hh0, XX', hL2, e1, e2, ⟨⟨hv, ad', hag, hp, hdd⟩, hz, hk2⟩, stt⟩ := hr T hT XX
              cases hv
              rw [hh0] at hz hk2
              have hbS2 : S2.all (bdV G.length) = true := by
                rw [hst, List.all_append] at hI2
                simp only [Bool.and_eq_true, List.all_cons] at hI2
                exact hI2.2.2
              have := ih (d1 + 1) m (pcE + 3) L S2 G1 Gf h M cd np hm p l e R s mi args below meth c w A Q c0 s0 X hc hs (Nat.le_trans h0 hm1.1) (Nat.le_trans h1 hm1.2) ad' T'.heap (locs ++ L2) ls (by rw [e1]; exact hp) (hdd.weaken (fun _ q2 _ z => hFc _ z)) ⟨Nat.le_trans hS.1 (by rw [e1]; exact hz), fun z hz1 hz2 => by rw [e1, hk2 z (Nat.lt_of_lt_of_le hz1 hS.1) (fun y => hz2 (hFc z y))]; exact hS.2.1 z hz1 hz2, fun z hz3 => by
                rcases List.mem_append.mp hz3 with h8 | h8
                · exact hS.2.2 z h8
                · exact hFc _ (hL2 z h8)⟩ (lvm_wa hag hI1 hl) (fun ad2 H2 locs2 ls2 pc2 hg2 => k ad2 H2 locs2 ls2 pc2 (fun j hj => (hg2 j (Nat.lt_of_lt_of_le hj hm1.1)).trans (hag j hj)))
              rw [st_wa hag hbS2, show cn G1 - c0 = cn G - c0 + (cn G1 - cn G) by omega, show sn G1 - s0 = sn G - s0 + (sn G1 - sn G) by omega] at this
              obtain ⟨t2, a2, b2⟩ := this T' rfl XX'
              exact ⟨t2, stt t2 a2, b2⟩
            · cases h
          · cases h
        · cases h
    · cases h
