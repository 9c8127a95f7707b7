/-! THE JUDGEMENTS: a contract of a method (Ev), a run within a method (Go) -/
def rmD (d : Nat) : Room := { frames := d, cells := 0, slots := 0, locals := 64 * d }
/-- the objects' addresses are apart -/
def adOK (w : MD) : Prop := ∀ a b, a < shN → b < shN → w.2.2.1 a = w.2.2.1 b → a = b
/-- what may change: the world's objects, and what comes later -/
def AF (w : MD) (sz : Nat) : Nat → Prop := fun q => (∃ a, a < shN ∧ q = w.2.2.1 a) ∨ sz ≤ q
/-- what the tables say, in a state -/
def WS (w : MD) (U : State) : Prop := va_K w.1 vwCl (mtys w) U ∧ (∀ q ∈ nestL, va_Nw (.methodLinkNest q.1 q.2.1 q.2.2.1 q.2.2.2) U) ∧ ∀ (i : Nat) (q : String × Nat × String), strL[i]? = some q → vk_R q.1 q.2.1 q.2.2 (w.2.2.2.1 i) U
def WT (w : MD) (A : Nat → Prop) (U : State) (H : Heap) : Prop := vk_S 2 strN strB w.2.2.2.1 w.2.2.2.2 A U H ∧ va_Z "java/lang/String" "COMPACT_STRINGS" "Z" (.int 1) A U H
theorem WT.moved {w : MD} {A : Nat → Prop} {u U : State} {H : Heap} (hvm : u.vm.Alike U.vm) (h : WT w A u H) : WT w A U H := ⟨vk_S.moved hvm h.1, va_Z.moved hvm h.2⟩
theorem WT.kept {w : MD} {A : Nat → Prop} {U : State} {H H1 : Heap} (h : WT w A U H) (hq : ∀ a : Nat, a < H.size → ¬ A a → H1[a]? = H[a]?) : WT w A U H1 := ⟨h.1.kept hq, h.2.kept hq⟩
theorem WT.narrow {w : MD} {A B : Nat → Prop} {U : State} {H : Heap} (h : WT w A U H) (hAB : ∀ q, B q → A q) : WT w B U H := ⟨h.1.narrow hAB, h.2.narrow hAB⟩
theorem WS.warm {w : MD} {s U : State} (hW : s.WarmedH U.vm) (h : WS w s) : WS w U := ⟨va_K.moved hW.alike h.1, fun q hq => va_Nw.warmM hW (h.2.1 q hq), fun i q hq => vk_R.warm hW (h.2.2 i q hq)⟩
theorem WS.same {w : MD} {s U : State} (hv : U.vm = s.vm) (h : WS w s) : WS w U := ⟨va_K.moved (by rw [hv]; exact Vm.Alike.refl _) h.1, fun q hq => va_Nw.same rfl hv.symm (h.2.1 q hq), fun i q hq => vk_R.same hv (h.2.2 i q hq)⟩
def TBm (N : Mth) : List Cond := .code N.1 N.2.1 N.2.2.1 N.2.2.2.1 :: TBG
/-- the contract: from every state whose heap is this one, the method answers r and leaves that heap -/
def PEv (w : MD) (sz : Nat) (σ : MH) : State → Prop := fun U => U.heap.size = sz ∧ va_P w.1 vwCl (wsO w σ) U.heap ∧ adOK w ∧ WS w U ∧ WT w (AF w sz) U U.heap
def Ev (N : Mth) (d : Nat) (as : List Value) (σ : MH) (r : Option Value) (σ' : MH) : Prop :=
  ∀ (l : Launch) (w : MD) (sz : Nat), Met l N.1 (TBm N) (rmD d) (va_Pc (as.map (mv w)) (PEv w sz σ)) (fun _ st o t => (o = .returned (r.map (mv w)) ∧ va_P w.1 vwCl (wsO w σ') t.heap) ∧ va_F (AF w sz) st t) 0 0 (AF w sz)
/-- where a method's body stands -/
def Cx (M : Mth) (d : Nat) (p : Program) (R : Room) (s : State) (m : MethodId) (args : Array Value) (meth : Method) (c : Code) (w : MD) (A : Nat → Prop) : Prop :=
  p.tables.exec = Jvm.exec ∧ c.code = M.2.1 ∧ c.maxLocals = M.2.2.1 ∧ s.vm.findClass M.2.2.2.2 = some m.cls ∧ (∀ q ∈ TBG, q.before args s = true) ∧ WS w s ∧ WT w A s s.heap ∧ adOK w ∧ (∀ a, a < shN → A (w.2.2.1 a)) ∧ (∀ q, s.heap.size ≤ q → A q) ∧ d ≤ R.frames ∧ 64 * d ≤ R.locals
def retOK (b : ByteArray) (pc : Nat) (S : List Value) : Prop := (S = [] ∧ decode b pc = .ok (.return_, 1)) ∨ (∃ x, S = [.int x] ∧ decode b pc = .ok (.ireturn, 1)) ∨ (∃ x, S = [.long x] ∧ decode b pc = .ok (.lreturn, 1))
def WM (M : Mth) (p : Program) (l : Launch) (e : Env) (R : Room) (s : State) (m : MethodId) (args : Array Value) (below : List Frame) (meth : Method) (c : Code) (w : MD) (A : Nat → Prop) (Q : State → Prop) : MC → Prop
  | (some pc, L, S, σ) => ∀ (H : Heap) (locs : List Loc) (ls : Array Slot), va_P w.1 vwCl (wsO w σ) H → va_S A s.heap H locs → lvm w ls M.2.2.1 L → W p l e R s m args below meth c H locs 0 0 Q (F0 m pc ls (S.map (mv w)))
  | (none, _, S, σ) => ∀ (H : Heap) (locs : List Loc) (ls : Array Slot) (pc : Nat), va_P w.1 vwCl (wsO w σ) H → va_S A s.heap H locs → retOK M.2.1 pc S → W p l e R s m args below meth c H locs 0 0 Q (F0 m pc ls (S.map (mv w)))
def Go (M : Mth) (d : Nat) (a b : MC) : Prop :=
  ∀ (p : Program) (l : Launch) (e : Env) (R : Room) (s : State) (m : MethodId) (args : Array Value) (below : List Frame) (meth : Method) (c : Code) (w : MD) (A : Nat → Prop) (Q : State → Prop), Cx M d p R s m args meth c w A → WM M p l e R s m args below meth c w A Q b → WM M p l e R s m args below meth c w A Q a
theorem Go.rf {M : Mth} {d : Nat} {a : MC} : Go M d a a := fun _ _ _ _ _ _ _ _ _ _ _ _ _ _ h => h
theorem Go.t {M : Mth} {d : Nat} {a b c : MC} (h1 : Go M d a b) (h2 : Go M d b c) : Go M d a c := fun p l e R s m args below meth cc w A Q C h => h1 p l e R s m args below meth cc w A Q C (h2 p l e R s m args below meth cc w A Q C h)
theorem va_D_ws {w : MD} {σ : MH} {A : Nat → Prop} (h : adOK w) (hA : ∀ a, a < shN → A (w.2.2.1 a)) : va_D A (wsO w σ) := by
  refine ⟨fun i j p q hp hq e => ?_, fun k q hq => ?_⟩
  · obtain ⟨h1, e1⟩ := wsO_some hp
    obtain ⟨h2, e2⟩ := wsO_some hq
    rw [e1, e2] at e
    exact h i j h1 h2 e
  · obtain ⟨h1, e1⟩ := wsO_some hq
    rw [e1]
    exact hA k h1
/-- fewer locals are known -/
def lforg : List (Option Value) → List (Option Value) → Bool
  | _, [] => true
  | [], none :: r => lforg [] r
  | [], some _ :: _ => false
  | _ :: a, none :: r => lforg a r
  | none :: _, some _ :: _ => false
  | some _ :: a, some _ :: r => lforg a r
/-- L' knows no more than L does -/
def LSub (L L' : List (Option Value)) : Prop := ∀ (i : Nat) (v : Value), L'[i]? = some (some v) → L[i]? = some (some v)
theorem LSub.nil {L : List (Option Value)} : LSub L [] := fun i v h => by simp at h
theorem LSub.cn {L L' : List (Option Value)} {x : Option Value} (h : LSub L L') : LSub (x :: L) (none :: L') := fun i v hi => by
  cases i with
  | zero => simp at hi
  | succ i => exact h i v hi
theorem LSub.cs {L L' : List (Option Value)} {x : Option Value} (h : LSub L L') : LSub (x :: L) (x :: L') := fun i v hi => by
  cases i with
  | zero => exact hi
  | succ i => exact h i v hi
theorem Go.fg {M : Mth} {d pc : Nat} {L L' : List (Option Value)} {S : List Value} {σ : MH} (h : LSub L L') : Go M d (some pc, L, S, σ) (some pc, L', S, σ) := by
  intro p l e R s m args below meth c w A Q C k H locs ls hP hS hl
  exact k H locs ls hP hS ⟨hl.1, hl.2.1, fun i v hi => hl.2.2 i v (h i v hi)⟩
theorem AF_in {w : MD} {sz : Nat} {A : Nat → Prop} (hA : ∀ a, a < shN → A (w.2.2.1 a)) (hB : ∀ q, sz ≤ q → A q) {sz' : Nat} (hs : sz ≤ sz') : ∀ q, AF w sz' q → A q := by
  intro q h
  rcases h with ⟨a, h1, rfl⟩ | h
  · exact hA a h1
  · exact hB q (Nat.le_trans hs h)
theorem PEv.blind {w : MD} {sz : Nat} {σ : MH} {as : List Value} : FrameBlind (va_Pc as (PEv w sz σ)) := fun _ _ _ _ q => ⟨q.1, q.2.1, q.2.2.1, q.2.2.2.1, q.2.2.2.2.1.same rfl, WT.moved (Vm.Alike.refl _) q.2.2.2.2.2⟩
theorem PEv.at {w : MD} {σ : MH} {s : State} {H : Heap} {A : Nat → Prop} {locs : List Loc} (hWS : WS w s) (hWT : WT w A s s.heap) (had : adOK w) (hA : ∀ a, a < shN → A (w.2.2.1 a)) (hB : ∀ q, s.heap.size ≤ q → A q) (hP : va_P w.1 vwCl (wsO w σ) H) (hS : va_S A s.heap H locs) : ∀ U : State, U.heap = H → s.WarmedH U.vm → PEv w H.size σ U := by
  intro U hU hW
  refine ⟨by rw [hU], by rw [hU]; exact hP, had, hWS.warm hW, ?_⟩
  rw [hU]
  exact WT.moved hW.alike ((hWT.kept hS.2.1).narrow (AF_in hA hB hS.1))
/-- a method's contract out of a run of its body -/
theorem Ev.of {M : Mth} {d : Nat} {as : List Value} {σ σ' : MH} {r : Option Value} {L : List (Option Value)} (hy : plainName M.1.cls = true) (hcls : M.1.cls = M.2.2.2.2)
    (hfit : (lg_sl as).length ≤ M.2.2.1) (hL : ∀ (i : Nat) (v : Value), L[i]? = some (some v) → (i, v) ∈ lv_args 0 as)
    (hret : match r with
      | none => M.2.2.2.1 = none
      | some (.int x) => ∃ ty, M.2.2.2.1 = some ty ∧ narrow ty (.int x) = .int x
      | some (.long _) => M.2.2.2.1 = some .long
      | _ => False)
    (h : Go M d (some 0, L, [], σ) (none, [], r.toList, σ')) : Ev M d as σ r σ' := by
  intro l w sz
  refine Met.ofW (cc := M.2.1) (maxL := M.2.2.1) (ret := M.2.2.2.1) hy rfl ?_
  intro p e s m args below meth c s₁ B hml hv
  obtain ⟨rfl, hsz, hP, had, hWS, hWT⟩ := hv
  have hx := B.exec
  have hb := B.bytes
  have hr := B.returns
  have hts0 := atoms_spec (ws := TBm M) B.pre
  have hts : ∀ q ∈ TBG, q.before ((as.map (mv w)).toArray) s = true := fun q hq => hts0 q (List.mem_cons_of_mem _ hq)
  have hown : s.vm.findClass M.1.cls = some m.cls := findClass_of_methodNamed B.named
  rw [hcls] at hown
  have hlocks := B.notSynchronized
  subst hsz
  have hcat : lg_sl (as.map (mv w)) = lg_sl (as.map (mv w)) := rfl
  have hlen : (lg_sl (as.map (mv w))).length = (lg_sl as).length := by
    have : ∀ vs : List Value, (lg_sl (vs.map (mv w))).length = (lg_sl vs).length := by
      intro vs
      induction vs with
      | nil => rfl
      | cons v vs ih =>
        simp only [lg_sl, List.map_cons, List.flatMap_cons, List.length_append] at ih ⊢
        rw [ih]
        cases v <;> rfl
    exact this as
  have hl0 := lv_entry (as.map (mv w)) (n := M.2.2.1) (by rw [hlen]; exact hfit)
  rw [lg_entry_eq]
  generalize (lg_sl (as.map (mv w)) ++ List.replicate (M.2.2.1 - (lg_sl (as.map (mv w))).length) Slot.unset).toArray = ls at hl0 ⊢
  have hmap : ∀ (vs : List Value) (n : Nat) (q : Nat × Value), q ∈ lv_args n vs → (q.1, mv w q.2) ∈ lv_args n (vs.map (mv w)) := by
    intro vs
    induction vs with
    | nil => intro n q hq; cases hq
    | cons v vs ih =>
      intro n q hq
      simp only [lv_args, List.map_cons] at hq ⊢
      rcases List.mem_cons.mp hq with rfl | hq
      · exact List.mem_cons_self
      · refine List.mem_cons_of_mem _ ?_
        rw [mv_cat]
        exact ih _ q hq
  have hl : lvm w ls M.2.2.1 L := ⟨hl0.1, hl0.2.1, fun i v hi => hl0.2.2 (i, mv w v) (hmap as 0 (i, v) (hL i v hi))⟩
  have hA : ∀ a, a < shN → AF w s.heap.size (w.2.2.1 a) := fun a ha => Or.inl ⟨a, ha, rfl⟩
  have hB : ∀ q, s.heap.size ≤ q → AF w s.heap.size q := fun q hq => Or.inr hq
  have C : Cx M d p (headSpec (TBm M) (rmD d)).room s m ((as.map (mv w)).toArray) meth c w (AF w s.heap.size) := ⟨hx, hb, hml, hown, hts, hWS, hWT, had, hA, hB, Nat.le_refl _, Nat.le_refl _⟩
  refine h p l e _ s m _ below meth c w (AF w s.heap.size) _ C ?_ s.heap [] ls hP va_S.rf hl
  intro H locs ls' pc hP' hS' hR
  have hpost : ∀ t : State, t.heap = H → va_P w.1 vwCl (wsO w σ') t.heap ∧ va_F (AF w s.heap.size) s t := fun t ht => ⟨by rw [ht]; exact hP', hS'.F ht⟩
  rcases hR with ⟨hS0, hd⟩ | ⟨x, hS0, hd⟩ | ⟨x, hS0, hd⟩
  · cases r with
    | some v => cases hS0
    | none =>
      exact W.vret hx hb (hr.trans hret) (fun t ht _ => ⟨⟨rfl, (hpost t ht).1⟩, (hpost t ht).2⟩) hS'.2.2 hd
  · cases r with
    | none => cases hS0
    | some v =>
      cases hS0
      obtain ⟨ty, h1, h2⟩ := hret
      exact W.zret hx hb (hr.trans h1) h2 (fun t ht _ => ⟨⟨rfl, (hpost t ht).1⟩, (hpost t ht).2⟩) hS'.2.2 hd
  · cases r with
    | none => cases hS0
    | some v =>
      cases hS0
      exact W.lret hx hb (hr.trans hret) (fun t ht _ => ⟨⟨rfl, (hpost t ht).1⟩, (hpost t ht).2⟩) hS'.2.2 hd
