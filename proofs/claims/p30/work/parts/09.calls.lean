/-! RUNS OF STRAIGHT CODE, BRANCHES, ENDS, CALLS, LOOPS of the small machine -/
def aP : List Prop → Prop
  | [] => True
  | p :: r => p ∧ aP r
def sgO : Option Prop → List Prop → List Prop
  | none, ps => ps
  | some p, ps => p :: ps
theorem sgO_p {o : Option Prop} {ps : List Prop} (h : aP (sgO o ps)) : oP o ∧ aP ps := by
  cases o with
  | none => exact ⟨trivial, h⟩
  | some p => exact h
def sg (M : Mth) : List ME → Nat → MC → Option (MC × List Prop)
  | _, 0, c => some (c, [])
  | [], _ + 1, _ => none
  | _ :: _, _ + 1, (none, _, _, _) => none
  | E :: r, n + 1, (some pc, L, S, σ) => match Nat.beq pc E.1 with
    | true => match stp M E.1 E.2.1 E.2.2.1 E.2.2.2.1 E.2.2.2.2 L S σ with
      | some (c1, o) => match sg M r n c1 with
        | some (c2, ps) => some (c2, sgO o ps)
        | none => none
      | none => none
    | false => none
theorem sg_ok {M : Mth} {d : Nat} {P : PL} (hPL : PLOK M.2.2.2.2 P) : ∀ (cd : List ME) (n : Nat) (c1 c2 : MC) (ps : List Prop), (∀ E ∈ cd, okE M P E) → sg M cd n c1 = some (c2, ps) → aP ps → Go M d c1 c2 := by
  intro cd
  induction cd with
  | nil =>
    intro n c1 c2 ps _ h _
    cases n with
    | zero => cases h; exact Go.rf
    | succ n => cases h
  | cons E r ih =>
    intro n c1 c2 ps hE h hp
    cases n with
    | zero => cases h; exact Go.rf
    | succ n =>
      obtain ⟨o, L, S, σ⟩ := c1
      cases o with
      | none => cases h
      | some pc =>
        unfold sg at h
        split at h
        · rename_i hb
          have hpc := Nat.eq_of_beq_eq_true hb
          subst hpc
          split at h
          · rename_i c1' o' hst
            split at h
            · rename_i c2' ps' hsg
              cases h
              obtain ⟨h1, h2⟩ := sgO_p hp
              exact Go.t (stp_ok hPL (hE E List.mem_cons_self) hst h1) (ih n c1' c2 ps' (fun F hF => hE F (List.mem_cons_of_mem _ hF)) hsg h2)
            · cases h
          · cases h
        · cases h
theorem Go_sg {M : Mth} {d : Nat} {cd : List ME} (b : BK M cd) (i n : Nat) {c1 c2 : MC} {ps : List Prop} (h : sg M (cd.drop i) n c1 = some (c2, ps)) (hp : aP ps) : Go M d c1 c2 := by
  obtain ⟨P, hPL, hcd⟩ := b
  exact sg_ok hPL (cd.drop i) n c1 c2 ps (fun E hE => hcd E (List.mem_of_mem_drop hE)) h hp
theorem BK_at {M : Mth} {cd : List ME} (b : BK M cd) {i : Nat} {E : ME} (h : (cd.drop i).head? = some E) : ∃ P, PLOK M.2.2.2.2 P ∧ okE M P E := by
  obtain ⟨P, hPL, hcd⟩ := b
  refine ⟨P, hPL, hcd E (List.mem_of_mem_drop (i := i) ?_)⟩
  cases q : cd.drop i with
  | nil => rw [q] at h; cases h
  | cons x r => rw [q] at h; cases h; exact List.mem_cons_self
section BR
variable {M : Mth} {d : Nat} {cd : List ME} {pc aux : Nat} {v : Int32} {w : Int64} {off : Int} {L : List (Option Value)} {S : List Value} {σ : MH} {x y : Int32} {c1 : MC}
theorem Go_icmp_eq (b : BK M cd) (i : Nat) (hE : (cd.drop i).head? = some (pc, .if_icmp .eq off, aux, v, w)) (kt : x = y → Go M d (some aux, L, S, σ) c1) (kf : ¬ x = y → Go M d (some (pc + 3), L, S, σ) c1) : Go M d (some pc, L, .int y :: .int x :: S, σ) c1 := by
  obtain ⟨P, hPL, h1, h2⟩ := BK_at b hE
  intro p l e R s m args below meth c w0 A Q C k H locs ls hP hS hl
  exact lv_icmp_eq C.1 C.2.1 h1 (of_decide_eq_true h2) (fun q => kt q p l e R s m args below meth c w0 A Q C k H locs ls hP hS hl) (fun q => kf q p l e R s m args below meth c w0 A Q C k H locs ls hP hS hl)
theorem Go_icmp_ne (b : BK M cd) (i : Nat) (hE : (cd.drop i).head? = some (pc, .if_icmp .ne off, aux, v, w)) (kt : x ≠ y → Go M d (some aux, L, S, σ) c1) (kf : x = y → Go M d (some (pc + 3), L, S, σ) c1) : Go M d (some pc, L, .int y :: .int x :: S, σ) c1 := by
  obtain ⟨P, hPL, h1, h2⟩ := BK_at b hE
  intro p l e R s m args below meth c w0 A Q C k H locs ls hP hS hl
  exact lv_icmp_ne C.1 C.2.1 h1 (of_decide_eq_true h2) (fun q => kt q p l e R s m args below meth c w0 A Q C k H locs ls hP hS hl) (fun q => kf q p l e R s m args below meth c w0 A Q C k H locs ls hP hS hl)
theorem Go_icmp_lt (b : BK M cd) (i : Nat) (hE : (cd.drop i).head? = some (pc, .if_icmp .lt off, aux, v, w)) (kt : x < y → Go M d (some aux, L, S, σ) c1) (kf : ¬ x < y → Go M d (some (pc + 3), L, S, σ) c1) : Go M d (some pc, L, .int y :: .int x :: S, σ) c1 := by
  obtain ⟨P, hPL, h1, h2⟩ := BK_at b hE
  intro p l e R s m args below meth c w0 A Q C k H locs ls hP hS hl
  exact lv_icmp_lt C.1 C.2.1 h1 (of_decide_eq_true h2) (fun q => kt q p l e R s m args below meth c w0 A Q C k H locs ls hP hS hl) (fun q => kf q p l e R s m args below meth c w0 A Q C k H locs ls hP hS hl)
theorem Go_icmp_ge (b : BK M cd) (i : Nat) (hE : (cd.drop i).head? = some (pc, .if_icmp .ge off, aux, v, w)) (kt : y ≤ x → Go M d (some aux, L, S, σ) c1) (kf : ¬ y ≤ x → Go M d (some (pc + 3), L, S, σ) c1) : Go M d (some pc, L, .int y :: .int x :: S, σ) c1 := by
  obtain ⟨P, hPL, h1, h2⟩ := BK_at b hE
  intro p l e R s m args below meth c w0 A Q C k H locs ls hP hS hl
  exact lv_icmp_ge C.1 C.2.1 h1 (of_decide_eq_true h2) (fun q => kt q p l e R s m args below meth c w0 A Q C k H locs ls hP hS hl) (fun q => kf q p l e R s m args below meth c w0 A Q C k H locs ls hP hS hl)
theorem Go_icmp_gt (b : BK M cd) (i : Nat) (hE : (cd.drop i).head? = some (pc, .if_icmp .gt off, aux, v, w)) (kt : y < x → Go M d (some aux, L, S, σ) c1) (kf : ¬ y < x → Go M d (some (pc + 3), L, S, σ) c1) : Go M d (some pc, L, .int y :: .int x :: S, σ) c1 := by
  obtain ⟨P, hPL, h1, h2⟩ := BK_at b hE
  intro p l e R s m args below meth c w0 A Q C k H locs ls hP hS hl
  exact lv_icmp_gt C.1 C.2.1 h1 (of_decide_eq_true h2) (fun q => kt q p l e R s m args below meth c w0 A Q C k H locs ls hP hS hl) (fun q => kf q p l e R s m args below meth c w0 A Q C k H locs ls hP hS hl)
theorem Go_icmp_le (b : BK M cd) (i : Nat) (hE : (cd.drop i).head? = some (pc, .if_icmp .le off, aux, v, w)) (kt : x ≤ y → Go M d (some aux, L, S, σ) c1) (kf : ¬ x ≤ y → Go M d (some (pc + 3), L, S, σ) c1) : Go M d (some pc, L, .int y :: .int x :: S, σ) c1 := by
  obtain ⟨P, hPL, h1, h2⟩ := BK_at b hE
  intro p l e R s m args below meth c w0 A Q C k H locs ls hP hS hl
  exact lv_icmp_le C.1 C.2.1 h1 (of_decide_eq_true h2) (fun q => kt q p l e R s m args below meth c w0 A Q C k H locs ls hP hS hl) (fun q => kf q p l e R s m args below meth c w0 A Q C k H locs ls hP hS hl)
theorem Go_if_eq (b : BK M cd) (i : Nat) (hE : (cd.drop i).head? = some (pc, .ifCond .eq off, aux, v, w)) (kt : x = 0 → Go M d (some aux, L, S, σ) c1) (kf : ¬ x = 0 → Go M d (some (pc + 3), L, S, σ) c1) : Go M d (some pc, L, .int x :: S, σ) c1 := by
  obtain ⟨P, hPL, h1, h2⟩ := BK_at b hE
  intro p l e R s m args below meth c w0 A Q C k H locs ls hP hS hl
  exact lv_if_eq C.1 C.2.1 h1 (of_decide_eq_true h2) (fun q => kt q p l e R s m args below meth c w0 A Q C k H locs ls hP hS hl) (fun q => kf q p l e R s m args below meth c w0 A Q C k H locs ls hP hS hl)
theorem Go_if_ne (b : BK M cd) (i : Nat) (hE : (cd.drop i).head? = some (pc, .ifCond .ne off, aux, v, w)) (kt : x ≠ 0 → Go M d (some aux, L, S, σ) c1) (kf : x = 0 → Go M d (some (pc + 3), L, S, σ) c1) : Go M d (some pc, L, .int x :: S, σ) c1 := by
  obtain ⟨P, hPL, h1, h2⟩ := BK_at b hE
  intro p l e R s m args below meth c w0 A Q C k H locs ls hP hS hl
  exact lv_if_ne C.1 C.2.1 h1 (of_decide_eq_true h2) (fun q => kt q p l e R s m args below meth c w0 A Q C k H locs ls hP hS hl) (fun q => kf q p l e R s m args below meth c w0 A Q C k H locs ls hP hS hl)
theorem Go_if_lt (b : BK M cd) (i : Nat) (hE : (cd.drop i).head? = some (pc, .ifCond .lt off, aux, v, w)) (kt : x < 0 → Go M d (some aux, L, S, σ) c1) (kf : ¬ x < 0 → Go M d (some (pc + 3), L, S, σ) c1) : Go M d (some pc, L, .int x :: S, σ) c1 := by
  obtain ⟨P, hPL, h1, h2⟩ := BK_at b hE
  intro p l e R s m args below meth c w0 A Q C k H locs ls hP hS hl
  exact lv_if_lt C.1 C.2.1 h1 (of_decide_eq_true h2) (fun q => kt q p l e R s m args below meth c w0 A Q C k H locs ls hP hS hl) (fun q => kf q p l e R s m args below meth c w0 A Q C k H locs ls hP hS hl)
theorem Go_if_ge (b : BK M cd) (i : Nat) (hE : (cd.drop i).head? = some (pc, .ifCond .ge off, aux, v, w)) (kt : 0 ≤ x → Go M d (some aux, L, S, σ) c1) (kf : ¬ 0 ≤ x → Go M d (some (pc + 3), L, S, σ) c1) : Go M d (some pc, L, .int x :: S, σ) c1 := by
  obtain ⟨P, hPL, h1, h2⟩ := BK_at b hE
  intro p l e R s m args below meth c w0 A Q C k H locs ls hP hS hl
  exact lv_if_ge C.1 C.2.1 h1 (of_decide_eq_true h2) (fun q => kt q p l e R s m args below meth c w0 A Q C k H locs ls hP hS hl) (fun q => kf q p l e R s m args below meth c w0 A Q C k H locs ls hP hS hl)
theorem Go_if_gt (b : BK M cd) (i : Nat) (hE : (cd.drop i).head? = some (pc, .ifCond .gt off, aux, v, w)) (kt : 0 < x → Go M d (some aux, L, S, σ) c1) (kf : ¬ 0 < x → Go M d (some (pc + 3), L, S, σ) c1) : Go M d (some pc, L, .int x :: S, σ) c1 := by
  obtain ⟨P, hPL, h1, h2⟩ := BK_at b hE
  intro p l e R s m args below meth c w0 A Q C k H locs ls hP hS hl
  exact lv_if_gt C.1 C.2.1 h1 (of_decide_eq_true h2) (fun q => kt q p l e R s m args below meth c w0 A Q C k H locs ls hP hS hl) (fun q => kf q p l e R s m args below meth c w0 A Q C k H locs ls hP hS hl)
theorem Go_if_le (b : BK M cd) (i : Nat) (hE : (cd.drop i).head? = some (pc, .ifCond .le off, aux, v, w)) (kt : x ≤ 0 → Go M d (some aux, L, S, σ) c1) (kf : ¬ x ≤ 0 → Go M d (some (pc + 3), L, S, σ) c1) : Go M d (some pc, L, .int x :: S, σ) c1 := by
  obtain ⟨P, hPL, h1, h2⟩ := BK_at b hE
  intro p l e R s m args below meth c w0 A Q C k H locs ls hP hS hl
  exact lv_if_le C.1 C.2.1 h1 (of_decide_eq_true h2) (fun q => kt q p l e R s m args below meth c w0 A Q C k H locs ls hP hS hl) (fun q => kf q p l e R s m args below meth c w0 A Q C k H locs ls hP hS hl)
theorem Go_nn_r (b : BK M cd) (i : Nat) {a : Nat} (hE : (cd.drop i).head? = some (pc, .ifnonnull off, aux, v, w)) : Go M d (some pc, L, .ref a :: S, σ) (some aux, L, S, σ) := by
  obtain ⟨P, hPL, h1, h2⟩ := BK_at b hE
  intro p l e R s m args below meth c w0 A Q C k H locs ls hP hS hl
  exact lv_ifnonnull C.1 C.2.1 h1 (of_decide_eq_true h2) (k H locs ls hP hS hl)
theorem Go_nn_n (b : BK M cd) (i : Nat) (hE : (cd.drop i).head? = some (pc, .ifnonnull off, aux, v, w)) : Go M d (some pc, L, .null :: S, σ) (some (pc + 3), L, S, σ) := by
  obtain ⟨P, hPL, h1, h2⟩ := BK_at b hE
  intro p l e R s m args below meth c w0 A Q C k H locs ls hP hS hl
  exact lv_ifnonnullN C.1 C.2.1 h1 (k H locs ls hP hS hl)
theorem Go_nu_r (b : BK M cd) (i : Nat) {a : Nat} (hE : (cd.drop i).head? = some (pc, .ifnull off, aux, v, w)) : Go M d (some pc, L, .ref a :: S, σ) (some (pc + 3), L, S, σ) := by
  obtain ⟨P, hPL, h1, h2⟩ := BK_at b hE
  intro p l e R s m args below meth c w0 A Q C k H locs ls hP hS hl
  exact lv_ifnull C.1 C.2.1 h1 (k H locs ls hP hS hl)
theorem Go_nu_n (b : BK M cd) (i : Nat) (hE : (cd.drop i).head? = some (pc, .ifnull off, aux, v, w)) : Go M d (some pc, L, .null :: S, σ) (some aux, L, S, σ) := by
  obtain ⟨P, hPL, h1, h2⟩ := BK_at b hE
  intro p l e R s m args below meth c w0 A Q C k H locs ls hP hS hl
  exact lv_ifnullN C.1 C.2.1 h1 (of_decide_eq_true h2) (k H locs ls hP hS hl)
theorem Go_ret0 (b : BK M cd) (i : Nat) (hE : (cd.drop i).head? = some (pc, .return_, aux, v, w)) : Go M d (some pc, L, [], σ) (none, [], [], σ) := by
  obtain ⟨P, hPL, h1, h2⟩ := BK_at b hE
  intro p l e R s m args below meth c w0 A Q C k H locs ls hP hS hl
  exact k H locs ls pc hP hS (Or.inl ⟨rfl, h1⟩)
theorem Go_reti (b : BK M cd) (i : Nat) (hE : (cd.drop i).head? = some (pc, .ireturn, aux, v, w)) : Go M d (some pc, L, [.int x], σ) (none, [], [.int x], σ) := by
  obtain ⟨P, hPL, h1, h2⟩ := BK_at b hE
  intro p l e R s m args below meth c w0 A Q C k H locs ls hP hS hl
  exact k H locs ls pc hP hS (Or.inr (Or.inl ⟨x, rfl, h1⟩))
theorem Go_retl {z : Int64} (b : BK M cd) (i : Nat) (hE : (cd.drop i).head? = some (pc, .lreturn, aux, v, w)) : Go M d (some pc, L, [.long z], σ) (none, [], [.long z], σ) := by
  obtain ⟨P, hPL, h1, h2⟩ := BK_at b hE
  intro p l e R s m args below meth c w0 A Q C k H locs ls hP hS hl
  exact k H locs ls pc hP hS (Or.inr (Or.inr ⟨z, rfl, h1⟩))
theorem Go_tsi {dflt lo hi : Int} {offs : Array Int} {len tgt : Nat} {off : Int} (hd : decode M.2.1 pc = .ok (.tableswitch dflt lo hi offs, len)) (h1 : ¬ x.toInt < lo) (h2 : ¬ hi < x.toInt) (ho : offs[(x.toInt - lo).toNat]? = some off) (ht : (pc : Int) + off = (tgt : Int)) : Go M d (some pc, L, .int x :: S, σ) (some tgt, L, S, σ) := by
  intro p l e R s m args below meth c w0 A Q C k H locs ls hP hS hl
  exact lv_tableIn C.1 C.2.1 hd h1 h2 ho ht (k H locs ls hP hS hl)
theorem Go_tso {dflt lo hi : Int} {offs : Array Int} {len tgt : Nat} (hd : decode M.2.1 pc = .ok (.tableswitch dflt lo hi offs, len)) (h : x.toInt < lo ∨ hi < x.toInt) (ht : (pc : Int) + dflt = (tgt : Int)) : Go M d (some pc, L, .int x :: S, σ) (some tgt, L, S, σ) := by
  intro p l e R s m args below meth c w0 A Q C k H locs ls hP hS hl
  exact lv_tableOut C.1 C.2.1 hd h ht (k H locs ls hP hS hl)
end BR
/-! loops: again and again till there is an answer -/
def itr {S R : Type} (f : S → Option (S ⊕ R)) : Nat → S → Option R
  | 0, _ => none
  | n + 1, s => match f s with
    | none => none
    | some (.inl s') => itr f n s'
    | some (.inr r) => some r
def cS {S R : Type} (a : S → MC) (b : R → MC) : S ⊕ R → MC
  | .inl s => a s
  | .inr r => b r
theorem Go_itr {S R : Type} {M : Mth} {d : Nat} {f : S → Option (S ⊕ R)} {a : S → MC} {b : R → MC} (h : ∀ s o, f s = some o → Go M d (a s) (cS a b o)) : ∀ (n : Nat) (s : S) (r : R), itr f n s = some r → Go M d (a s) (b r) := by
  intro n
  induction n with
  | zero => intro s r q; cases q
  | succ n ih =>
    intro s r q
    unfold itr at q
    split at q
    · cases q
    · rename_i s' hf
      exact Go.t (h s _ hf) (ih s' r q)
    · rename_i r' hf
      cases q
      exact h s _ hf
/-! calls -/
section CALL
variable {p : Program} {l : Launch} {e : Env} {R : Room} {s : State} {m : MethodId} {args : Array Value} {below : List Frame} {meth : Method} {c : Code} {H : Heap} {locs : List Loc} {Q : State → Prop}
variable {pc : Nat} {ls : Array Slot} {rest st0 : List Value} {A0 A1 : Nat → Prop} {H0 : Heap} {free : Addr → Prop}
theorem W_call {rv : Option Value} {PP : State → Prop} (hr : va_Run p l e R s m args below meth c H locs 0 0 0 0 (F0 m pc ls st0) rest (fun st o t => (o = .returned rv ∧ PP t) ∧ va_F A1 st t) free) (hS : va_S A0 H0 H locs) (hA : ∀ q, q < H.size → A1 q → A0 q) (hf : ∀ q, free q → A0 q)
    (kk : ∀ (t : State) (H1 : Heap) (locs1 : List Loc), t.heap = H1 → PP t → va_S A0 H0 H1 locs1 → W p l e R s m args below meth c H1 locs1 0 0 Q (F0 m (pc + 3) ls (rv.toList ++ rest))) : W p l e R s m args below meth c H locs 0 0 Q (F0 m pc ls st0) := by
  intro T hT X
  obtain ⟨v, st₀, t, T', L, h0, X', hL, e1, e2, ⟨⟨hv, hp⟩, hz, hk⟩, st⟩ := hr T hT X
  cases hv
  rw [h0] at hz hk
  obtain ⟨t2, a1, b1⟩ := kk t T'.heap (locs ++ L) e1.symm hp
    ⟨Nat.le_trans hS.1 (by rw [e1]; exact hz), fun q h1 h2 => by rw [e1, hk q (Nat.lt_of_lt_of_le h1 hS.1) (fun z => h2 (hA q (Nat.lt_of_lt_of_le h1 hS.1) z))]; exact hS.2.1 q h1 h2, fun q hq => by
      rcases List.mem_append.mp hq with h | h
      · exact hS.2.2 q h
      · exact hf _ (hL q h)⟩ T' rfl X'
  exact ⟨t2, st t2 a1, b1⟩
end CALL
theorem Ev.mono {N : Mth} {d d' : Nat} {as : List Value} {σ σ' : MH} {r : Option Value} (h : Ev N d as σ r σ') : Ev N d as σ r σ' := h
theorem NK.back {N : Mth} {n : Nat} (h : NK N n) {R : Room} {s : State} {args : Array Value} (hts : ∀ q ∈ TBG, q.before args s = true) {d d1 : Nat} (hd : d1 + 1 ≤ d) (hF : d ≤ R.frames) (hL : 64 * d ≤ R.locals) : (rmD d1).cells = 0 ∧ (rmD d1).slots = 0 ∧ (rmD d1).frames + 1 ≤ R.frames ∧ 8 + (N.2.2.1 + 11) + (rmD d1).locals ≤ R.locals ∧ (∀ w ∈ TBm N, ∀ (a' : Array Value) (U : State), s.WarmedH U.vm → w.before a' U = true) ∧ Cond.code N.1 N.2.1 N.2.2.1 N.2.2.2.1 ∈ TBm N := by
  obtain ⟨h1, h2, h3, h4, h5⟩ := h
  refine ⟨rfl, rfl, Nat.le_trans hd hF, ?_, ?_, List.mem_cons_self⟩
  · show 8 + (N.2.2.1 + 11) + 64 * d1 ≤ R.locals
    omega
  · intro w hw a' U hW
    rcases List.mem_cons.mp hw with rfl | hw
    · exact word_at hW (TBG_good _ h1) (hts _ h1)
    · exact word_at hW (TBG_good _ hw) (hts _ hw)
theorem NK.len {N : Mth} {n : Nat} (h : NK N n) : ∀ sig, parseMethodDescriptor N.1.desc = some sig → n = sig.parameters.length := by
  intro sig hs
  have h4 := h.2.2.2.1
  rw [hs] at h4
  exact (Option.some.inj h4).symm
theorem cat_mv (w : MD) (S : List Value) : ((S.map (mv w)).map fun v => v.category) = S.map fun v => v.category := by
  rw [List.map_map]
  apply List.map_congr_left
  intro v _
  exact mv_cat w v
theorem Go_callS {M : Mth} {d d1 : Nat} {cd : List ME} (b : BK M cd) (i : Nat) {pc idx aux n : Nat} {v : Int32} {w : Int64} (hE : (cd.drop i).head? = some (pc, .invokestatic idx, aux, v, w)) {N : Mth} (hN : NK N n) (hl : Cond.methodLink M.2.2.2.2 idx N.1 ∈ TBG) (hst : Cond.static N.1 ∈ TBG)
    {as S st st' : List Value} {L : List (Option Value)} {σ σ' : MH} {r : Option Value} (hn : as.length = n) (e1 : st = as.reverse ++ S) (e2 : r.toList ++ S = st') (hcat : (S.map fun v => v.category).sum ≤ 8) (hd : d1 + 1 ≤ d) (ev : Ev N d1 as σ r σ') : Go M d (some pc, L, st, σ) (some (pc + 3), L, st', σ') := by
  obtain ⟨P, hPL, h1, -⟩ := BK_at b hE
  intro p l e R s m args below meth c w0 A Q C k H locs ls hP hS hlv
  obtain ⟨hx, hb, hml, hown, hts, hWS, hWT, had, hA, hB, hF, hLo⟩ := C
  subst e1; subst e2
  obtain ⟨k1, k2, k3, k4, k5, k6⟩ := hN.back hts hd hF hLo
  have hr := va_runS (g := F0 m pc ls ((as.reverse ++ S).map (mv w0))) (rest := S.map (mv w0)) (As := as.map (mv w0)) (p := p) (l := l) (e := e) (below := below) (meth := meth) (locs := locs) (cells := 0) (slots := 0) ⟨hx, hb, hml, hown, hts⟩ (ev l w0 H.size) ⟨⟨k1, k2, k3, k4, k5, k6, hts _ hN.1, hts _ hN.2.1, hN.2.2.1, hN.len, hts _ hl⟩, hts _ hst⟩ ⟨PEv.blind, fun U hU hW => ⟨rfl, PEv.at hWS hWT had hA hB hP hS U hU hW⟩⟩ rfl (by rw [List.length_map]; exact hn) hlv.1 (by show (as.reverse ++ S).map (mv w0) = _; rw [List.map_append, List.map_reverse]) (lv_room (by rw [cat_mv]; exact hcat)) h1 ⟨Nat.zero_le _, Nat.zero_le _⟩
  refine W_call hr hS (fun q _ h => AF_in hA hB hS.1 q h) (AF_in hA hB hS.1) (fun t H1 locs1 ht hp hS1 => ?_)
  rw [ht] at hp
  have := k H1 locs1 ls hp hS1 hlv
  rw [List.map_append] at this
  cases r <;> exact this
theorem Go_callN {M : Mth} {d d1 : Nat} {cd : List ME} (b : BK M cd) (i : Nat) {pc idx aux n : Nat} {v : Int32} {w : Int64} (hE : (cd.drop i).head? = some (pc, .invokestatic idx, aux, v, w)) {N : Mth} (hN : NK N n) {host : String} (hl : (M.2.2.2.2, idx, N.1, host) ∈ nestL) (hst : Cond.static N.1 ∈ TBG)
    {as S st st' : List Value} {L : List (Option Value)} {σ σ' : MH} {r : Option Value} (hn : as.length = n) (e1 : st = as.reverse ++ S) (e2 : r.toList ++ S = st') (hcat : (S.map fun v => v.category).sum ≤ 8) (hd : d1 + 1 ≤ d) (ev : Ev N d1 as σ r σ') : Go M d (some pc, L, st, σ) (some (pc + 3), L, st', σ') := by
  obtain ⟨P, hPL, h1, -⟩ := BK_at b hE
  intro p l e R s m args below meth c w0 A Q C k H locs ls hP hS hlv
  obtain ⟨hx, hb, hml, hown, hts, hWS, hWT, had, hA, hB, hF, hLo⟩ := C
  subst e1; subst e2
  obtain ⟨k1, k2, k3, k4, k5, k6⟩ := hN.back hts hd hF hLo
  have hr := va_runSN (host := host) (g := F0 m pc ls ((as.reverse ++ S).map (mv w0))) (rest := S.map (mv w0)) (As := as.map (mv w0)) (p := p) (l := l) (e := e) (below := below) (meth := meth) (locs := locs) (cells := 0) (slots := 0) ⟨hx, hb, hml, hown, hts⟩ (ev l w0 H.size) ⟨⟨⟨k1, k2, k3, k4, k5, k6⟩, hts _ hN.1, hts _ hN.2.1, hN.2.2.1, hN.len, va_Nw.use rfl (hWS.2.1 _ hl)⟩, hts _ hst, trivial⟩ ⟨PEv.blind, fun U hU hW => ⟨rfl, PEv.at hWS hWT had hA hB hP hS U hU hW⟩⟩ rfl (by rw [List.length_map]; exact hn) hlv.1 (by show (as.reverse ++ S).map (mv w0) = _; rw [List.map_append, List.map_reverse]) (lv_room (by rw [cat_mv]; exact hcat)) h1 ⟨Nat.zero_le _, Nat.zero_le _⟩
  refine W_call hr hS (fun q _ h => AF_in hA hB hS.1 q h) (AF_in hA hB hS.1) (fun t H1 locs1 ht hp hS1 => ?_)
  rw [ht] at hp
  have := k H1 locs1 ls hp hS1 hlv
  rw [List.map_append] at this
  cases r <;> exact this
theorem recv_at {w : MD} {σ : MH} {s : State} {H : Heap} {a ci : Nat} {q : vw_C} (hK : va_K w.1 vwCl (mtys w) s) (hP : va_P w.1 vwCl (wsO w σ) H) (ha : shk a = ci) (hc : vwCl[ci]? = some q) : ∃ cell : Cell, H[w.2.2.1 a]? = some cell ∧ cell.vm.isStatics = false ∧ s.vm.findClass q.1 = some cell.cls := by
  have hci : ci < 20 := by
    have h1 := (List.getElem?_eq_some_iff.mp hc).1
    have h2 : vwCl.length = 12 := rfl
    omega
  refine va_recv hK hP hc (q0 := a) (fs := entF w σ a) ?_
  rw [wsO_get (shk_lt ha (by omega)), ent_o ha hci]
theorem Go_callV {M : Mth} {d d1 : Nat} {cd : List ME} (b : BK M cd) (i : Nat) {pc idx aux n ci : Nat} {v : Int32} {w : Int64} (hE : (cd.drop i).head? = some (pc, .invokevirtual idx, aux, v, w)) {N : Mth} (hN : NK N n) (hl : Cond.methodLink M.2.2.2.2 idx N.1 ∈ TBG) (hin : Cond.instanceMethod N.1 ∈ TBG) (hse : Cond.selects N.1.cls N.1 N.1 ∈ TBG) {T : u_T} {NN : Nat} (hc : vwCl[ci]? = some (N.1.cls, T, NN))
    {as S st st' : List Value} {a : Nat} {L : List (Option Value)} {σ σ' : MH} {r : Option Value} (ha : shk a = ci) (hn : as.length = n) (e1 : st = as.reverse ++ .ref a :: S) (e2 : r.toList ++ S = st') (hcat : (S.map fun v => v.category).sum ≤ 8) (hd : d1 + 1 ≤ d) (ev : Ev N d1 (.ref a :: as) σ r σ') : Go M d (some pc, L, st, σ) (some (pc + 3), L, st', σ') := by
  obtain ⟨P, hPL, h1, -⟩ := BK_at b hE
  intro p l e R s m args below meth c w0 A Q C k H locs ls hP hS hlv
  obtain ⟨hx, hb, hml, hown, hts, hWS, hWT, had, hA, hB, hF, hLo⟩ := C
  subst e1; subst e2
  obtain ⟨k1, k2, k3, k4, k5, k6⟩ := hN.back hts hd hF hLo
  have hr := va_runV (C := N.1.cls) (b := w0.2.2.1 a) (g := F0 m pc ls ((as.reverse ++ .ref a :: S).map (mv w0))) (rest := S.map (mv w0)) (As := as.map (mv w0)) (p := p) (l := l) (e := e) (below := below) (meth := meth) (locs := locs) (cells := 0) (slots := 0) ⟨hx, hb, hml, hown, hts⟩ (ev l w0 H.size) ⟨⟨k1, k2, k3, k4, k5, k6, hts _ hN.1, hts _ hN.2.1, hN.2.2.1, hN.len, hts _ hl⟩, hts _ hin, hts _ hse⟩ ⟨PEv.blind, recv_at hWS.1 hP ha hc, fun U hU hW => ⟨rfl, PEv.at hWS hWT had hA hB hP hS U hU hW⟩⟩ rfl (by rw [List.length_map]; exact hn) hlv.1 (by show (as.reverse ++ .ref a :: S).map (mv w0) = _; rw [List.map_append, List.map_reverse]; rfl) (lv_room (by rw [cat_mv]; exact hcat)) h1 ⟨Nat.zero_le _, Nat.zero_le _⟩
  refine W_call hr hS (fun q _ h => AF_in hA hB hS.1 q h) (AF_in hA hB hS.1) (fun t H1 locs1 ht hp hS1 => ?_)
  rw [ht] at hp
  have := k H1 locs1 ls hp hS1 hlv
  rw [List.map_append] at this
  cases r <;> exact this
theorem Go_callU {M : Mth} {d d1 : Nat} {cd : List ME} (b : BK M cd) (i : Nat) {pc idx aux n ci : Nat} {v : Int32} {w : Int64} (hE : (cd.drop i).head? = some (pc, .invokevirtual idx, aux, v, w)) {N : Mth} (hN : NK N n) {xc : String} (hl : Cond.methodLink M.2.2.2.2 idx ⟨xc, N.1.name, N.1.desc⟩ ∈ TBG) (hsm : Cond.sameMethod xc N.1.cls N.1.name N.1.desc ∈ TBG) (hin : Cond.instanceMethod N.1 ∈ TBG) {C : String} (hse : Cond.selects C ⟨xc, N.1.name, N.1.desc⟩ N.1 ∈ TBG) {T : u_T} {NN : Nat} (hc : vwCl[ci]? = some (C, T, NN))
    {as S st st' : List Value} {a : Nat} {L : List (Option Value)} {σ σ' : MH} {r : Option Value} (ha : shk a = ci) (hn : as.length = n) (e1 : st = as.reverse ++ .ref a :: S) (e2 : r.toList ++ S = st') (hcat : (S.map fun v => v.category).sum ≤ 8) (hd : d1 + 1 ≤ d) (ev : Ev N d1 (.ref a :: as) σ r σ') : Go M d (some pc, L, st, σ) (some (pc + 3), L, st', σ') := by
  obtain ⟨P, hPL, h1, -⟩ := BK_at b hE
  intro p l e R s m args below meth c w0 A Q C0 k H locs ls hP hS hlv
  obtain ⟨hx, hb, hml, hown, hts, hWS, hWT, had, hA, hB, hF, hLo⟩ := C0
  subst e1; subst e2
  have hr := va_runU (x := ⟨xc, N.1.name, N.1.desc⟩) (owner := N.1.cls) (C := C) (b := w0.2.2.1 a) (g := F0 m pc ls ((as.reverse ++ .ref a :: S).map (mv w0))) (rest := S.map (mv w0)) (As := as.map (mv w0)) (p := p) (l := l) (e := e) (below := below) (meth := meth) (locs := locs) (cells := 0) (slots := 0) ⟨hx, hb, hml, hown, hts⟩ (ev l w0 H.size) ⟨hN.back hts hd hF hLo, hts _ hN.1, hts _ hN.2.1, hN.2.2.1, hN.len, hts _ hl, hts _ hsm, va_Decl.of (hts _ hin) (hts _ hN.1), hts _ hse, hts _ hin⟩ ⟨PEv.blind, recv_at hWS.1 hP ha hc, fun U hU hW => ⟨rfl, PEv.at hWS hWT had hA hB hP hS U hU hW⟩⟩ rfl (by rw [List.length_map]; exact hn) hlv.1 (by show (as.reverse ++ .ref a :: S).map (mv w0) = _; rw [List.map_append, List.map_reverse]; rfl) (lv_room (by rw [cat_mv]; exact hcat)) h1 ⟨Nat.zero_le _, Nat.zero_le _⟩
  refine W_call hr hS (fun q _ h => AF_in hA hB hS.1 q h) (AF_in hA hB hS.1) (fun t H1 locs1 ht hp hS1 => ?_)
  rw [ht] at hp
  have := k H1 locs1 ls hp hS1 hlv
  rw [List.map_append] at this
  cases r <;> exact this
