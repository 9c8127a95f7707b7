/-! FUNCTIONS: Md_isFree Md_wedsTwo Md_weds Md_types Md_feed Md_here Md_isClause Md_wrongAt Md_opens Md_isDigit Md_readsNumber Md_notes Md_factOf Md_readsFactor Md_sumSign Md_waitTop Md_closesSums Md_hasOpenSum Md_readsSum Md_endsPiece Md_readsCompared Md_lands Md_jumps Md_readsCondition Md_readsClause Md_takes Md_law -/
def Md_isFree0 (v1 : Int32) (σ : MH) : Option (Int32) := (Md_lives v1 σ).bind fun x1 => if x1 = (0 : Int32) then some ((0 : Int32)) else (if inb ((24 : Int32) + v1) 1936 = true then if σ.1 167 ((24 : Int32) + v1).toNatClampNeg = (-2 : Int32) then some ((1 : Int32)) else some ((0 : Int32)) else none)
set_option maxRecDepth 20000 in
set_option maxHeartbeats 2000000 in
theorem t_Md_isFree0 (v1 : Int32)  (σ : MH) {o} (h : Md_isFree0 v1 σ = some o) : Go m_Md_isFree 4 (some 0, [some (.ref 166), some (.int v1)], [], σ) ((none, [], [.int o], σ)) := by
  unfold Md_isFree0 at h
  refine Go.t (Go_sg bk_Md_isFree 0 2 (c2 := (some 2, [some (.ref 166), some (.int v1)], [.int v1, .ref 166], σ)) (ps := []) rfl trivial) ?_
  obtain ⟨x1, q3, h⟩ := bdS h
  refine Go.t (Go_callV bk_Md_isFree 2 rfl nk_Md_lives tw1381 tw1383 tw45 (ci := 11) rfl (as := [.int v1]) (S := []) rfl rfl rfl rfl (Nat.le_of_ble_eq_true rfl) (Nat.le_of_ble_eq_true rfl) (ev_Md_lives _ _ q3)) ?_
  refine Go_if_eq bk_Md_isFree 3 rfl (fun c6 => ?_) (fun c6 => ?_)
  · have h := ifT c6 h
    have h := Option.some.inj h
    subst h
    refine Go.t (Go_sg bk_Md_isFree 14 1 (c2 := (some 27, [some (.ref 166), some (.int v1)], [.int (0 : Int32)], σ)) (ps := []) rfl trivial) ?_
    exact Go_reti bk_Md_isFree 15 rfl
  · have h := ifF c6 h
    obtain ⟨g4, h⟩ := gdS h
    refine Go.t (Go_sg bk_Md_isFree 4 7 (c2 := (some 19, [some (.ref 166), some (.int v1)], [.int (-2 : Int32), .int (σ.1 167 ((24 : Int32) + v1).toNatClampNeg)], σ)) (ps := [shk 166 = 11, IA 167 1936 ∧ inb ((24 : Int32) + v1) 1936 = true]) rfl ⟨rfl, ⟨⟨rfl, rfl⟩, g4⟩, trivial⟩) ?_
    refine Go_icmp_ne bk_Md_isFree 11 rfl (fun c5 => ?_) (fun c5 => ?_)
    · have h := ifF c5 h
      have h := Option.some.inj h
      subst h
      refine Go.t (Go_sg bk_Md_isFree 14 1 (c2 := (some 27, [some (.ref 166), some (.int v1)], [.int (0 : Int32)], σ)) (ps := []) rfl trivial) ?_
      exact Go_reti bk_Md_isFree 15 rfl
    · have h := ifT c5 h
      refine Go.t (Go_sg bk_Md_isFree 12 2 (c2 := (some 27, [some (.ref 166), some (.int v1)], [.int (1 : Int32)], σ)) (ps := []) rfl trivial) ?_
      have h := Option.some.inj h
      subst h
      exact Go_reti bk_Md_isFree 15 rfl
def Md_isFree (v1 : Int32) (σ : MH) : Option (Int32) := bzp (Md_isFree0 v1 σ)
set_option maxRecDepth 20000 in
set_option maxHeartbeats 2000000 in
theorem ev_Md_isFree (v1 : Int32)  (σ : MH) {o} (h : Md_isFree v1 σ = some o) : Ev m_Md_isFree 4 [.ref 166, .int v1] σ (some (.int o)) σ := Ev.of2 (by decide +kernel) rfl (Nat.le_of_ble_eq_true rfl) ⟨.boolean, rfl, nrB (bzp2 h)⟩ (t_Md_isFree0 v1 σ (bzp1 h))
def Md_wedsTwo0 (v1 : Int32) (v2 : Int32) (σ : MH) : Option (MH) := if inb ((24 : Int32) + v1) 1936 = true then if inb ((24 : Int32) + v2) 1936 = true then if inb ((36 : Int32) + v1) 1936 = true then if inb ((36 : Int32) + v2) 1936 = true then some (sI (sI (sI (sI σ 167 ((24 : Int32) + v1).toNatClampNeg v2) 167 ((24 : Int32) + v2).toNatClampNeg v1) 167 ((36 : Int32) + v1).toNatClampNeg (0 : Int32)) 167 ((36 : Int32) + v2).toNatClampNeg (0 : Int32)) else none else none else none else none
set_option maxRecDepth 20000 in
set_option maxHeartbeats 2000000 in
theorem t_Md_wedsTwo0 (v1 : Int32) (v2 : Int32)  (σ : MH) {o} (h : Md_wedsTwo0 v1 v2 σ = some o) : Go m_Md_wedsTwo 1 (some 0, [some (.ref 166), some (.int v1), some (.int v2)], [], σ) ((none, [], [], o)) := by
  unfold Md_wedsTwo0 at h
  obtain ⟨g1, h⟩ := gdS h
  obtain ⟨g2, h⟩ := gdS h
  obtain ⟨g3, h⟩ := gdS h
  obtain ⟨g4, h⟩ := gdS h
  have h := Option.some.inj h
  subst h
  refine Go.t (Go_sg bk_Md_wedsTwo 0 28 (c2 := (some 40, [some (.ref 166), some (.int v1), some (.int v2)], [], sI (sI (sI (sI σ 167 ((24 : Int32) + v1).toNatClampNeg v2) 167 ((24 : Int32) + v2).toNatClampNeg v1) 167 ((36 : Int32) + v1).toNatClampNeg (0 : Int32)) 167 ((36 : Int32) + v2).toNatClampNeg (0 : Int32))) (ps := [shk 166 = 11, IA 167 1936 ∧ inb ((24 : Int32) + v1) 1936 = true, shk 166 = 11, IA 167 1936 ∧ inb ((24 : Int32) + v2) 1936 = true, shk 166 = 11, IA 167 1936 ∧ inb ((36 : Int32) + v1) 1936 = true, shk 166 = 11, IA 167 1936 ∧ inb ((36 : Int32) + v2) 1936 = true]) rfl ⟨rfl, ⟨⟨rfl, rfl⟩, g1⟩, rfl, ⟨⟨rfl, rfl⟩, g2⟩, rfl, ⟨⟨rfl, rfl⟩, g3⟩, rfl, ⟨⟨rfl, rfl⟩, g4⟩, trivial⟩) ?_
  exact Go_ret0 bk_Md_wedsTwo 28 rfl
def Md_wedsTwo (v1 : Int32) (v2 : Int32) (σ : MH) : Option (MH) := Md_wedsTwo0 v1 v2 σ
set_option maxRecDepth 20000 in
set_option maxHeartbeats 2000000 in
theorem ev_Md_wedsTwo (v1 : Int32) (v2 : Int32)  (σ : MH) {o} (h : Md_wedsTwo v1 v2 σ = some o) : Ev m_Md_wedsTwo 1 [.ref 166, .int v1, .int v2] σ none o := Ev.of2 (by decide +kernel) rfl (Nat.le_of_ble_eq_true rfl) rfl (t_Md_wedsTwo0 v1 v2 σ h)
def Md_weds0 (v1 : Int32) (v2 : Int32) (σ : MH) : Option (Int32 × MH) := (Md_isFree v1 σ).bind fun x1 => if x1 = (0 : Int32) then some ((0 : Int32), σ) else ((Md_isFree v2 σ).bind fun x4 => if x4 = (0 : Int32) then some ((0 : Int32), σ) else (if inb ((0 : Int32) + v1) 1936 = true then if σ.1 167 ((0 : Int32) + v1).toNatClampNeg = (0 : Int32) then (if inb ((0 : Int32) + v2) 1936 = true then if σ.1 167 ((0 : Int32) + v2).toNatClampNeg = (1 : Int32) then ((Md_wedsTwo v1 v2 σ).bind fun σ10 => some ((1 : Int32), σ10)) else some ((0 : Int32), σ) else none) else some ((0 : Int32), σ) else none))
set_option maxRecDepth 20000 in
set_option maxHeartbeats 2000000 in
theorem t_Md_weds0 (v1 : Int32) (v2 : Int32)  (σ : MH) {o} (h : Md_weds0 v1 v2 σ = some o) : Go m_Md_weds 5 (some 0, [some (.ref 166), some (.int v1), some (.int v2)], [], σ) ((none, [], [.int o.1], o.2)) := by
  unfold Md_weds0 at h
  refine Go.t (Go_sg bk_Md_weds 0 2 (c2 := (some 2, [some (.ref 166), some (.int v1), some (.int v2)], [.int v1, .ref 166], σ)) (ps := []) rfl trivial) ?_
  obtain ⟨x1, q3, h⟩ := bdS h
  refine Go.t (Go_callV bk_Md_weds 2 rfl nk_Md_isFree tw1393 tw1395 tw47 (ci := 11) rfl (as := [.int v1]) (S := []) rfl rfl rfl rfl (Nat.le_of_ble_eq_true rfl) (Nat.le_of_ble_eq_true rfl) (ev_Md_isFree _ _ q3)) ?_
  refine Go_if_eq bk_Md_weds 3 rfl (fun c15 => ?_) (fun c15 => ?_)
  · have h := ifT c15 h
    have h := Option.some.inj h
    subst h
    refine Go.t (Go_sg bk_Md_weds 23 1 (c2 := (some 40, [some (.ref 166), some (.int v1), some (.int v2)], [.int (0 : Int32)], σ)) (ps := []) rfl trivial) ?_
    exact Go_reti bk_Md_weds 24 rfl
  · have h := ifF c15 h
    refine Go.t (Go_sg bk_Md_weds 4 2 (c2 := (some 10, [some (.ref 166), some (.int v1), some (.int v2)], [.int v2, .ref 166], σ)) (ps := []) rfl trivial) ?_
    obtain ⟨x4, q6, h⟩ := bdS h
    refine Go.t (Go_callV bk_Md_weds 6 rfl nk_Md_isFree tw1393 tw1395 tw47 (ci := 11) rfl (as := [.int v2]) (S := []) rfl rfl rfl rfl (Nat.le_of_ble_eq_true rfl) (Nat.le_of_ble_eq_true rfl) (ev_Md_isFree _ _ q6)) ?_
    refine Go_if_eq bk_Md_weds 7 rfl (fun c14 => ?_) (fun c14 => ?_)
    · have h := ifT c14 h
      have h := Option.some.inj h
      subst h
      refine Go.t (Go_sg bk_Md_weds 23 1 (c2 := (some 40, [some (.ref 166), some (.int v1), some (.int v2)], [.int (0 : Int32)], σ)) (ps := []) rfl trivial) ?_
      exact Go_reti bk_Md_weds 24 rfl
    · have h := ifF c14 h
      obtain ⟨g7, h⟩ := gdS h
      refine Go.t (Go_sg bk_Md_weds 8 6 (c2 := (some 24, [some (.ref 166), some (.int v1), some (.int v2)], [.int (σ.1 167 ((0 : Int32) + v1).toNatClampNeg)], σ)) (ps := [shk 166 = 11, IA 167 1936 ∧ inb ((0 : Int32) + v1) 1936 = true]) rfl ⟨rfl, ⟨⟨rfl, rfl⟩, g7⟩, trivial⟩) ?_
      refine Go_if_ne bk_Md_weds 14 rfl (fun c13 => ?_) (fun c13 => ?_)
      · have h := ifF c13 h
        have h := Option.some.inj h
        subst h
        refine Go.t (Go_sg bk_Md_weds 23 1 (c2 := (some 40, [some (.ref 166), some (.int v1), some (.int v2)], [.int (0 : Int32)], σ)) (ps := []) rfl trivial) ?_
        exact Go_reti bk_Md_weds 24 rfl
      · have h := ifT c13 h
        obtain ⟨g8, h⟩ := gdS h
        refine Go.t (Go_sg bk_Md_weds 15 7 (c2 := (some 36, [some (.ref 166), some (.int v1), some (.int v2)], [.int (1 : Int32), .int (σ.1 167 ((0 : Int32) + v2).toNatClampNeg)], σ)) (ps := [shk 166 = 11, IA 167 1936 ∧ inb ((0 : Int32) + v2) 1936 = true]) rfl ⟨rfl, ⟨⟨rfl, rfl⟩, g8⟩, trivial⟩) ?_
        refine Go_icmp_eq bk_Md_weds 22 rfl (fun c12 => ?_) (fun c12 => ?_)
        · have h := ifT c12 h
          refine Go.t (Go_sg bk_Md_weds 25 3 (c2 := (some 44, [some (.ref 166), some (.int v1), some (.int v2)], [.int v2, .int v1, .ref 166], σ)) (ps := []) rfl trivial) ?_
          obtain ⟨σ10, q11, h⟩ := bdS h
          refine Go.t (Go_callV bk_Md_weds 28 rfl nk_Md_wedsTwo tw1397 tw1399 tw48 (ci := 11) rfl (as := [.int v1, .int v2]) (S := []) rfl rfl rfl rfl (Nat.le_of_ble_eq_true rfl) (Nat.le_of_ble_eq_true rfl) (ev_Md_wedsTwo _ _ _ q11)) ?_
          have h := Option.some.inj h
          subst h
          refine Go.t (Go_sg bk_Md_weds 29 1 (c2 := (some 48, [some (.ref 166), some (.int v1), some (.int v2)], [.int (1 : Int32)], σ10)) (ps := []) rfl trivial) ?_
          exact Go_reti bk_Md_weds 30 rfl
        · have h := ifF c12 h
          have h := Option.some.inj h
          subst h
          refine Go.t (Go_sg bk_Md_weds 23 1 (c2 := (some 40, [some (.ref 166), some (.int v1), some (.int v2)], [.int (0 : Int32)], σ)) (ps := []) rfl trivial) ?_
          exact Go_reti bk_Md_weds 24 rfl
def Md_weds (v1 : Int32) (v2 : Int32) (σ : MH) : Option (Int32 × MH) := bzo (Md_weds0 v1 v2 σ)
set_option maxRecDepth 20000 in
set_option maxHeartbeats 2000000 in
theorem ev_Md_weds (v1 : Int32) (v2 : Int32)  (σ : MH) {o} (h : Md_weds v1 v2 σ = some o) : Ev m_Md_weds 5 [.ref 166, .int v1, .int v2] σ (some (.int o.1)) o.2 := Ev.of2 (by decide +kernel) rfl (Nat.le_of_ble_eq_true rfl) ⟨.boolean, rfl, nrB (bzo2 h)⟩ (t_Md_weds0 v1 v2 σ (bzo1 h))
def cH_Md_types_2 (v1 : Int32) (s : Int32 × MH) : MC := (some 2, [some (.ref 166), some (.int v1), some (.int s.1)], [], s.2)
def cR_Md_types_2 (v1 : Int32) : ((MH)) → MC := (fun r : MH => ((none, [], [], r) : MC))
def Md_types_l2 (v1 : Int32) (v2 : Int32) (σ : MH) : Option (((Int32 × MH) ⊕ ((MH)))) := if v2 < (0 : Int32) then some (.inr (σ)) else (if inb (σ.1 166 4) 260 = true then some (.inl (v2 + (-1 : Int32), sI (sI σ 170 (σ.1 166 4).toNatClampNeg (vp_nar .byte (jb (jshr v1 ((8 : Int32) * v2))))) 166 4 (((sI σ 170 (σ.1 166 4).toNatClampNeg (vp_nar .byte (jb (jshr v1 ((8 : Int32) * v2))))).1 166 4) + (1 : Int32)))) else none)
set_option maxRecDepth 20000 in
set_option maxHeartbeats 2000000 in
theorem t_Md_types_l2 (v1 : Int32) (v2 : Int32)  (σ : MH) {o} (h : Md_types_l2 v1 v2 σ = some o) : Go m_Md_types 1 (cH_Md_types_2 v1 (v2, σ)) (cS (cH_Md_types_2 v1) (cR_Md_types_2 v1) o) := by
  unfold Md_types_l2 at h
  unfold cH_Md_types_2
  refine Go.t (Go_sg bk_Md_types 2 1 (c2 := (some 3, [some (.ref 166), some (.int v1), some (.int v2)], [.int v2], σ)) (ps := []) rfl trivial) ?_
  refine Go_if_lt bk_Md_types 3 rfl (fun c2 => ?_) (fun c2 => ?_)
  · have h := ifT c2 h
    have h := Option.some.inj h
    subst h
    exact Go_ret0 bk_Md_types 23 rfl
  · have h := ifF c2 h
    obtain ⟨g1, h⟩ := gdS h
    refine Go.t (Go_sg bk_Md_types 4 19 (c2 := (some 2, [some (.ref 166), some (.int v1), some (.int (v2 + (-1 : Int32)))], [], sI (sI σ 170 (σ.1 166 4).toNatClampNeg (vp_nar .byte (jb (jshr v1 ((8 : Int32) * v2))))) 166 4 (((sI σ 170 (σ.1 166 4).toNatClampNeg (vp_nar .byte (jb (jshr v1 ((8 : Int32) * v2))))).1 166 4) + (1 : Int32)))) (ps := [shk 166 = 11, shk 166 = 11, IB 170 260 ∧ inb (σ.1 166 4) 260 = true, shk 166 = 11, shk 166 = 11]) rfl ⟨rfl, rfl, ⟨⟨rfl, rfl⟩, g1⟩, rfl, rfl, trivial⟩) ?_
    have h := Option.some.inj h
    subst h
    exact Go.fg (LSub.cs (LSub.cs (LSub.cs (LSub.nil))))
def Md_types_L2 (v1 : Int32) (s : Int32 × MH) : Option ((MH)) := itr (fun s : Int32 × MH => Md_types_l2 v1 s.1 s.2) FU s
set_option maxRecDepth 20000 in
set_option maxHeartbeats 2000000 in
theorem t_Md_types_L2 (v1 : Int32)  (s : Int32 × MH) {r} (h : Md_types_L2 v1 s = some r) : Go m_Md_types 1 (cH_Md_types_2 v1 s) (cR_Md_types_2 v1 r) := Go_itr (fun s o ho => t_Md_types_l2 v1 s.1 s.2 ho) FU s r h
def Md_types0 (v1 : Int32) (σ : MH) : Option (MH) := (Md_types_L2 v1 ((3 : Int32), σ)).bind fun z3 => some (z3)
set_option maxRecDepth 20000 in
set_option maxHeartbeats 2000000 in
theorem t_Md_types0 (v1 : Int32)  (σ : MH) {o} (h : Md_types0 v1 σ = some o) : Go m_Md_types 1 (some 0, [some (.ref 166), some (.int v1), none], [], σ) ((none, [], [], o)) := by
  unfold Md_types0 at h
  refine Go.t (Go_sg bk_Md_types 0 2 (c2 := (some 2, [some (.ref 166), some (.int v1), some (.int (3 : Int32))], [], σ)) (ps := []) rfl trivial) ?_
  obtain ⟨z3, q4, h⟩ := bdS h
  refine Go.t (Go.t (Go.fg (LSub.cs (LSub.cs (LSub.cs (LSub.nil))))) (t_Md_types_L2 v1 _ q4)) ?_
  have h := Option.some.inj h
  subst h
  exact Go.rf
def Md_types (v1 : Int32) (σ : MH) : Option (MH) := Md_types0 v1 σ
set_option maxRecDepth 20000 in
set_option maxHeartbeats 2000000 in
theorem ev_Md_types (v1 : Int32)  (σ : MH) {o} (h : Md_types v1 σ = some o) : Ev m_Md_types 1 [.ref 166, .int v1] σ none o := Ev.of2 (by decide +kernel) rfl (Nat.le_of_ble_eq_true rfl) rfl (t_Md_types0 v1 σ h)
def Md_feed0 (v1 : Int32) (v2 : Int32) (v3 : Int32) (v4 : Int32) (v5 : Int32) (σ : MH) : Option (Int32 × MH) := if (σ.1 166 4) + (20 : Int32) ≤ (260 : Int32) then ((Md_types v1 σ).bind fun σ2 => (Md_types v2 σ2).bind fun σ5 => (Md_types v3 σ5).bind fun σ8 => (Md_types v4 σ8).bind fun σ11 => (Md_types v5 σ11).bind fun σ14 => some (σ14.1 166 4, σ14)) else some ((-1 : Int32), σ)
set_option maxRecDepth 20000 in
set_option maxHeartbeats 2000000 in
theorem t_Md_feed0 (v1 : Int32) (v2 : Int32) (v3 : Int32) (v4 : Int32) (v5 : Int32)  (σ : MH) {o} (h : Md_feed0 v1 v2 v3 v4 v5 σ = some o) : Go m_Md_feed 2 (some 0, [some (.ref 166), some (.int v1), some (.int v2), some (.int v3), some (.int v4), some (.int v5)], [], σ) ((none, [], [.int o.1], o.2)) := by
  unfold Md_feed0 at h
  refine Go.t (Go_sg bk_Md_feed 0 5 (c2 := (some 10, [some (.ref 166), some (.int v1), some (.int v2), some (.int v3), some (.int v4), some (.int v5)], [.int (260 : Int32), .int ((σ.1 166 4) + (20 : Int32))], σ)) (ps := [shk 166 = 11]) rfl ⟨rfl, trivial⟩) ?_
  refine Go_icmp_le bk_Md_feed 5 rfl (fun c16 => ?_) (fun c16 => ?_)
  · have h := ifT c16 h
    refine Go.t (Go_sg bk_Md_feed 8 2 (c2 := (some 17, [some (.ref 166), some (.int v1), some (.int v2), some (.int v3), some (.int v4), some (.int v5)], [.int v1, .ref 166], σ)) (ps := []) rfl trivial) ?_
    obtain ⟨σ2, q3, h⟩ := bdS h
    refine Go.t (Go_callV bk_Md_feed 10 rfl nk_Md_types tw1405 tw1407 tw49 (ci := 11) rfl (as := [.int v1]) (S := []) rfl rfl rfl rfl (Nat.le_of_ble_eq_true rfl) (Nat.le_of_ble_eq_true rfl) (ev_Md_types _ _ q3)) ?_
    refine Go.t (Go_sg bk_Md_feed 11 2 (c2 := (some 22, [some (.ref 166), some (.int v1), some (.int v2), some (.int v3), some (.int v4), some (.int v5)], [.int v2, .ref 166], σ2)) (ps := []) rfl trivial) ?_
    obtain ⟨σ5, q6, h⟩ := bdS h
    refine Go.t (Go_callV bk_Md_feed 13 rfl nk_Md_types tw1405 tw1407 tw49 (ci := 11) rfl (as := [.int v2]) (S := []) rfl rfl rfl rfl (Nat.le_of_ble_eq_true rfl) (Nat.le_of_ble_eq_true rfl) (ev_Md_types _ _ q6)) ?_
    refine Go.t (Go_sg bk_Md_feed 14 2 (c2 := (some 27, [some (.ref 166), some (.int v1), some (.int v2), some (.int v3), some (.int v4), some (.int v5)], [.int v3, .ref 166], σ5)) (ps := []) rfl trivial) ?_
    obtain ⟨σ8, q9, h⟩ := bdS h
    refine Go.t (Go_callV bk_Md_feed 16 rfl nk_Md_types tw1405 tw1407 tw49 (ci := 11) rfl (as := [.int v3]) (S := []) rfl rfl rfl rfl (Nat.le_of_ble_eq_true rfl) (Nat.le_of_ble_eq_true rfl) (ev_Md_types _ _ q9)) ?_
    refine Go.t (Go_sg bk_Md_feed 17 2 (c2 := (some 33, [some (.ref 166), some (.int v1), some (.int v2), some (.int v3), some (.int v4), some (.int v5)], [.int v4, .ref 166], σ8)) (ps := []) rfl trivial) ?_
    obtain ⟨σ11, q12, h⟩ := bdS h
    refine Go.t (Go_callV bk_Md_feed 19 rfl nk_Md_types tw1405 tw1407 tw49 (ci := 11) rfl (as := [.int v4]) (S := []) rfl rfl rfl rfl (Nat.le_of_ble_eq_true rfl) (Nat.le_of_ble_eq_true rfl) (ev_Md_types _ _ q12)) ?_
    refine Go.t (Go_sg bk_Md_feed 20 2 (c2 := (some 39, [some (.ref 166), some (.int v1), some (.int v2), some (.int v3), some (.int v4), some (.int v5)], [.int v5, .ref 166], σ11)) (ps := []) rfl trivial) ?_
    obtain ⟨σ14, q15, h⟩ := bdS h
    refine Go.t (Go_callV bk_Md_feed 22 rfl nk_Md_types tw1405 tw1407 tw49 (ci := 11) rfl (as := [.int v5]) (S := []) rfl rfl rfl rfl (Nat.le_of_ble_eq_true rfl) (Nat.le_of_ble_eq_true rfl) (ev_Md_types _ _ q15)) ?_
    have h := Option.some.inj h
    subst h
    refine Go.t (Go_sg bk_Md_feed 23 2 (c2 := (some 46, [some (.ref 166), some (.int v1), some (.int v2), some (.int v3), some (.int v4), some (.int v5)], [.int (σ14.1 166 4)], σ14)) (ps := [shk 166 = 11]) rfl ⟨rfl, trivial⟩) ?_
    exact Go_reti bk_Md_feed 25 rfl
  · have h := ifF c16 h
    have h := Option.some.inj h
    subst h
    refine Go.t (Go_sg bk_Md_feed 6 1 (c2 := (some 14, [some (.ref 166), some (.int v1), some (.int v2), some (.int v3), some (.int v4), some (.int v5)], [.int (-1 : Int32)], σ)) (ps := []) rfl trivial) ?_
    exact Go_reti bk_Md_feed 7 rfl
def Md_feed (v1 : Int32) (v2 : Int32) (v3 : Int32) (v4 : Int32) (v5 : Int32) (σ : MH) : Option (Int32 × MH) := Md_feed0 v1 v2 v3 v4 v5 σ
set_option maxRecDepth 20000 in
set_option maxHeartbeats 2000000 in
theorem ev_Md_feed (v1 : Int32) (v2 : Int32) (v3 : Int32) (v4 : Int32) (v5 : Int32)  (σ : MH) {o} (h : Md_feed v1 v2 v3 v4 v5 σ = some o) : Ev m_Md_feed 2 [.ref 166, .int v1, .int v2, .int v3, .int v4, .int v5] σ (some (.int o.1)) o.2 := Ev.of2 (by decide +kernel) rfl (Nat.le_of_ble_eq_true rfl) ⟨.int, rfl, rfl⟩ (t_Md_feed0 v1 v2 v3 v4 v5 σ h)
def Md_here0  (σ : MH) : Option (Int32) := if σ.1 166 6 ≤ σ.1 166 5 then some ((-1 : Int32)) else (if inb (σ.1 166 5) 260 = true then some ((σ.1 170 (σ.1 166 5).toNatClampNeg) &&& (255 : Int32)) else none)
set_option maxRecDepth 20000 in
set_option maxHeartbeats 2000000 in
theorem t_Md_here0   (σ : MH) {o} (h : Md_here0 σ = some o) : Go m_Md_here 1 (some 0, [some (.ref 166)], [], σ) ((none, [], [.int o], σ)) := by
  unfold Md_here0 at h
  refine Go.t (Go_sg bk_Md_here 0 4 (c2 := (some 8, [some (.ref 166)], [.int (σ.1 166 6), .int (σ.1 166 5)], σ)) (ps := [shk 166 = 11, shk 166 = 11]) rfl ⟨rfl, rfl, trivial⟩) ?_
  refine Go_icmp_ge bk_Md_here 4 rfl (fun c2 => ?_) (fun c2 => ?_)
  · have h := ifT c2 h
    have h := Option.some.inj h
    subst h
    refine Go.t (Go_sg bk_Md_here 13 1 (c2 := (some 28, [some (.ref 166)], [.int (-1 : Int32)], σ)) (ps := []) rfl trivial) ?_
    exact Go_reti bk_Md_here 14 rfl
  · have h := ifF c2 h
    obtain ⟨g1, h⟩ := gdS h
    refine Go.t (Go_sg bk_Md_here 5 8 (c2 := (some 28, [some (.ref 166)], [.int ((σ.1 170 (σ.1 166 5).toNatClampNeg) &&& (255 : Int32))], σ)) (ps := [shk 166 = 11, shk 166 = 11, IB 170 260 ∧ inb (σ.1 166 5) 260 = true]) rfl ⟨rfl, rfl, ⟨⟨rfl, rfl⟩, g1⟩, trivial⟩) ?_
    have h := Option.some.inj h
    subst h
    exact Go_reti bk_Md_here 14 rfl
def Md_here  (σ : MH) : Option (Int32) := Md_here0 σ
set_option maxRecDepth 20000 in
set_option maxHeartbeats 2000000 in
theorem ev_Md_here   (σ : MH) {o} (h : Md_here σ = some o) : Ev m_Md_here 1 [.ref 166] σ (some (.int o)) σ := Ev.of2 (by decide +kernel) rfl (Nat.le_of_ble_eq_true rfl) ⟨.int, rfl, rfl⟩ (t_Md_here0 σ h)
def Md_isClause_b30  (σ : MH) : Option (Int32) := some ((1 : Int32))
set_option maxRecDepth 20000 in
set_option maxHeartbeats 2000000 in
theorem t_Md_isClause_b30    (σ : MH) {o} (h : Md_isClause_b30 σ = some o) : Go m_Md_isClause 1 (some 30, [none], [], σ) ((none, [], [.int o], σ)) := by
  unfold Md_isClause_b30 at h
  refine Go.t (Go_sg bk_Md_isClause 15 2 (c2 := (some 35, [none], [.int (1 : Int32)], σ)) (ps := []) rfl trivial) ?_
  have h := Option.some.inj h
  subst h
  exact Go_reti bk_Md_isClause 18 rfl
def Md_isClause0 (v0 : Int32) (σ : MH) : Option (Int32) := if v0 = (102 : Int32) then (Md_isClause_b30 σ) else (if v0 = (108 : Int32) then (Md_isClause_b30 σ) else (if v0 = (119 : Int32) then (Md_isClause_b30 σ) else (if v0 = (99 : Int32) then (Md_isClause_b30 σ) else (if v0 = (98 : Int32) then (Md_isClause_b30 σ) else some ((0 : Int32))))))
set_option maxRecDepth 20000 in
set_option maxHeartbeats 2000000 in
theorem t_Md_isClause0 (v0 : Int32)  (σ : MH) {o} (h : Md_isClause0 v0 σ = some o) : Go m_Md_isClause 1 (some 0, [some (.int v0)], [], σ) ((none, [], [.int o], σ)) := by
  unfold Md_isClause0 at h
  refine Go.t (Go_sg bk_Md_isClause 0 2 (c2 := (some 3, [some (.int v0)], [.int (102 : Int32), .int v0], σ)) (ps := []) rfl trivial) ?_
  refine Go_icmp_eq bk_Md_isClause 2 rfl (fun c5 => ?_) (fun c5 => ?_)
  · have h := ifT c5 h
    exact Go.t (Go.fg (LSub.cn (LSub.nil))) (t_Md_isClause_b30 σ h)
  · have h := ifF c5 h
    refine Go.t (Go_sg bk_Md_isClause 3 2 (c2 := (some 9, [some (.int v0)], [.int (108 : Int32), .int v0], σ)) (ps := []) rfl trivial) ?_
    refine Go_icmp_eq bk_Md_isClause 5 rfl (fun c4 => ?_) (fun c4 => ?_)
    · have h := ifT c4 h
      exact Go.t (Go.fg (LSub.cn (LSub.nil))) (t_Md_isClause_b30 σ h)
    · have h := ifF c4 h
      refine Go.t (Go_sg bk_Md_isClause 6 2 (c2 := (some 15, [some (.int v0)], [.int (119 : Int32), .int v0], σ)) (ps := []) rfl trivial) ?_
      refine Go_icmp_eq bk_Md_isClause 8 rfl (fun c3 => ?_) (fun c3 => ?_)
      · have h := ifT c3 h
        exact Go.t (Go.fg (LSub.cn (LSub.nil))) (t_Md_isClause_b30 σ h)
      · have h := ifF c3 h
        refine Go.t (Go_sg bk_Md_isClause 9 2 (c2 := (some 21, [some (.int v0)], [.int (99 : Int32), .int v0], σ)) (ps := []) rfl trivial) ?_
        refine Go_icmp_eq bk_Md_isClause 11 rfl (fun c2 => ?_) (fun c2 => ?_)
        · have h := ifT c2 h
          exact Go.t (Go.fg (LSub.cn (LSub.nil))) (t_Md_isClause_b30 σ h)
        · have h := ifF c2 h
          refine Go.t (Go_sg bk_Md_isClause 12 2 (c2 := (some 27, [some (.int v0)], [.int (98 : Int32), .int v0], σ)) (ps := []) rfl trivial) ?_
          refine Go_icmp_ne bk_Md_isClause 14 rfl (fun c1 => ?_) (fun c1 => ?_)
          · have h := ifF c1 h
            have h := Option.some.inj h
            subst h
            refine Go.t (Go_sg bk_Md_isClause 17 1 (c2 := (some 35, [some (.int v0)], [.int (0 : Int32)], σ)) (ps := []) rfl trivial) ?_
            exact Go_reti bk_Md_isClause 18 rfl
          · have h := ifT c1 h
            exact Go.t (Go.fg (LSub.cn (LSub.nil))) (t_Md_isClause_b30 σ h)
def Md_isClause (v0 : Int32) (σ : MH) : Option (Int32) := bzp (Md_isClause0 v0 σ)
set_option maxRecDepth 20000 in
set_option maxHeartbeats 2000000 in
theorem ev_Md_isClause (v0 : Int32)  (σ : MH) {o} (h : Md_isClause v0 σ = some o) : Ev m_Md_isClause 1 [.int v0] σ (some (.int o)) σ := Ev.of2 (by decide +kernel) rfl (Nat.le_of_ble_eq_true rfl) ⟨.boolean, rfl, nrB (bzp2 h)⟩ (t_Md_isClause0 v0 σ (bzp1 h))
def Md_wrongAt0 (v1 : Int32) (v2 : Int32) (σ : MH) : Option (Int32 × MH) := some ((0 : Int32), sI σ 166 7 (((-1000 : Int32) * v1) - v2))
set_option maxRecDepth 20000 in
set_option maxHeartbeats 2000000 in
theorem t_Md_wrongAt0 (v1 : Int32) (v2 : Int32)  (σ : MH) {o} (h : Md_wrongAt0 v1 v2 σ = some o) : Go m_Md_wrongAt 1 (some 0, [some (.ref 166), some (.int v1), some (.int v2)], [], σ) ((none, [], [.int o.1], o.2)) := by
  unfold Md_wrongAt0 at h
  have h := Option.some.inj h
  subst h
  refine Go.t (Go_sg bk_Md_wrongAt 0 8 (c2 := (some 12, [some (.ref 166), some (.int v1), some (.int v2)], [.int (0 : Int32)], sI σ 166 7 (((-1000 : Int32) * v1) - v2))) (ps := [shk 166 = 11]) rfl ⟨rfl, trivial⟩) ?_
  exact Go_reti bk_Md_wrongAt 8 rfl
def Md_wrongAt (v1 : Int32) (v2 : Int32) (σ : MH) : Option (Int32 × MH) := bzo (Md_wrongAt0 v1 v2 σ)
set_option maxRecDepth 20000 in
set_option maxHeartbeats 2000000 in
theorem ev_Md_wrongAt (v1 : Int32) (v2 : Int32)  (σ : MH) {o} (h : Md_wrongAt v1 v2 σ = some o) : Ev m_Md_wrongAt 1 [.ref 166, .int v1, .int v2] σ (some (.int o.1)) o.2 := Ev.of2 (by decide +kernel) rfl (Nat.le_of_ble_eq_true rfl) ⟨.boolean, rfl, nrB (bzo2 h)⟩ (t_Md_wrongAt0 v1 v2 σ (bzo1 h))
def Md_opens0 (v1 : Int32) (σ : MH) : Option (Int32 × MH) := if σ.1 166 9 = (6 : Int32) then ((Md_wrongAt (5 : Int32) (σ.1 166 5) σ).bind fun (x2, σ3) => some (x2, σ3)) else (if inb ((sI σ 166 9 ((σ.1 166 9) + (1 : Int32))).1 166 11) 260 = true then some ((1 : Int32), sI (sI (sI (sI σ 166 9 ((σ.1 166 9) + (1 : Int32))) 172 ((sI σ 166 9 ((σ.1 166 9) + (1 : Int32))).1 166 11).toNatClampNeg ((1048576 : Int32) * v1)) 166 11 (((sI (sI σ 166 9 ((σ.1 166 9) + (1 : Int32))) 172 ((sI σ 166 9 ((σ.1 166 9) + (1 : Int32))).1 166 11).toNatClampNeg ((1048576 : Int32) * v1)).1 166 11) + (1 : Int32))) 166 5 (((sI (sI (sI σ 166 9 ((σ.1 166 9) + (1 : Int32))) 172 ((sI σ 166 9 ((σ.1 166 9) + (1 : Int32))).1 166 11).toNatClampNeg ((1048576 : Int32) * v1)) 166 11 (((sI (sI σ 166 9 ((σ.1 166 9) + (1 : Int32))) 172 ((sI σ 166 9 ((σ.1 166 9) + (1 : Int32))).1 166 11).toNatClampNeg ((1048576 : Int32) * v1)).1 166 11) + (1 : Int32))).1 166 5) + (1 : Int32))) else none)
set_option maxRecDepth 20000 in
set_option maxHeartbeats 2000000 in
theorem t_Md_opens0 (v1 : Int32)  (σ : MH) {o} (h : Md_opens0 v1 σ = some o) : Go m_Md_opens 2 (some 0, [some (.ref 166), some (.int v1)], [], σ) ((none, [], [.int o.1], o.2)) := by
  unfold Md_opens0 at h
  refine Go.t (Go_sg bk_Md_opens 0 3 (c2 := (some 6, [some (.ref 166), some (.int v1)], [.int (6 : Int32), .int (σ.1 166 9)], σ)) (ps := [shk 166 = 11]) rfl ⟨rfl, trivial⟩) ?_
  refine Go_icmp_ne bk_Md_opens 3 rfl (fun c5 => ?_) (fun c5 => ?_)
  · have h := ifF c5 h
    obtain ⟨g1, h⟩ := gdS h
    have h := Option.some.inj h
    subst h
    refine Go.t (Go_sg bk_Md_opens 10 27 (c2 := (some 63, [some (.ref 166), some (.int v1)], [.int (1 : Int32)], sI (sI (sI (sI σ 166 9 ((σ.1 166 9) + (1 : Int32))) 172 ((sI σ 166 9 ((σ.1 166 9) + (1 : Int32))).1 166 11).toNatClampNeg ((1048576 : Int32) * v1)) 166 11 (((sI (sI σ 166 9 ((σ.1 166 9) + (1 : Int32))) 172 ((sI σ 166 9 ((σ.1 166 9) + (1 : Int32))).1 166 11).toNatClampNeg ((1048576 : Int32) * v1)).1 166 11) + (1 : Int32))) 166 5 (((sI (sI (sI σ 166 9 ((σ.1 166 9) + (1 : Int32))) 172 ((sI σ 166 9 ((σ.1 166 9) + (1 : Int32))).1 166 11).toNatClampNeg ((1048576 : Int32) * v1)) 166 11 (((sI (sI σ 166 9 ((σ.1 166 9) + (1 : Int32))) 172 ((sI σ 166 9 ((σ.1 166 9) + (1 : Int32))).1 166 11).toNatClampNeg ((1048576 : Int32) * v1)).1 166 11) + (1 : Int32))).1 166 5) + (1 : Int32)))) (ps := [shk 166 = 11, shk 166 = 11, shk 166 = 11, shk 166 = 11, IA 172 260 ∧ inb ((sI σ 166 9 ((σ.1 166 9) + (1 : Int32))).1 166 11) 260 = true, shk 166 = 11, shk 166 = 11, shk 166 = 11, shk 166 = 11]) rfl ⟨rfl, rfl, rfl, rfl, ⟨⟨rfl, rfl⟩, g1⟩, rfl, rfl, rfl, rfl, trivial⟩) ?_
    exact Go_reti bk_Md_opens 37 rfl
  · have h := ifT c5 h
    refine Go.t (Go_sg bk_Md_opens 4 4 (c2 := (some 15, [some (.ref 166), some (.int v1)], [.int (σ.1 166 5), .int (5 : Int32), .ref 166], σ)) (ps := [shk 166 = 11]) rfl ⟨rfl, trivial⟩) ?_
    obtain ⟨⟨x2, σ3⟩, q4, h⟩ := bdS h
    dsimp only at h
    refine Go.t (Go_callV bk_Md_opens 8 rfl nk_Md_wrongAt tw1424 tw1426 tw52 (ci := 11) rfl (as := [.int (5 : Int32), .int (σ.1 166 5)]) (S := []) rfl rfl rfl rfl (Nat.le_of_ble_eq_true rfl) (Nat.le_of_ble_eq_true rfl) (ev_Md_wrongAt _ _ _ q4)) ?_
    have h := Option.some.inj h
    subst h
    exact Go_reti bk_Md_opens 9 rfl
def Md_opens (v1 : Int32) (σ : MH) : Option (Int32 × MH) := bzo (Md_opens0 v1 σ)
set_option maxRecDepth 20000 in
set_option maxHeartbeats 2000000 in
theorem ev_Md_opens (v1 : Int32)  (σ : MH) {o} (h : Md_opens v1 σ = some o) : Ev m_Md_opens 2 [.ref 166, .int v1] σ (some (.int o.1)) o.2 := Ev.of2 (by decide +kernel) rfl (Nat.le_of_ble_eq_true rfl) ⟨.boolean, rfl, nrB (bzo2 h)⟩ (t_Md_opens0 v1 σ (bzo1 h))
def Md_isDigit0  (σ : MH) : Option (Int32) := (Md_here σ).bind fun x1 => if x1 < (48 : Int32) then some ((0 : Int32)) else ((Md_here σ).bind fun x4 => if (57 : Int32) < x4 then some ((0 : Int32)) else some ((1 : Int32)))
set_option maxRecDepth 20000 in
set_option maxHeartbeats 2000000 in
theorem t_Md_isDigit0   (σ : MH) {o} (h : Md_isDigit0 σ = some o) : Go m_Md_isDigit 2 (some 0, [some (.ref 166)], [], σ) ((none, [], [.int o], σ)) := by
  unfold Md_isDigit0 at h
  refine Go.t (Go_sg bk_Md_isDigit 0 1 (c2 := (some 1, [some (.ref 166)], [.ref 166], σ)) (ps := []) rfl trivial) ?_
  obtain ⟨x1, q3, h⟩ := bdS h
  refine Go.t (Go_callV bk_Md_isDigit 1 rfl nk_Md_here tw1417 tw1419 tw51 (ci := 11) rfl (as := []) (S := []) rfl rfl rfl rfl (Nat.le_of_ble_eq_true rfl) (Nat.le_of_ble_eq_true rfl) (ev_Md_here _ q3)) ?_
  refine Go.t (Go_sg bk_Md_isDigit 2 1 (c2 := (some 6, [some (.ref 166)], [.int (48 : Int32), .int x1], σ)) (ps := []) rfl trivial) ?_
  refine Go_icmp_lt bk_Md_isDigit 3 rfl (fun c8 => ?_) (fun c8 => ?_)
  · have h := ifT c8 h
    have h := Option.some.inj h
    subst h
    refine Go.t (Go_sg bk_Md_isDigit 10 1 (c2 := (some 23, [some (.ref 166)], [.int (0 : Int32)], σ)) (ps := []) rfl trivial) ?_
    exact Go_reti bk_Md_isDigit 11 rfl
  · have h := ifF c8 h
    refine Go.t (Go_sg bk_Md_isDigit 4 1 (c2 := (some 10, [some (.ref 166)], [.ref 166], σ)) (ps := []) rfl trivial) ?_
    obtain ⟨x4, q6, h⟩ := bdS h
    refine Go.t (Go_callV bk_Md_isDigit 5 rfl nk_Md_here tw1417 tw1419 tw51 (ci := 11) rfl (as := []) (S := []) rfl rfl rfl rfl (Nat.le_of_ble_eq_true rfl) (Nat.le_of_ble_eq_true rfl) (ev_Md_here _ q6)) ?_
    refine Go.t (Go_sg bk_Md_isDigit 6 1 (c2 := (some 15, [some (.ref 166)], [.int (57 : Int32), .int x4], σ)) (ps := []) rfl trivial) ?_
    refine Go_icmp_gt bk_Md_isDigit 7 rfl (fun c7 => ?_) (fun c7 => ?_)
    · have h := ifT c7 h
      have h := Option.some.inj h
      subst h
      refine Go.t (Go_sg bk_Md_isDigit 10 1 (c2 := (some 23, [some (.ref 166)], [.int (0 : Int32)], σ)) (ps := []) rfl trivial) ?_
      exact Go_reti bk_Md_isDigit 11 rfl
    · have h := ifF c7 h
      refine Go.t (Go_sg bk_Md_isDigit 8 2 (c2 := (some 23, [some (.ref 166)], [.int (1 : Int32)], σ)) (ps := []) rfl trivial) ?_
      have h := Option.some.inj h
      subst h
      exact Go_reti bk_Md_isDigit 11 rfl
def Md_isDigit  (σ : MH) : Option (Int32) := bzp (Md_isDigit0 σ)
set_option maxRecDepth 20000 in
set_option maxHeartbeats 2000000 in
theorem ev_Md_isDigit   (σ : MH) {o} (h : Md_isDigit σ = some o) : Ev m_Md_isDigit 2 [.ref 166] σ (some (.int o)) σ := Ev.of2 (by decide +kernel) rfl (Nat.le_of_ble_eq_true rfl) ⟨.boolean, rfl, nrB (bzp2 h)⟩ (t_Md_isDigit0 σ (bzp1 h))
def cH_Md_readsNumber_10 (v1 : Int32) (s : MH) : MC := (some 10, [some (.ref 166), some (.int v1)], [], s)
def cR_Md_readsNumber_10 (v1 : Int32) : ((MH) ⊕ (Int32 × MH)) → MC := (cS (fun r : MH => ((some 27, [some (.ref 166), none], [], r) : MC)) (fun r : Int32 × MH => ((none, [], [.int r.1], r.2) : MC)))
def Md_readsNumber_l10 (v1 : Int32) (σ : MH) : Option (((MH) ⊕ ((MH) ⊕ (Int32 × MH)))) := (Md_isDigit σ).bind fun x1 => if x1 = (0 : Int32) then some (.inr (.inr ((1 : Int32), σ))) else (if σ.1 166 5 = v1 + (5 : Int32) then some (.inr (.inl (σ))) else ((Md_here σ).bind fun x4 => some (.inl (sI (sI σ 166 8 ((((10 : Int32) * (σ.1 166 8)) + x4) - (48 : Int32))) 166 5 (((sI σ 166 8 ((((10 : Int32) * (σ.1 166 8)) + x4) - (48 : Int32))).1 166 5) + (1 : Int32))))))
set_option maxRecDepth 20000 in
set_option maxHeartbeats 2000000 in
theorem t_Md_readsNumber_l10 (v1 : Int32)  (σ : MH) {o} (h : Md_readsNumber_l10 v1 σ = some o) : Go m_Md_readsNumber 3 (cH_Md_readsNumber_10 v1 (σ)) (cS (cH_Md_readsNumber_10 v1) (cR_Md_readsNumber_10 v1) o) := by
  unfold Md_readsNumber_l10 at h
  unfold cH_Md_readsNumber_10
  refine Go.t (Go_sg bk_Md_readsNumber 6 1 (c2 := (some 11, [some (.ref 166), some (.int v1)], [.ref 166], σ)) (ps := []) rfl trivial) ?_
  obtain ⟨x1, q3, h⟩ := bdS h
  refine Go.t (Go_callV bk_Md_readsNumber 7 rfl nk_Md_isDigit tw1441 tw1443 tw56 (ci := 11) rfl (as := []) (S := []) rfl rfl rfl rfl (Nat.le_of_ble_eq_true rfl) (Nat.le_of_ble_eq_true rfl) (ev_Md_isDigit _ q3)) ?_
  refine Go_if_eq bk_Md_readsNumber 8 rfl (fun c8 => ?_) (fun c8 => ?_)
  · have h := ifT c8 h
    have h := Option.some.inj h
    subst h
    refine Go.t (Go_sg bk_Md_readsNumber 39 1 (c2 := (some 70, [some (.ref 166), some (.int v1)], [.int (1 : Int32)], σ)) (ps := []) rfl trivial) ?_
    exact Go_reti bk_Md_readsNumber 40 rfl
  · have h := ifF c8 h
    refine Go.t (Go_sg bk_Md_readsNumber 9 5 (c2 := (some 24, [some (.ref 166), some (.int v1)], [.int (v1 + (5 : Int32)), .int (σ.1 166 5)], σ)) (ps := [shk 166 = 11]) rfl ⟨rfl, trivial⟩) ?_
    refine Go_icmp_ne bk_Md_readsNumber 14 rfl (fun c7 => ?_) (fun c7 => ?_)
    · have h := ifF c7 h
      refine Go.t (Go_sg bk_Md_readsNumber 21 6 (c2 := (some 46, [some (.ref 166), some (.int v1)], [.ref 166, .int ((10 : Int32) * (σ.1 166 8)), .ref 166], σ)) (ps := [shk 166 = 11]) rfl ⟨rfl, trivial⟩) ?_
      obtain ⟨x4, q6, h⟩ := bdS h
      refine Go.t (Go_callV bk_Md_readsNumber 27 rfl nk_Md_here tw1417 tw1419 tw51 (ci := 11) rfl (as := []) (S := [.int ((10 : Int32) * (σ.1 166 8)), .ref 166]) rfl rfl rfl rfl (Nat.le_of_ble_eq_true rfl) (Nat.le_of_ble_eq_true rfl) (ev_Md_here _ q6)) ?_
      refine Go.t (Go_sg bk_Md_readsNumber 28 11 (c2 := (some 10, [some (.ref 166), some (.int v1)], [], sI (sI σ 166 8 ((((10 : Int32) * (σ.1 166 8)) + x4) - (48 : Int32))) 166 5 (((sI σ 166 8 ((((10 : Int32) * (σ.1 166 8)) + x4) - (48 : Int32))).1 166 5) + (1 : Int32)))) (ps := [shk 166 = 11, shk 166 = 11, shk 166 = 11]) rfl ⟨rfl, rfl, rfl, trivial⟩) ?_
      have h := Option.some.inj h
      subst h
      exact Go.fg (LSub.cs (LSub.cs (LSub.nil)))
    · have h := ifT c7 h
      have h := Option.some.inj h
      subst h
      exact Go.fg (LSub.cs (LSub.cn (LSub.nil)))
def Md_readsNumber_L10 (v1 : Int32) (s : MH) : Option ((MH) ⊕ (Int32 × MH)) := itr (fun s : MH => Md_readsNumber_l10 v1 s) FU s
set_option maxRecDepth 20000 in
set_option maxHeartbeats 2000000 in
theorem t_Md_readsNumber_L10 (v1 : Int32)  (s : MH) {r} (h : Md_readsNumber_L10 v1 s = some r) : Go m_Md_readsNumber 3 (cH_Md_readsNumber_10 v1 s) (cR_Md_readsNumber_10 v1 r) := Go_itr (fun s o ho => t_Md_readsNumber_l10 v1 s ho) FU s r h
def Md_readsNumber0  (σ : MH) : Option (Int32 × MH) := (Md_readsNumber_L10 (σ.1 166 5) (sI σ 166 8 (0 : Int32))).bind fun z9 => (match z9 with | .inl z9a => (Md_wrongAt (2 : Int32) (z9a.1 166 5) z9a).bind fun (x11, σ12) => some (x11, σ12) | .inr z9b => some (z9b.1, z9b.2))
set_option maxRecDepth 20000 in
set_option maxHeartbeats 2000000 in
theorem t_Md_readsNumber0   (σ : MH) {o} (h : Md_readsNumber0 σ = some o) : Go m_Md_readsNumber 3 (some 0, [some (.ref 166), none], [], σ) ((none, [], [.int o.1], o.2)) := by
  unfold Md_readsNumber0 at h
  refine Go.t (Go_sg bk_Md_readsNumber 0 6 (c2 := (some 10, [some (.ref 166), some (.int (σ.1 166 5))], [], sI σ 166 8 (0 : Int32))) (ps := [shk 166 = 11, shk 166 = 11]) rfl ⟨rfl, rfl, trivial⟩) ?_
  obtain ⟨z9, q10, h⟩ := bdS h
  refine Go.t (Go.t (Go.fg (LSub.cs (LSub.cs (LSub.nil)))) (t_Md_readsNumber_L10 (σ.1 166 5) _ q10)) ?_
  rcases z9 with z9a | z9b
  · dsimp only at h
    refine Go.t (Go_sg bk_Md_readsNumber 15 4 (c2 := (some 33, [some (.ref 166), none], [.int (z9a.1 166 5), .int (2 : Int32), .ref 166], z9a)) (ps := [shk 166 = 11]) rfl ⟨rfl, trivial⟩) ?_
    obtain ⟨⟨x11, σ12⟩, q13, h⟩ := bdS h
    dsimp only at h
    refine Go.t (Go_callV bk_Md_readsNumber 19 rfl nk_Md_wrongAt tw1424 tw1426 tw52 (ci := 11) rfl (as := [.int (2 : Int32), .int (z9a.1 166 5)]) (S := []) rfl rfl rfl rfl (Nat.le_of_ble_eq_true rfl) (Nat.le_of_ble_eq_true rfl) (ev_Md_wrongAt _ _ _ q13)) ?_
    have h := Option.some.inj h
    subst h
    exact Go_reti bk_Md_readsNumber 20 rfl
  · dsimp only at h
    have h := Option.some.inj h
    subst h
    exact Go.rf
def Md_readsNumber  (σ : MH) : Option (Int32 × MH) := bzo (Md_readsNumber0 σ)
set_option maxRecDepth 20000 in
set_option maxHeartbeats 2000000 in
theorem ev_Md_readsNumber   (σ : MH) {o} (h : Md_readsNumber σ = some o) : Ev m_Md_readsNumber 3 [.ref 166] σ (some (.int o.1)) o.2 := Ev.of2 (by decide +kernel) rfl (Nat.le_of_ble_eq_true rfl) ⟨.boolean, rfl, nrB (bzo2 h)⟩ (t_Md_readsNumber0 σ (bzo1 h))
def Md_notes0 (v1 : Int32) (v2 : Int32) (σ : MH) : Option (MH) := if inb (σ.1 166 10) 260 = true then some (sI (sI σ 171 (σ.1 166 10).toNatClampNeg (((1048576 : Int32) * v1) + v2)) 166 10 (((sI σ 171 (σ.1 166 10).toNatClampNeg (((1048576 : Int32) * v1) + v2)).1 166 10) + (1 : Int32))) else none
set_option maxRecDepth 20000 in
set_option maxHeartbeats 2000000 in
theorem t_Md_notes0 (v1 : Int32) (v2 : Int32)  (σ : MH) {o} (h : Md_notes0 v1 v2 σ = some o) : Go m_Md_notes 1 (some 0, [some (.ref 166), some (.int v1), some (.int v2)], [], σ) ((none, [], [], o)) := by
  unfold Md_notes0 at h
  obtain ⟨g1, h⟩ := gdS h
  have h := Option.some.inj h
  subst h
  refine Go.t (Go_sg bk_Md_notes 0 16 (c2 := (some 25, [some (.ref 166), some (.int v1), some (.int v2)], [], sI (sI σ 171 (σ.1 166 10).toNatClampNeg (((1048576 : Int32) * v1) + v2)) 166 10 (((sI σ 171 (σ.1 166 10).toNatClampNeg (((1048576 : Int32) * v1) + v2)).1 166 10) + (1 : Int32)))) (ps := [shk 166 = 11, shk 166 = 11, IA 171 260 ∧ inb (σ.1 166 10) 260 = true, shk 166 = 11, shk 166 = 11]) rfl ⟨rfl, rfl, ⟨⟨rfl, rfl⟩, g1⟩, rfl, rfl, trivial⟩) ?_
  exact Go_ret0 bk_Md_notes 16 rfl
def Md_notes (v1 : Int32) (v2 : Int32) (σ : MH) : Option (MH) := Md_notes0 v1 v2 σ
set_option maxRecDepth 20000 in
set_option maxHeartbeats 2000000 in
theorem ev_Md_notes (v1 : Int32) (v2 : Int32)  (σ : MH) {o} (h : Md_notes v1 v2 σ = some o) : Ev m_Md_notes 1 [.ref 166, .int v1, .int v2] σ none o := Ev.of2 (by decide +kernel) rfl (Nat.le_of_ble_eq_true rfl) rfl (t_Md_notes0 v1 v2 σ h)
set_option maxRecDepth 20000 in
set_option maxHeartbeats 2000000 in
theorem dt_Md_factOf_1 : decode m_Md_factOf.2.1 1 = .ok (.tableswitch 142 97 121 #[133, 142, 142, 130, 142, 142, 142, 142, 115, 117, 142, 142, 142, 142, 142, 136, 139, 142, 119, 142, 125, 127, 142, 121, 123], 115) := by decide +kernel
def Md_factOf0 (v0 : Int32) (σ : MH) : Option (Int32) := if v0 = (97 : Int32) then some ((8 : Int32)) else if v0 = (100 : Int32) then some ((7 : Int32)) else if v0 = (105 : Int32) then some ((0 : Int32)) else if v0 = (106 : Int32) then some ((1 : Int32)) else if v0 = (112 : Int32) then some ((9 : Int32)) else if v0 = (113 : Int32) then some ((10 : Int32)) else if v0 = (115 : Int32) then some ((2 : Int32)) else if v0 = (117 : Int32) then some ((5 : Int32)) else if v0 = (118 : Int32) then some ((6 : Int32)) else if v0 = (120 : Int32) then some ((3 : Int32)) else if v0 = (121 : Int32) then some ((4 : Int32)) else some ((-1 : Int32))
set_option maxRecDepth 20000 in
set_option maxHeartbeats 2000000 in
theorem t_Md_factOf0 (v0 : Int32)  (σ : MH) {o} (h : Md_factOf0 v0 σ = some o) : Go m_Md_factOf 1 (some 0, [some (.int v0)], [], σ) ((none, [], [.int o], σ)) := by
  unfold Md_factOf0 at h
  refine Go.t (Go_sg bk_Md_factOf 0 1 (c2 := (some 1, [some (.int v0)], [.int v0], σ)) (ps := []) rfl trivial) ?_
  by_cases c1 : v0 = (97 : Int32)
  · have h := ifT c1 h
    refine Go.t (Go_tsi dt_Md_factOf_1 (tsw_in c1 97 121 rfl).1 (tsw_in c1 97 121 rfl).2 (by rw [c1]; rfl) (tgt := 134) (by decide)) ?_
    have h := Option.some.inj h
    subst h
    refine Go.t (Go_sg bk_Md_factOf 17 1 (c2 := (some 136, [some (.int v0)], [.int (8 : Int32)], σ)) (ps := []) rfl trivial) ?_
    exact Go_reti bk_Md_factOf 18 rfl
  have h := ifF c1 h
  by_cases c2 : v0 = (100 : Int32)
  · have h := ifT c2 h
    refine Go.t (Go_tsi dt_Md_factOf_1 (tsw_in c2 97 121 rfl).1 (tsw_in c2 97 121 rfl).2 (by rw [c2]; rfl) (tgt := 131) (by decide)) ?_
    have h := Option.some.inj h
    subst h
    refine Go.t (Go_sg bk_Md_factOf 15 1 (c2 := (some 133, [some (.int v0)], [.int (7 : Int32)], σ)) (ps := []) rfl trivial) ?_
    exact Go_reti bk_Md_factOf 16 rfl
  have h := ifF c2 h
  by_cases c3 : v0 = (105 : Int32)
  · have h := ifT c3 h
    refine Go.t (Go_tsi dt_Md_factOf_1 (tsw_in c3 97 121 rfl).1 (tsw_in c3 97 121 rfl).2 (by rw [c3]; rfl) (tgt := 116) (by decide)) ?_
    have h := Option.some.inj h
    subst h
    refine Go.t (Go_sg bk_Md_factOf 1 1 (c2 := (some 117, [some (.int v0)], [.int (0 : Int32)], σ)) (ps := []) rfl trivial) ?_
    exact Go_reti bk_Md_factOf 2 rfl
  have h := ifF c3 h
  by_cases c4 : v0 = (106 : Int32)
  · have h := ifT c4 h
    refine Go.t (Go_tsi dt_Md_factOf_1 (tsw_in c4 97 121 rfl).1 (tsw_in c4 97 121 rfl).2 (by rw [c4]; rfl) (tgt := 118) (by decide)) ?_
    have h := Option.some.inj h
    subst h
    refine Go.t (Go_sg bk_Md_factOf 3 1 (c2 := (some 119, [some (.int v0)], [.int (1 : Int32)], σ)) (ps := []) rfl trivial) ?_
    exact Go_reti bk_Md_factOf 4 rfl
  have h := ifF c4 h
  by_cases c5 : v0 = (112 : Int32)
  · have h := ifT c5 h
    refine Go.t (Go_tsi dt_Md_factOf_1 (tsw_in c5 97 121 rfl).1 (tsw_in c5 97 121 rfl).2 (by rw [c5]; rfl) (tgt := 137) (by decide)) ?_
    have h := Option.some.inj h
    subst h
    refine Go.t (Go_sg bk_Md_factOf 19 1 (c2 := (some 139, [some (.int v0)], [.int (9 : Int32)], σ)) (ps := []) rfl trivial) ?_
    exact Go_reti bk_Md_factOf 20 rfl
  have h := ifF c5 h
  by_cases c6 : v0 = (113 : Int32)
  · have h := ifT c6 h
    refine Go.t (Go_tsi dt_Md_factOf_1 (tsw_in c6 97 121 rfl).1 (tsw_in c6 97 121 rfl).2 (by rw [c6]; rfl) (tgt := 140) (by decide)) ?_
    have h := Option.some.inj h
    subst h
    refine Go.t (Go_sg bk_Md_factOf 21 1 (c2 := (some 142, [some (.int v0)], [.int (10 : Int32)], σ)) (ps := []) rfl trivial) ?_
    exact Go_reti bk_Md_factOf 22 rfl
  have h := ifF c6 h
  by_cases c7 : v0 = (115 : Int32)
  · have h := ifT c7 h
    refine Go.t (Go_tsi dt_Md_factOf_1 (tsw_in c7 97 121 rfl).1 (tsw_in c7 97 121 rfl).2 (by rw [c7]; rfl) (tgt := 120) (by decide)) ?_
    have h := Option.some.inj h
    subst h
    refine Go.t (Go_sg bk_Md_factOf 5 1 (c2 := (some 121, [some (.int v0)], [.int (2 : Int32)], σ)) (ps := []) rfl trivial) ?_
    exact Go_reti bk_Md_factOf 6 rfl
  have h := ifF c7 h
  by_cases c8 : v0 = (117 : Int32)
  · have h := ifT c8 h
    refine Go.t (Go_tsi dt_Md_factOf_1 (tsw_in c8 97 121 rfl).1 (tsw_in c8 97 121 rfl).2 (by rw [c8]; rfl) (tgt := 126) (by decide)) ?_
    have h := Option.some.inj h
    subst h
    refine Go.t (Go_sg bk_Md_factOf 11 1 (c2 := (some 127, [some (.int v0)], [.int (5 : Int32)], σ)) (ps := []) rfl trivial) ?_
    exact Go_reti bk_Md_factOf 12 rfl
  have h := ifF c8 h
  by_cases c9 : v0 = (118 : Int32)
  · have h := ifT c9 h
    refine Go.t (Go_tsi dt_Md_factOf_1 (tsw_in c9 97 121 rfl).1 (tsw_in c9 97 121 rfl).2 (by rw [c9]; rfl) (tgt := 128) (by decide)) ?_
    have h := Option.some.inj h
    subst h
    refine Go.t (Go_sg bk_Md_factOf 13 1 (c2 := (some 130, [some (.int v0)], [.int (6 : Int32)], σ)) (ps := []) rfl trivial) ?_
    exact Go_reti bk_Md_factOf 14 rfl
  have h := ifF c9 h
  by_cases c10 : v0 = (120 : Int32)
  · have h := ifT c10 h
    refine Go.t (Go_tsi dt_Md_factOf_1 (tsw_in c10 97 121 rfl).1 (tsw_in c10 97 121 rfl).2 (by rw [c10]; rfl) (tgt := 122) (by decide)) ?_
    have h := Option.some.inj h
    subst h
    refine Go.t (Go_sg bk_Md_factOf 7 1 (c2 := (some 123, [some (.int v0)], [.int (3 : Int32)], σ)) (ps := []) rfl trivial) ?_
    exact Go_reti bk_Md_factOf 8 rfl
  have h := ifF c10 h
  by_cases c11 : v0 = (121 : Int32)
  · have h := ifT c11 h
    refine Go.t (Go_tsi dt_Md_factOf_1 (tsw_in c11 97 121 rfl).1 (tsw_in c11 97 121 rfl).2 (by rw [c11]; rfl) (tgt := 124) (by decide)) ?_
    have h := Option.some.inj h
    subst h
    refine Go.t (Go_sg bk_Md_factOf 9 1 (c2 := (some 125, [some (.int v0)], [.int (4 : Int32)], σ)) (ps := []) rfl trivial) ?_
    exact Go_reti bk_Md_factOf 10 rfl
  have h := ifF c11 h
  have hdf : Go m_Md_factOf 1 (some 1, [some (.int v0)], [.int v0], σ) (some 143, [some (.int v0)], [], σ) := by
    by_cases hlo : v0.toInt < 97
    · exact Go_tso dt_Md_factOf_1 (Or.inl hlo) (by decide)
    · by_cases hhi : 121 < v0.toInt
      · exact Go_tso dt_Md_factOf_1 (Or.inr hhi) (by decide)
      · have q := tsw_all v0 97 121 [97, 98, 99, 100, 101, 102, 103, 104, 105, 106, 107, 108, 109, 110, 111, 112, 113, 114, 115, 116, 117, 118, 119, 120, 121] (by decide) hlo hhi
        simp only [List.mem_cons, List.not_mem_nil, or_false] at q
        rcases q with q | q | q | q | q | q | q | q | q | q | q | q | q | q | q | q | q | q | q | q | q | q | q | q | q <;> first | contradiction | (refine Go_tsi dt_Md_factOf_1 (tsw_in q 97 121 rfl).1 (tsw_in q 97 121 rfl).2 (by rw [q]; rfl) (by decide))
  refine Go.t hdf ?_
  have h := Option.some.inj h
  subst h
  refine Go.t (Go_sg bk_Md_factOf 23 1 (c2 := (some 144, [some (.int v0)], [.int (-1 : Int32)], σ)) (ps := []) rfl trivial) ?_
  exact Go_reti bk_Md_factOf 24 rfl
def Md_factOf (v0 : Int32) (σ : MH) : Option (Int32) := Md_factOf0 v0 σ
set_option maxRecDepth 20000 in
set_option maxHeartbeats 2000000 in
theorem ev_Md_factOf (v0 : Int32)  (σ : MH) {o} (h : Md_factOf v0 σ = some o) : Ev m_Md_factOf 1 [.int v0] σ (some (.int o)) σ := Ev.of2 (by decide +kernel) rfl (Nat.le_of_ble_eq_true rfl) ⟨.int, rfl, rfl⟩ (t_Md_factOf0 v0 σ h)
def cH_Md_readsFactor_0  (s : MH) : MC := (some 0, [some (.ref 166), none], [], s)
def cR_Md_readsFactor_0  : ((MH) ⊕ (Int32 × MH)) → MC := (cS (fun r : MH => ((some 20, [some (.ref 166), none], [], r) : MC)) (fun r : Int32 × MH => ((none, [], [.int r.1], r.2) : MC)))
def Md_readsFactor_l0  (σ : MH) : Option (((MH) ⊕ ((MH) ⊕ (Int32 × MH)))) := (Md_here σ).bind fun x1 => if x1 = (91 : Int32) then ((Md_opens (14 : Int32) σ).bind fun (x4, σ5) => if x4 = (0 : Int32) then some (.inr (.inr ((0 : Int32), σ5))) else some (.inl (σ5))) else some (.inr (.inl (σ)))
set_option maxRecDepth 20000 in
set_option maxHeartbeats 2000000 in
theorem t_Md_readsFactor_l0   (σ : MH) {o} (h : Md_readsFactor_l0 σ = some o) : Go m_Md_readsFactor 4 (cH_Md_readsFactor_0  (σ)) (cS (cH_Md_readsFactor_0 ) (cR_Md_readsFactor_0 ) o) := by
  unfold Md_readsFactor_l0 at h
  unfold cH_Md_readsFactor_0
  refine Go.t (Go_sg bk_Md_readsFactor 0 1 (c2 := (some 1, [some (.ref 166), none], [.ref 166], σ)) (ps := []) rfl trivial) ?_
  obtain ⟨x1, q3, h⟩ := bdS h
  refine Go.t (Go_callV bk_Md_readsFactor 1 rfl nk_Md_here tw1417 tw1419 tw51 (ci := 11) rfl (as := []) (S := []) rfl rfl rfl rfl (Nat.le_of_ble_eq_true rfl) (Nat.le_of_ble_eq_true rfl) (ev_Md_here _ q3)) ?_
  refine Go.t (Go_sg bk_Md_readsFactor 2 1 (c2 := (some 6, [some (.ref 166), none], [.int (91 : Int32), .int x1], σ)) (ps := []) rfl trivial) ?_
  refine Go_icmp_ne bk_Md_readsFactor 3 rfl (fun c8 => ?_) (fun c8 => ?_)
  · have h := ifF c8 h
    have h := Option.some.inj h
    subst h
    exact Go.fg (LSub.cs (LSub.cn (LSub.nil)))
  · have h := ifT c8 h
    refine Go.t (Go_sg bk_Md_readsFactor 4 2 (c2 := (some 12, [some (.ref 166), none], [.int (14 : Int32), .ref 166], σ)) (ps := []) rfl trivial) ?_
    obtain ⟨⟨x4, σ5⟩, q6, h⟩ := bdS h
    dsimp only at h
    refine Go.t (Go_callV bk_Md_readsFactor 6 rfl nk_Md_opens tw1436 tw1438 tw55 (ci := 11) rfl (as := [.int (14 : Int32)]) (S := []) rfl rfl rfl rfl (Nat.le_of_ble_eq_true rfl) (Nat.le_of_ble_eq_true rfl) (ev_Md_opens _ _ q6)) ?_
    refine Go_if_ne bk_Md_readsFactor 7 rfl (fun c7 => ?_) (fun c7 => ?_)
    · have h := ifF c7 h
      have h := Option.some.inj h
      subst h
      exact Go.fg (LSub.cs (LSub.cn (LSub.nil)))
    · have h := ifT c7 h
      have h := Option.some.inj h
      subst h
      refine Go.t (Go_sg bk_Md_readsFactor 8 1 (c2 := (some 19, [some (.ref 166), none], [.int (0 : Int32)], σ5)) (ps := []) rfl trivial) ?_
      exact Go_reti bk_Md_readsFactor 9 rfl
def Md_readsFactor_L0  (s : MH) : Option ((MH) ⊕ (Int32 × MH)) := itr (fun s : MH => Md_readsFactor_l0 s) FU s
set_option maxRecDepth 20000 in
set_option maxHeartbeats 2000000 in
theorem t_Md_readsFactor_L0   (s : MH) {r} (h : Md_readsFactor_L0  s = some r) : Go m_Md_readsFactor 4 (cH_Md_readsFactor_0  s) (cR_Md_readsFactor_0  r) := Go_itr (fun s o ho => t_Md_readsFactor_l0 s ho) FU s r h
def Md_readsFactor0  (σ : MH) : Option (Int32 × MH) := (Md_readsFactor_L0 (σ)).bind fun z9 => (match z9 with | .inl z9a => (Md_isDigit z9a).bind fun x11 => if x11 = (0 : Int32) then ((Md_here z9a).bind fun x14 => (Md_factOf x14 z9a).bind fun x17 => if x17 = (-1 : Int32) then ((Md_wrongAt (1 : Int32) (z9a.1 166 5) z9a).bind fun (x23, σ24) => some (x23, σ24)) else ((Md_notes (1 : Int32) x17 z9a).bind fun σ21 => some ((1 : Int32), sI σ21 166 5 ((σ21.1 166 5) + (1 : Int32))))) else ((Md_readsNumber z9a).bind fun (x27, σ28) => if x27 = (0 : Int32) then some ((0 : Int32), σ28) else ((Md_notes (0 : Int32) (σ28.1 166 8) σ28).bind fun σ31 => some ((1 : Int32), σ31))) | .inr z9b => some (z9b.1, z9b.2))
set_option maxRecDepth 20000 in
set_option maxHeartbeats 2000000 in
theorem t_Md_readsFactor0   (σ : MH) {o} (h : Md_readsFactor0 σ = some o) : Go m_Md_readsFactor 4 (some 0, [some (.ref 166), none], [], σ) ((none, [], [.int o.1], o.2)) := by
  unfold Md_readsFactor0 at h
  obtain ⟨z9, q10, h⟩ := bdS h
  refine Go.t (Go.t (Go.fg (LSub.cs (LSub.cn (LSub.nil)))) (t_Md_readsFactor_L0 _ q10)) ?_
  rcases z9 with z9a | z9b
  · dsimp only at h
    refine Go.t (Go_sg bk_Md_readsFactor 10 1 (c2 := (some 21, [some (.ref 166), none], [.ref 166], z9a)) (ps := []) rfl trivial) ?_
    obtain ⟨x11, q13, h⟩ := bdS h
    refine Go.t (Go_callV bk_Md_readsFactor 11 rfl nk_Md_isDigit tw1441 tw1443 tw56 (ci := 11) rfl (as := []) (S := []) rfl rfl rfl rfl (Nat.le_of_ble_eq_true rfl) (Nat.le_of_ble_eq_true rfl) (ev_Md_isDigit _ q13)) ?_
    refine Go_if_eq bk_Md_readsFactor 12 rfl (fun c34 => ?_) (fun c34 => ?_)
    · have h := ifT c34 h
      refine Go.t (Go_sg bk_Md_readsFactor 25 1 (c2 := (some 48, [some (.ref 166), none], [.ref 166], z9a)) (ps := []) rfl trivial) ?_
      obtain ⟨x14, q16, h⟩ := bdS h
      refine Go.t (Go_callV bk_Md_readsFactor 26 rfl nk_Md_here tw1417 tw1419 tw51 (ci := 11) rfl (as := []) (S := []) rfl rfl rfl rfl (Nat.le_of_ble_eq_true rfl) (Nat.le_of_ble_eq_true rfl) (ev_Md_here _ q16)) ?_
      obtain ⟨x17, q19, h⟩ := bdS h
      refine Go.t (Go_callS bk_Md_readsFactor 27 rfl nk_Md_factOf tw1453 tw1454 (as := [.int x14]) (S := []) rfl rfl rfl (Nat.le_of_ble_eq_true rfl) (Nat.le_of_ble_eq_true rfl) (ev_Md_factOf _ _ q19)) ?_
      refine Go.t (Go_sg bk_Md_readsFactor 28 3 (c2 := (some 57, [some (.ref 166), some (.int x17)], [.int (-1 : Int32), .int x17], z9a)) (ps := []) rfl trivial) ?_
      refine Go_icmp_ne bk_Md_readsFactor 31 rfl (fun c26 => ?_) (fun c26 => ?_)
      · have h := ifF c26 h
        refine Go.t (Go_sg bk_Md_readsFactor 38 3 (c2 := (some 73, [some (.ref 166), some (.int x17)], [.int x17, .int (1 : Int32), .ref 166], z9a)) (ps := []) rfl trivial) ?_
        obtain ⟨σ21, q22, h⟩ := bdS h
        refine Go.t (Go_callV bk_Md_readsFactor 41 rfl nk_Md_notes tw1449 tw1451 tw58 (ci := 11) rfl (as := [.int (1 : Int32), .int x17]) (S := []) rfl rfl rfl rfl (Nat.le_of_ble_eq_true rfl) (Nat.le_of_ble_eq_true rfl) (ev_Md_notes _ _ _ q22)) ?_
        have h := Option.some.inj h
        subst h
        refine Go.t (Go_sg bk_Md_readsFactor 42 7 (c2 := (some 87, [some (.ref 166), some (.int x17)], [.int (1 : Int32)], sI σ21 166 5 ((σ21.1 166 5) + (1 : Int32)))) (ps := [shk 166 = 11, shk 166 = 11]) rfl ⟨rfl, rfl, trivial⟩) ?_
        exact Go_reti bk_Md_readsFactor 49 rfl
      · have h := ifT c26 h
        refine Go.t (Go_sg bk_Md_readsFactor 32 4 (c2 := (some 66, [some (.ref 166), some (.int x17)], [.int (z9a.1 166 5), .int (1 : Int32), .ref 166], z9a)) (ps := [shk 166 = 11]) rfl ⟨rfl, trivial⟩) ?_
        obtain ⟨⟨x23, σ24⟩, q25, h⟩ := bdS h
        dsimp only at h
        refine Go.t (Go_callV bk_Md_readsFactor 36 rfl nk_Md_wrongAt tw1424 tw1426 tw52 (ci := 11) rfl (as := [.int (1 : Int32), .int (z9a.1 166 5)]) (S := []) rfl rfl rfl rfl (Nat.le_of_ble_eq_true rfl) (Nat.le_of_ble_eq_true rfl) (ev_Md_wrongAt _ _ _ q25)) ?_
        have h := Option.some.inj h
        subst h
        exact Go_reti bk_Md_readsFactor 37 rfl
    · have h := ifF c34 h
      refine Go.t (Go_sg bk_Md_readsFactor 13 1 (c2 := (some 28, [some (.ref 166), none], [.ref 166], z9a)) (ps := []) rfl trivial) ?_
      obtain ⟨⟨x27, σ28⟩, q29, h⟩ := bdS h
      dsimp only at h
      refine Go.t (Go_callV bk_Md_readsFactor 14 rfl nk_Md_readsNumber tw1445 tw1447 tw57 (ci := 11) rfl (as := []) (S := []) rfl rfl rfl rfl (Nat.le_of_ble_eq_true rfl) (Nat.le_of_ble_eq_true rfl) (ev_Md_readsNumber _ q29)) ?_
      refine Go_if_ne bk_Md_readsFactor 15 rfl (fun c33 => ?_) (fun c33 => ?_)
      · have h := ifF c33 h
        refine Go.t (Go_sg bk_Md_readsFactor 18 4 (c2 := (some 42, [some (.ref 166), none], [.int (σ28.1 166 8), .int (0 : Int32), .ref 166], σ28)) (ps := [shk 166 = 11]) rfl ⟨rfl, trivial⟩) ?_
        obtain ⟨σ31, q32, h⟩ := bdS h
        refine Go.t (Go_callV bk_Md_readsFactor 22 rfl nk_Md_notes tw1449 tw1451 tw58 (ci := 11) rfl (as := [.int (0 : Int32), .int (σ28.1 166 8)]) (S := []) rfl rfl rfl rfl (Nat.le_of_ble_eq_true rfl) (Nat.le_of_ble_eq_true rfl) (ev_Md_notes _ _ _ q32)) ?_
        have h := Option.some.inj h
        subst h
        refine Go.t (Go_sg bk_Md_readsFactor 23 1 (c2 := (some 46, [some (.ref 166), none], [.int (1 : Int32)], σ31)) (ps := []) rfl trivial) ?_
        exact Go_reti bk_Md_readsFactor 24 rfl
      · have h := ifT c33 h
        have h := Option.some.inj h
        subst h
        refine Go.t (Go_sg bk_Md_readsFactor 16 1 (c2 := (some 35, [some (.ref 166), none], [.int (0 : Int32)], σ28)) (ps := []) rfl trivial) ?_
        exact Go_reti bk_Md_readsFactor 17 rfl
  · dsimp only at h
    have h := Option.some.inj h
    subst h
    exact Go.rf
def Md_readsFactor  (σ : MH) : Option (Int32 × MH) := bzo (Md_readsFactor0 σ)
set_option maxRecDepth 20000 in
set_option maxHeartbeats 2000000 in
theorem ev_Md_readsFactor   (σ : MH) {o} (h : Md_readsFactor σ = some o) : Ev m_Md_readsFactor 4 [.ref 166] σ (some (.int o.1)) o.2 := Ev.of2 (by decide +kernel) rfl (Nat.le_of_ble_eq_true rfl) ⟨.boolean, rfl, nrB (bzo2 h)⟩ (t_Md_readsFactor0 σ (bzo1 h))
def Md_sumSign0 (v0 : Int32) (σ : MH) : Option (Int32) := if v0 = (43 : Int32) then some ((2 : Int32)) else (if v0 = (45 : Int32) then some ((3 : Int32)) else (if v0 = (42 : Int32) then some ((4 : Int32)) else (if v0 = (47 : Int32) then some ((5 : Int32)) else (if v0 = (37 : Int32) then some ((6 : Int32)) else some ((-1 : Int32))))))
set_option maxRecDepth 20000 in
set_option maxHeartbeats 2000000 in
theorem t_Md_sumSign0 (v0 : Int32)  (σ : MH) {o} (h : Md_sumSign0 v0 σ = some o) : Go m_Md_sumSign 1 (some 0, [some (.int v0)], [], σ) ((none, [], [.int o], σ)) := by
  unfold Md_sumSign0 at h
  refine Go.t (Go_sg bk_Md_sumSign 0 2 (c2 := (some 3, [some (.int v0)], [.int (43 : Int32), .int v0], σ)) (ps := []) rfl trivial) ?_
  refine Go_icmp_ne bk_Md_sumSign 2 rfl (fun c5 => ?_) (fun c5 => ?_)
  · have h := ifF c5 h
    refine Go.t (Go_sg bk_Md_sumSign 5 2 (c2 := (some 13, [some (.int v0)], [.int (45 : Int32), .int v0], σ)) (ps := []) rfl trivial) ?_
    refine Go_icmp_ne bk_Md_sumSign 7 rfl (fun c4 => ?_) (fun c4 => ?_)
    · have h := ifF c4 h
      refine Go.t (Go_sg bk_Md_sumSign 10 2 (c2 := (some 23, [some (.int v0)], [.int (42 : Int32), .int v0], σ)) (ps := []) rfl trivial) ?_
      refine Go_icmp_ne bk_Md_sumSign 12 rfl (fun c3 => ?_) (fun c3 => ?_)
      · have h := ifF c3 h
        refine Go.t (Go_sg bk_Md_sumSign 15 2 (c2 := (some 33, [some (.int v0)], [.int (47 : Int32), .int v0], σ)) (ps := []) rfl trivial) ?_
        refine Go_icmp_ne bk_Md_sumSign 17 rfl (fun c2 => ?_) (fun c2 => ?_)
        · have h := ifF c2 h
          refine Go.t (Go_sg bk_Md_sumSign 20 2 (c2 := (some 43, [some (.int v0)], [.int (37 : Int32), .int v0], σ)) (ps := []) rfl trivial) ?_
          refine Go_icmp_ne bk_Md_sumSign 22 rfl (fun c1 => ?_) (fun c1 => ?_)
          · have h := ifF c1 h
            have h := Option.some.inj h
            subst h
            refine Go.t (Go_sg bk_Md_sumSign 25 1 (c2 := (some 52, [some (.int v0)], [.int (-1 : Int32)], σ)) (ps := []) rfl trivial) ?_
            exact Go_reti bk_Md_sumSign 26 rfl
          · have h := ifT c1 h
            refine Go.t (Go_sg bk_Md_sumSign 23 2 (c2 := (some 52, [some (.int v0)], [.int (6 : Int32)], σ)) (ps := []) rfl trivial) ?_
            have h := Option.some.inj h
            subst h
            exact Go_reti bk_Md_sumSign 26 rfl
        · have h := ifT c2 h
          refine Go.t (Go_sg bk_Md_sumSign 18 2 (c2 := (some 52, [some (.int v0)], [.int (5 : Int32)], σ)) (ps := []) rfl trivial) ?_
          have h := Option.some.inj h
          subst h
          exact Go_reti bk_Md_sumSign 26 rfl
      · have h := ifT c3 h
        refine Go.t (Go_sg bk_Md_sumSign 13 2 (c2 := (some 52, [some (.int v0)], [.int (4 : Int32)], σ)) (ps := []) rfl trivial) ?_
        have h := Option.some.inj h
        subst h
        exact Go_reti bk_Md_sumSign 26 rfl
    · have h := ifT c4 h
      refine Go.t (Go_sg bk_Md_sumSign 8 2 (c2 := (some 52, [some (.int v0)], [.int (3 : Int32)], σ)) (ps := []) rfl trivial) ?_
      have h := Option.some.inj h
      subst h
      exact Go_reti bk_Md_sumSign 26 rfl
  · have h := ifT c5 h
    refine Go.t (Go_sg bk_Md_sumSign 3 2 (c2 := (some 52, [some (.int v0)], [.int (2 : Int32)], σ)) (ps := []) rfl trivial) ?_
    have h := Option.some.inj h
    subst h
    exact Go_reti bk_Md_sumSign 26 rfl
def Md_sumSign (v0 : Int32) (σ : MH) : Option (Int32) := Md_sumSign0 v0 σ
set_option maxRecDepth 20000 in
set_option maxHeartbeats 2000000 in
theorem ev_Md_sumSign (v0 : Int32)  (σ : MH) {o} (h : Md_sumSign v0 σ = some o) : Ev m_Md_sumSign 1 [.int v0] σ (some (.int o)) σ := Ev.of2 (by decide +kernel) rfl (Nat.le_of_ble_eq_true rfl) ⟨.int, rfl, rfl⟩ (t_Md_sumSign0 v0 σ h)
def Md_waitTop0  (σ : MH) : Option (Int32) := if σ.1 166 11 = (0 : Int32) then some ((-1 : Int32)) else (if inb ((σ.1 166 11) - (1 : Int32)) 260 = true then some ((σ.1 172 ((σ.1 166 11) - (1 : Int32)).toNatClampNeg) / (1048576 : Int32)) else none)
set_option maxRecDepth 20000 in
set_option maxHeartbeats 2000000 in
theorem t_Md_waitTop0   (σ : MH) {o} (h : Md_waitTop0 σ = some o) : Go m_Md_waitTop 1 (some 0, [some (.ref 166)], [], σ) ((none, [], [.int o], σ)) := by
  unfold Md_waitTop0 at h
  refine Go.t (Go_sg bk_Md_waitTop 0 2 (c2 := (some 4, [some (.ref 166)], [.int (σ.1 166 11)], σ)) (ps := [shk 166 = 11]) rfl ⟨rfl, trivial⟩) ?_
  refine Go_if_ne bk_Md_waitTop 2 rfl (fun c2 => ?_) (fun c2 => ?_)
  · have h := ifF c2 h
    obtain ⟨g1, h⟩ := gdS h
    have h := Option.some.inj h
    subst h
    refine Go.t (Go_sg bk_Md_waitTop 5 9 (c2 := (some 25, [some (.ref 166)], [.int ((σ.1 172 ((σ.1 166 11) - (1 : Int32)).toNatClampNeg) / (1048576 : Int32))], σ)) (ps := [shk 166 = 11, shk 166 = 11, IA 172 260 ∧ inb ((σ.1 166 11) - (1 : Int32)) 260 = true, (1048576 : Int32) ≠ 0]) rfl ⟨rfl, rfl, ⟨⟨rfl, rfl⟩, g1⟩, (by decide), trivial⟩) ?_
    exact Go_reti bk_Md_waitTop 14 rfl
  · have h := ifT c2 h
    refine Go.t (Go_sg bk_Md_waitTop 3 2 (c2 := (some 25, [some (.ref 166)], [.int (-1 : Int32)], σ)) (ps := []) rfl trivial) ?_
    have h := Option.some.inj h
    subst h
    exact Go_reti bk_Md_waitTop 14 rfl
def Md_waitTop  (σ : MH) : Option (Int32) := Md_waitTop0 σ
set_option maxRecDepth 20000 in
set_option maxHeartbeats 2000000 in
theorem ev_Md_waitTop   (σ : MH) {o} (h : Md_waitTop σ = some o) : Ev m_Md_waitTop 1 [.ref 166] σ (some (.int o)) σ := Ev.of2 (by decide +kernel) rfl (Nat.le_of_ble_eq_true rfl) ⟨.int, rfl, rfl⟩ (t_Md_waitTop0 σ h)
def cH_Md_closesSums_0 (v1 : Int32) (s : MH) : MC := (some 0, [some (.ref 166), some (.int v1)], [], s)
def cR_Md_closesSums_0 (v1 : Int32) : ((MH)) → MC := (fun r : MH => ((none, [], [], r) : MC))
def Md_closesSums_b37 (v1 : Int32) (σ : MH) : Option (((MH) ⊕ ((MH)))) := (Md_waitTop σ).bind fun x7 => (Md_notes x7 (0 : Int32) σ).bind fun σ11 => some (.inl (sI σ11 166 11 ((σ11.1 166 11) - (1 : Int32))))
set_option maxRecDepth 20000 in
set_option maxHeartbeats 2000000 in
theorem t_Md_closesSums_b37 (v1 : Int32)   (σ : MH) {o} (h : Md_closesSums_b37 v1 σ = some o) : Go m_Md_closesSums 2 (some 37, [some (.ref 166), some (.int v1)], [], σ) (cS (cH_Md_closesSums_0 v1) (cR_Md_closesSums_0 v1) o) := by
  unfold Md_closesSums_b37 at h
  refine Go.t (Go_sg bk_Md_closesSums 18 2 (c2 := (some 39, [some (.ref 166), some (.int v1)], [.ref 166, .ref 166], σ)) (ps := []) rfl trivial) ?_
  obtain ⟨x7, q9, h⟩ := bdS h
  refine Go.t (Go_callV bk_Md_closesSums 20 rfl nk_Md_waitTop tw1463 tw1465 tw60 (ci := 11) rfl (as := []) (S := [.ref 166]) rfl rfl rfl rfl (Nat.le_of_ble_eq_true rfl) (Nat.le_of_ble_eq_true rfl) (ev_Md_waitTop _ q9)) ?_
  refine Go.t (Go_sg bk_Md_closesSums 21 1 (c2 := (some 43, [some (.ref 166), some (.int v1)], [.int (0 : Int32), .int x7, .ref 166], σ)) (ps := []) rfl trivial) ?_
  obtain ⟨σ11, q12, h⟩ := bdS h
  refine Go.t (Go_callV bk_Md_closesSums 22 rfl nk_Md_notes tw1449 tw1451 tw58 (ci := 11) rfl (as := [.int x7, .int (0 : Int32)]) (S := []) rfl rfl rfl rfl (Nat.le_of_ble_eq_true rfl) (Nat.le_of_ble_eq_true rfl) (ev_Md_notes _ _ _ q12)) ?_
  refine Go.t (Go_sg bk_Md_closesSums 23 7 (c2 := (some 0, [some (.ref 166), some (.int v1)], [], sI σ11 166 11 ((σ11.1 166 11) - (1 : Int32)))) (ps := [shk 166 = 11, shk 166 = 11]) rfl ⟨rfl, rfl, trivial⟩) ?_
  have h := Option.some.inj h
  subst h
  exact Go.fg (LSub.cs (LSub.cs (LSub.nil)))
def Md_closesSums_b17 (v1 : Int32) (σ : MH) : Option (((MH) ⊕ ((MH)))) := if v1 = (0 : Int32) then some (.inr (σ)) else ((Md_waitTop σ).bind fun x4 => if x4 = (2 : Int32) then (Md_closesSums_b37 v1 σ) else ((Md_waitTop σ).bind fun x13 => if x13 = (3 : Int32) then (Md_closesSums_b37 v1 σ) else some (.inr (σ))))
set_option maxRecDepth 20000 in
set_option maxHeartbeats 2000000 in
theorem t_Md_closesSums_b17 (v1 : Int32)   (σ : MH) {o} (h : Md_closesSums_b17 v1 σ = some o) : Go m_Md_closesSums 2 (some 17, [some (.ref 166), some (.int v1)], [], σ) (cS (cH_Md_closesSums_0 v1) (cR_Md_closesSums_0 v1) o) := by
  unfold Md_closesSums_b17 at h
  refine Go.t (Go_sg bk_Md_closesSums 8 1 (c2 := (some 18, [some (.ref 166), some (.int v1)], [.int v1], σ)) (ps := []) rfl trivial) ?_
  refine Go_if_eq bk_Md_closesSums 9 rfl (fun c18 => ?_) (fun c18 => ?_)
  · have h := ifT c18 h
    have h := Option.some.inj h
    subst h
    exact Go_ret0 bk_Md_closesSums 30 rfl
  · have h := ifF c18 h
    refine Go.t (Go_sg bk_Md_closesSums 10 1 (c2 := (some 22, [some (.ref 166), some (.int v1)], [.ref 166], σ)) (ps := []) rfl trivial) ?_
    obtain ⟨x4, q6, h⟩ := bdS h
    refine Go.t (Go_callV bk_Md_closesSums 11 rfl nk_Md_waitTop tw1463 tw1465 tw60 (ci := 11) rfl (as := []) (S := []) rfl rfl rfl rfl (Nat.le_of_ble_eq_true rfl) (Nat.le_of_ble_eq_true rfl) (ev_Md_waitTop _ q6)) ?_
    refine Go.t (Go_sg bk_Md_closesSums 12 1 (c2 := (some 26, [some (.ref 166), some (.int v1)], [.int (2 : Int32), .int x4], σ)) (ps := []) rfl trivial) ?_
    refine Go_icmp_eq bk_Md_closesSums 13 rfl (fun c17 => ?_) (fun c17 => ?_)
    · have h := ifT c17 h
      exact Go.t (Go.fg (LSub.cs (LSub.cs (LSub.nil)))) (t_Md_closesSums_b37 v1 σ h)
    · have h := ifF c17 h
      refine Go.t (Go_sg bk_Md_closesSums 14 1 (c2 := (some 30, [some (.ref 166), some (.int v1)], [.ref 166], σ)) (ps := []) rfl trivial) ?_
      obtain ⟨x13, q15, h⟩ := bdS h
      refine Go.t (Go_callV bk_Md_closesSums 15 rfl nk_Md_waitTop tw1463 tw1465 tw60 (ci := 11) rfl (as := []) (S := []) rfl rfl rfl rfl (Nat.le_of_ble_eq_true rfl) (Nat.le_of_ble_eq_true rfl) (ev_Md_waitTop _ q15)) ?_
      refine Go.t (Go_sg bk_Md_closesSums 16 1 (c2 := (some 34, [some (.ref 166), some (.int v1)], [.int (3 : Int32), .int x13], σ)) (ps := []) rfl trivial) ?_
      refine Go_icmp_ne bk_Md_closesSums 17 rfl (fun c16 => ?_) (fun c16 => ?_)
      · have h := ifF c16 h
        have h := Option.some.inj h
        subst h
        exact Go_ret0 bk_Md_closesSums 30 rfl
      · have h := ifT c16 h
        exact Go.t (Go.fg (LSub.cs (LSub.cs (LSub.nil)))) (t_Md_closesSums_b37 v1 σ h)
def Md_closesSums_l0 (v1 : Int32) (σ : MH) : Option (((MH) ⊕ ((MH)))) := (Md_waitTop σ).bind fun x1 => if x1 < (4 : Int32) then (Md_closesSums_b17 v1 σ) else ((Md_waitTop σ).bind fun x19 => if x19 ≤ (6 : Int32) then (Md_closesSums_b37 v1 σ) else (Md_closesSums_b17 v1 σ))
set_option maxRecDepth 20000 in
set_option maxHeartbeats 2000000 in
theorem t_Md_closesSums_l0 (v1 : Int32)  (σ : MH) {o} (h : Md_closesSums_l0 v1 σ = some o) : Go m_Md_closesSums 2 (cH_Md_closesSums_0 v1 (σ)) (cS (cH_Md_closesSums_0 v1) (cR_Md_closesSums_0 v1) o) := by
  unfold Md_closesSums_l0 at h
  unfold cH_Md_closesSums_0
  refine Go.t (Go_sg bk_Md_closesSums 0 1 (c2 := (some 1, [some (.ref 166), some (.int v1)], [.ref 166], σ)) (ps := []) rfl trivial) ?_
  obtain ⟨x1, q3, h⟩ := bdS h
  refine Go.t (Go_callV bk_Md_closesSums 1 rfl nk_Md_waitTop tw1463 tw1465 tw60 (ci := 11) rfl (as := []) (S := []) rfl rfl rfl rfl (Nat.le_of_ble_eq_true rfl) (Nat.le_of_ble_eq_true rfl) (ev_Md_waitTop _ q3)) ?_
  refine Go.t (Go_sg bk_Md_closesSums 2 1 (c2 := (some 5, [some (.ref 166), some (.int v1)], [.int (4 : Int32), .int x1], σ)) (ps := []) rfl trivial) ?_
  refine Go_icmp_lt bk_Md_closesSums 3 rfl (fun c23 => ?_) (fun c23 => ?_)
  · have h := ifT c23 h
    exact Go.t (Go.fg (LSub.cs (LSub.cs (LSub.nil)))) (t_Md_closesSums_b17 v1 σ h)
  · have h := ifF c23 h
    refine Go.t (Go_sg bk_Md_closesSums 4 1 (c2 := (some 9, [some (.ref 166), some (.int v1)], [.ref 166], σ)) (ps := []) rfl trivial) ?_
    obtain ⟨x19, q21, h⟩ := bdS h
    refine Go.t (Go_callV bk_Md_closesSums 5 rfl nk_Md_waitTop tw1463 tw1465 tw60 (ci := 11) rfl (as := []) (S := []) rfl rfl rfl rfl (Nat.le_of_ble_eq_true rfl) (Nat.le_of_ble_eq_true rfl) (ev_Md_waitTop _ q21)) ?_
    refine Go.t (Go_sg bk_Md_closesSums 6 1 (c2 := (some 14, [some (.ref 166), some (.int v1)], [.int (6 : Int32), .int x19], σ)) (ps := []) rfl trivial) ?_
    refine Go_icmp_le bk_Md_closesSums 7 rfl (fun c22 => ?_) (fun c22 => ?_)
    · have h := ifT c22 h
      exact Go.t (Go.fg (LSub.cs (LSub.cs (LSub.nil)))) (t_Md_closesSums_b37 v1 σ h)
    · have h := ifF c22 h
      exact Go.t (Go.fg (LSub.cs (LSub.cs (LSub.nil)))) (t_Md_closesSums_b17 v1 σ h)
def Md_closesSums_L0 (v1 : Int32) (s : MH) : Option ((MH)) := itr (fun s : MH => Md_closesSums_l0 v1 s) FU s
set_option maxRecDepth 20000 in
set_option maxHeartbeats 2000000 in
theorem t_Md_closesSums_L0 (v1 : Int32)  (s : MH) {r} (h : Md_closesSums_L0 v1 s = some r) : Go m_Md_closesSums 2 (cH_Md_closesSums_0 v1 s) (cR_Md_closesSums_0 v1 r) := Go_itr (fun s o ho => t_Md_closesSums_l0 v1 s ho) FU s r h
def Md_closesSums0 (v1 : Int32) (σ : MH) : Option (MH) := (Md_closesSums_L0 v1 (σ)).bind fun z24 => some (z24)
set_option maxRecDepth 20000 in
set_option maxHeartbeats 2000000 in
theorem t_Md_closesSums0 (v1 : Int32)  (σ : MH) {o} (h : Md_closesSums0 v1 σ = some o) : Go m_Md_closesSums 2 (some 0, [some (.ref 166), some (.int v1)], [], σ) ((none, [], [], o)) := by
  unfold Md_closesSums0 at h
  obtain ⟨z24, q25, h⟩ := bdS h
  refine Go.t (Go.t (Go.fg (LSub.cs (LSub.cs (LSub.nil)))) (t_Md_closesSums_L0 v1 _ q25)) ?_
  have h := Option.some.inj h
  subst h
  exact Go.rf
def Md_closesSums (v1 : Int32) (σ : MH) : Option (MH) := Md_closesSums0 v1 σ
set_option maxRecDepth 20000 in
set_option maxHeartbeats 2000000 in
theorem ev_Md_closesSums (v1 : Int32)  (σ : MH) {o} (h : Md_closesSums v1 σ = some o) : Ev m_Md_closesSums 2 [.ref 166, .int v1] σ none o := Ev.of2 (by decide +kernel) rfl (Nat.le_of_ble_eq_true rfl) rfl (t_Md_closesSums0 v1 σ h)
def cH_Md_hasOpenSum_2  (σ : MH) (s : Int32) : MC := (some 2, [some (.ref 166), none, some (.int s)], [], σ)
def cR_Md_hasOpenSum_2  (σ : MH) : ((Int32)) → MC := (fun r : Int32 => ((none, [], [.int r], σ) : MC))
def Md_hasOpenSum_l2 (v2 : Int32) (σ : MH) : Option (((Int32) ⊕ ((Int32)))) := if σ.1 166 11 ≤ v2 then some (.inr ((0 : Int32))) else (if inb v2 260 = true then if (σ.1 172 v2.toNatClampNeg) / (1048576 : Int32) = (14 : Int32) then some (.inr ((1 : Int32))) else some (.inl (v2 + (1 : Int32))) else none)
set_option maxRecDepth 20000 in
set_option maxHeartbeats 2000000 in
theorem t_Md_hasOpenSum_l2 (v2 : Int32)  (σ : MH) {o} (h : Md_hasOpenSum_l2 v2 σ = some o) : Go m_Md_hasOpenSum 1 (cH_Md_hasOpenSum_2 σ (v2)) (cS (cH_Md_hasOpenSum_2  σ) (cR_Md_hasOpenSum_2  σ) o) := by
  unfold Md_hasOpenSum_l2 at h
  unfold cH_Md_hasOpenSum_2
  refine Go.t (Go_sg bk_Md_hasOpenSum 2 3 (c2 := (some 7, [some (.ref 166), none, some (.int v2)], [.int (σ.1 166 11), .int v2], σ)) (ps := [shk 166 = 11]) rfl ⟨rfl, trivial⟩) ?_
  refine Go_icmp_ge bk_Md_hasOpenSum 5 rfl (fun c3 => ?_) (fun c3 => ?_)
  · have h := ifT c3 h
    have h := Option.some.inj h
    subst h
    refine Go.t (Go_sg bk_Md_hasOpenSum 18 1 (c2 := (some 33, [some (.ref 166), none, some (.int v2)], [.int (0 : Int32)], σ)) (ps := []) rfl trivial) ?_
    exact Go_reti bk_Md_hasOpenSum 19 rfl
  · have h := ifF c3 h
    obtain ⟨g1, h⟩ := gdS h
    refine Go.t (Go_sg bk_Md_hasOpenSum 6 7 (c2 := (some 21, [some (.ref 166), none, some (.int v2)], [.int (14 : Int32), .int ((σ.1 172 v2.toNatClampNeg) / (1048576 : Int32))], σ)) (ps := [shk 166 = 11, IA 172 260 ∧ inb v2 260 = true, (1048576 : Int32) ≠ 0]) rfl ⟨rfl, ⟨⟨rfl, rfl⟩, g1⟩, (by decide), trivial⟩) ?_
    refine Go_icmp_ne bk_Md_hasOpenSum 13 rfl (fun c2 => ?_) (fun c2 => ?_)
    · have h := ifF c2 h
      refine Go.t (Go_sg bk_Md_hasOpenSum 16 2 (c2 := (some 2, [some (.ref 166), none, some (.int (v2 + (1 : Int32)))], [], σ)) (ps := []) rfl trivial) ?_
      have h := Option.some.inj h
      subst h
      exact Go.fg (LSub.cs (LSub.cn (LSub.cs (LSub.nil))))
    · have h := ifT c2 h
      have h := Option.some.inj h
      subst h
      refine Go.t (Go_sg bk_Md_hasOpenSum 14 1 (c2 := (some 25, [some (.ref 166), none, some (.int v2)], [.int (1 : Int32)], σ)) (ps := []) rfl trivial) ?_
      exact Go_reti bk_Md_hasOpenSum 15 rfl
def Md_hasOpenSum_L2  (σ : MH) (s : Int32) : Option ((Int32)) := itr (fun s : Int32 => Md_hasOpenSum_l2 s σ) FU s
set_option maxRecDepth 20000 in
set_option maxHeartbeats 2000000 in
theorem t_Md_hasOpenSum_L2   (σ : MH) (s : Int32) {r} (h : Md_hasOpenSum_L2 σ s = some r) : Go m_Md_hasOpenSum 1 (cH_Md_hasOpenSum_2 σ s) (cR_Md_hasOpenSum_2 σ r) := Go_itr (fun s o ho => t_Md_hasOpenSum_l2 s σ ho) FU s r h
def Md_hasOpenSum0 (v1 : Int32) (σ : MH) : Option (Int32) := (Md_hasOpenSum_L2 σ (v1)).bind fun z4 => some (z4)
set_option maxRecDepth 20000 in
set_option maxHeartbeats 2000000 in
theorem t_Md_hasOpenSum0 (v1 : Int32)  (σ : MH) {o} (h : Md_hasOpenSum0 v1 σ = some o) : Go m_Md_hasOpenSum 1 (some 0, [some (.ref 166), some (.int v1), none], [], σ) ((none, [], [.int o], σ)) := by
  unfold Md_hasOpenSum0 at h
  refine Go.t (Go_sg bk_Md_hasOpenSum 0 2 (c2 := (some 2, [some (.ref 166), some (.int v1), some (.int v1)], [], σ)) (ps := []) rfl trivial) ?_
  obtain ⟨z4, q5, h⟩ := bdS h
  refine Go.t (Go.t (Go.fg (LSub.cs (LSub.cn (LSub.cs (LSub.nil))))) (t_Md_hasOpenSum_L2 σ _ q5)) ?_
  have h := Option.some.inj h
  subst h
  exact Go.rf
def Md_hasOpenSum (v1 : Int32) (σ : MH) : Option (Int32) := bzp (Md_hasOpenSum0 v1 σ)
set_option maxRecDepth 20000 in
set_option maxHeartbeats 2000000 in
theorem ev_Md_hasOpenSum (v1 : Int32)  (σ : MH) {o} (h : Md_hasOpenSum v1 σ = some o) : Ev m_Md_hasOpenSum 1 [.ref 166, .int v1] σ (some (.int o)) σ := Ev.of2 (by decide +kernel) rfl (Nat.le_of_ble_eq_true rfl) ⟨.boolean, rfl, nrB (bzp2 h)⟩ (t_Md_hasOpenSum0 v1 σ (bzp1 h))
def cH_Md_readsSum_14 (v1 : Int32) (s : MH) : MC := (some 14, [some (.ref 166), some (.int v1), none], [], s)
def cR_Md_readsSum_14 (v1 : Int32) : ((MH) ⊕ (Int32 × MH)) → MC := (cS (fun r : MH => ((some 138, [some (.ref 166), some (.int v1), none], [], r) : MC)) (fun r : Int32 × MH => ((none, [], [.int r.1], r.2) : MC)))
def Md_readsSum_b163 (v1 : Int32) (σ : MH) : Option (((MH) ⊕ ((MH) ⊕ (Int32 × MH)))) := some (.inl (σ))
set_option maxRecDepth 20000 in
set_option maxHeartbeats 2000000 in
theorem t_Md_readsSum_b163 (v1 : Int32)   (σ : MH) {o} (h : Md_readsSum_b163 v1 σ = some o) : Go m_Md_readsSum 5 (some 163, [some (.ref 166), some (.int v1), none], [], σ) (cS (cH_Md_readsSum_14 v1) (cR_Md_readsSum_14 v1) o) := by
  unfold Md_readsSum_b163 at h
  refine Go.t (Go_sg bk_Md_readsSum 93 1 (c2 := (some 14, [some (.ref 166), some (.int v1), none], [], σ)) (ps := []) rfl trivial) ?_
  have h := Option.some.inj h
  subst h
  exact Go.fg (LSub.cs (LSub.cs (LSub.cn (LSub.nil))))
def Md_readsSum_b38 (v1 : Int32) (v2 : Int32) (s0 : Int32) (σ : MH) : Option (((MH) ⊕ ((MH) ⊕ (Int32 × MH)))) := (Md_closesSums s0 σ).bind fun σ22 => if inb (σ22.1 166 11) 260 = true then (Md_readsFactor (sI (sI (sI σ22 172 (σ22.1 166 11).toNatClampNeg ((1048576 : Int32) * v2)) 166 11 (((sI σ22 172 (σ22.1 166 11).toNatClampNeg ((1048576 : Int32) * v2)).1 166 11) + (1 : Int32))) 166 5 (((sI (sI σ22 172 (σ22.1 166 11).toNatClampNeg ((1048576 : Int32) * v2)) 166 11 (((sI σ22 172 (σ22.1 166 11).toNatClampNeg ((1048576 : Int32) * v2)).1 166 11) + (1 : Int32))).1 166 5) + (1 : Int32)))).bind fun (x25, σ26) => if x25 = (0 : Int32) then some (.inr (.inr ((0 : Int32), σ26))) else (Md_readsSum_b163 v1 σ26) else none
set_option maxRecDepth 20000 in
set_option maxHeartbeats 2000000 in
theorem t_Md_readsSum_b38 (v1 : Int32) (v2 : Int32) (s0 : Int32)   (σ : MH) {o} (h : Md_readsSum_b38 v1 v2 s0 σ = some o) : Go m_Md_readsSum 5 (some 38, [some (.ref 166), some (.int v1), some (.int v2)], [.int s0, .ref 166], σ) (cS (cH_Md_readsSum_14 v1) (cR_Md_readsSum_14 v1) o) := by
  unfold Md_readsSum_b38 at h
  obtain ⟨σ22, q23, h⟩ := bdS h
  refine Go.t (Go_callV bk_Md_readsSum 22 rfl nk_Md_closesSums tw1459 tw1461 tw59 (ci := 11) rfl (as := [.int s0]) (S := []) rfl rfl rfl rfl (Nat.le_of_ble_eq_true rfl) (Nat.le_of_ble_eq_true rfl) (ev_Md_closesSums _ _ q23)) ?_
  obtain ⟨g24, h⟩ := gdS h
  refine Go.t (Go_sg bk_Md_readsSum 23 21 (c2 := (some 75, [some (.ref 166), some (.int v1), some (.int v2)], [.ref 166], sI (sI (sI σ22 172 (σ22.1 166 11).toNatClampNeg ((1048576 : Int32) * v2)) 166 11 (((sI σ22 172 (σ22.1 166 11).toNatClampNeg ((1048576 : Int32) * v2)).1 166 11) + (1 : Int32))) 166 5 (((sI (sI σ22 172 (σ22.1 166 11).toNatClampNeg ((1048576 : Int32) * v2)) 166 11 (((sI σ22 172 (σ22.1 166 11).toNatClampNeg ((1048576 : Int32) * v2)).1 166 11) + (1 : Int32))).1 166 5) + (1 : Int32)))) (ps := [shk 166 = 11, shk 166 = 11, IA 172 260 ∧ inb (σ22.1 166 11) 260 = true, shk 166 = 11, shk 166 = 11, shk 166 = 11, shk 166 = 11]) rfl ⟨rfl, rfl, ⟨⟨rfl, rfl⟩, g24⟩, rfl, rfl, rfl, rfl, trivial⟩) ?_
  obtain ⟨⟨x25, σ26⟩, q27, h⟩ := bdS h
  dsimp only at h
  refine Go.t (Go_callV bk_Md_readsSum 44 rfl nk_Md_readsFactor tw1432 tw1434 tw54 (ci := 11) rfl (as := []) (S := []) rfl rfl rfl rfl (Nat.le_of_ble_eq_true rfl) (Nat.le_of_ble_eq_true rfl) (ev_Md_readsFactor _ q27)) ?_
  refine Go_if_ne bk_Md_readsSum 45 rfl (fun c28 => ?_) (fun c28 => ?_)
  · have h := ifF c28 h
    exact Go.t (Go.fg (LSub.cs (LSub.cs (LSub.cn (LSub.nil))))) (t_Md_readsSum_b163 v1 σ26 h)
  · have h := ifT c28 h
    have h := Option.some.inj h
    subst h
    refine Go.t (Go_sg bk_Md_readsSum 46 1 (c2 := (some 82, [some (.ref 166), some (.int v1), some (.int v2)], [.int (0 : Int32)], σ26)) (ps := []) rfl trivial) ?_
    exact Go_reti bk_Md_readsSum 47 rfl
def Md_readsSum_l14 (v1 : Int32) (σ : MH) : Option (((MH) ⊕ ((MH) ⊕ (Int32 × MH)))) := (Md_here σ).bind fun x4 => (Md_sumSign x4 σ).bind fun x7 => if x7 = (-1 : Int32) then ((Md_here σ).bind fun x10 => if x10 = (93 : Int32) then ((Md_hasOpenSum v1 σ).bind fun x13 => if x13 = (0 : Int32) then some (.inr (.inl (σ))) else ((Md_closesSums (1 : Int32) σ).bind fun σ17 => Md_readsSum_b163 v1 (sI (sI (sI σ17 166 11 ((σ17.1 166 11) - (1 : Int32))) 166 9 (((sI σ17 166 11 ((σ17.1 166 11) - (1 : Int32))).1 166 9) - (1 : Int32))) 166 5 (((sI (sI σ17 166 11 ((σ17.1 166 11) - (1 : Int32))) 166 9 (((sI σ17 166 11 ((σ17.1 166 11) - (1 : Int32))).1 166 9) - (1 : Int32))).1 166 5) + (1 : Int32))))) else some (.inr (.inl (σ)))) else (if (4 : Int32) ≤ x7 then (Md_readsSum_b38 v1 x7 (0 : Int32) σ) else (Md_readsSum_b38 v1 x7 (1 : Int32) σ))
set_option maxRecDepth 20000 in
set_option maxHeartbeats 2000000 in
theorem t_Md_readsSum_l14 (v1 : Int32)  (σ : MH) {o} (h : Md_readsSum_l14 v1 σ = some o) : Go m_Md_readsSum 5 (cH_Md_readsSum_14 v1 (σ)) (cS (cH_Md_readsSum_14 v1) (cR_Md_readsSum_14 v1) o) := by
  unfold Md_readsSum_l14 at h
  unfold cH_Md_readsSum_14
  refine Go.t (Go_sg bk_Md_readsSum 8 1 (c2 := (some 15, [some (.ref 166), some (.int v1), none], [.ref 166], σ)) (ps := []) rfl trivial) ?_
  obtain ⟨x4, q6, h⟩ := bdS h
  refine Go.t (Go_callV bk_Md_readsSum 9 rfl nk_Md_here tw1417 tw1419 tw51 (ci := 11) rfl (as := []) (S := []) rfl rfl rfl rfl (Nat.le_of_ble_eq_true rfl) (Nat.le_of_ble_eq_true rfl) (ev_Md_here _ q6)) ?_
  obtain ⟨x7, q9, h⟩ := bdS h
  refine Go.t (Go_callS bk_Md_readsSum 10 rfl nk_Md_sumSign tw1456 tw1457 (as := [.int x4]) (S := []) rfl rfl rfl (Nat.le_of_ble_eq_true rfl) (Nat.le_of_ble_eq_true rfl) (ev_Md_sumSign _ _ q9)) ?_
  refine Go.t (Go_sg bk_Md_readsSum 11 3 (c2 := (some 24, [some (.ref 166), some (.int v1), some (.int x7)], [.int (-1 : Int32), .int x7], σ)) (ps := []) rfl trivial) ?_
  refine Go_icmp_eq bk_Md_readsSum 14 rfl (fun c30 => ?_) (fun c30 => ?_)
  · have h := ifT c30 h
    refine Go.t (Go_sg bk_Md_readsSum 48 1 (c2 := (some 84, [some (.ref 166), some (.int v1), some (.int x7)], [.ref 166], σ)) (ps := []) rfl trivial) ?_
    obtain ⟨x10, q12, h⟩ := bdS h
    refine Go.t (Go_callV bk_Md_readsSum 49 rfl nk_Md_here tw1417 tw1419 tw51 (ci := 11) rfl (as := []) (S := []) rfl rfl rfl rfl (Nat.le_of_ble_eq_true rfl) (Nat.le_of_ble_eq_true rfl) (ev_Md_here _ q12)) ?_
    refine Go.t (Go_sg bk_Md_readsSum 50 1 (c2 := (some 89, [some (.ref 166), some (.int v1), some (.int x7)], [.int (93 : Int32), .int x10], σ)) (ps := []) rfl trivial) ?_
    refine Go_icmp_ne bk_Md_readsSum 51 rfl (fun c20 => ?_) (fun c20 => ?_)
    · have h := ifF c20 h
      have h := Option.some.inj h
      subst h
      exact Go.fg (LSub.cs (LSub.cs (LSub.cn (LSub.nil))))
    · have h := ifT c20 h
      refine Go.t (Go_sg bk_Md_readsSum 52 2 (c2 := (some 94, [some (.ref 166), some (.int v1), some (.int x7)], [.int v1, .ref 166], σ)) (ps := []) rfl trivial) ?_
      obtain ⟨x13, q15, h⟩ := bdS h
      refine Go.t (Go_callV bk_Md_readsSum 54 rfl nk_Md_hasOpenSum tw1467 tw1469 tw61 (ci := 11) rfl (as := [.int v1]) (S := []) rfl rfl rfl rfl (Nat.le_of_ble_eq_true rfl) (Nat.le_of_ble_eq_true rfl) (ev_Md_hasOpenSum _ _ q15)) ?_
      refine Go_if_eq bk_Md_readsSum 55 rfl (fun c19 => ?_) (fun c19 => ?_)
      · have h := ifT c19 h
        have h := Option.some.inj h
        subst h
        exact Go.fg (LSub.cs (LSub.cs (LSub.cn (LSub.nil))))
      · have h := ifF c19 h
        refine Go.t (Go_sg bk_Md_readsSum 56 2 (c2 := (some 102, [some (.ref 166), some (.int v1), some (.int x7)], [.int (1 : Int32), .ref 166], σ)) (ps := []) rfl trivial) ?_
        obtain ⟨σ17, q18, h⟩ := bdS h
        refine Go.t (Go_callV bk_Md_readsSum 58 rfl nk_Md_closesSums tw1459 tw1461 tw59 (ci := 11) rfl (as := [.int (1 : Int32)]) (S := []) rfl rfl rfl rfl (Nat.le_of_ble_eq_true rfl) (Nat.le_of_ble_eq_true rfl) (ev_Md_closesSums _ _ q18)) ?_
        refine Go.t (Go_sg bk_Md_readsSum 59 19 (c2 := (some 163, [some (.ref 166), some (.int v1), some (.int x7)], [], sI (sI (sI σ17 166 11 ((σ17.1 166 11) - (1 : Int32))) 166 9 (((sI σ17 166 11 ((σ17.1 166 11) - (1 : Int32))).1 166 9) - (1 : Int32))) 166 5 (((sI (sI σ17 166 11 ((σ17.1 166 11) - (1 : Int32))) 166 9 (((sI σ17 166 11 ((σ17.1 166 11) - (1 : Int32))).1 166 9) - (1 : Int32))).1 166 5) + (1 : Int32)))) (ps := [shk 166 = 11, shk 166 = 11, shk 166 = 11, shk 166 = 11, shk 166 = 11, shk 166 = 11]) rfl ⟨rfl, rfl, rfl, rfl, rfl, rfl, trivial⟩) ?_
        exact Go.t (Go.fg (LSub.cs (LSub.cs (LSub.cn (LSub.nil))))) (t_Md_readsSum_b163 v1 (sI (sI (sI σ17 166 11 ((σ17.1 166 11) - (1 : Int32))) 166 9 (((sI σ17 166 11 ((σ17.1 166 11) - (1 : Int32))).1 166 9) - (1 : Int32))) 166 5 (((sI (sI σ17 166 11 ((σ17.1 166 11) - (1 : Int32))) 166 9 (((sI σ17 166 11 ((σ17.1 166 11) - (1 : Int32))).1 166 9) - (1 : Int32))).1 166 5) + (1 : Int32))) h)
  · have h := ifF c30 h
    refine Go.t (Go_sg bk_Md_readsSum 15 3 (c2 := (some 30, [some (.ref 166), some (.int v1), some (.int x7)], [.int (4 : Int32), .int x7, .ref 166], σ)) (ps := []) rfl trivial) ?_
    refine Go_icmp_ge bk_Md_readsSum 18 rfl (fun c29 => ?_) (fun c29 => ?_)
    · have h := ifT c29 h
      refine Go.t (Go_sg bk_Md_readsSum 21 1 (c2 := (some 38, [some (.ref 166), some (.int v1), some (.int x7)], [.int (0 : Int32), .ref 166], σ)) (ps := []) rfl trivial) ?_
      exact Go.t (Go.fg (LSub.cs (LSub.cs (LSub.cs (LSub.nil))))) (t_Md_readsSum_b38 v1 x7 (0 : Int32) σ h)
    · have h := ifF c29 h
      refine Go.t (Go_sg bk_Md_readsSum 19 2 (c2 := (some 38, [some (.ref 166), some (.int v1), some (.int x7)], [.int (1 : Int32), .ref 166], σ)) (ps := []) rfl trivial) ?_
      exact Go.t (Go.fg (LSub.cs (LSub.cs (LSub.cs (LSub.nil))))) (t_Md_readsSum_b38 v1 x7 (1 : Int32) σ h)
def Md_readsSum_L14 (v1 : Int32) (s : MH) : Option ((MH) ⊕ (Int32 × MH)) := itr (fun s : MH => Md_readsSum_l14 v1 s) FU s
set_option maxRecDepth 20000 in
set_option maxHeartbeats 2000000 in
theorem t_Md_readsSum_L14 (v1 : Int32)  (s : MH) {r} (h : Md_readsSum_L14 v1 s = some r) : Go m_Md_readsSum 5 (cH_Md_readsSum_14 v1 s) (cR_Md_readsSum_14 v1 r) := Go_itr (fun s o ho => t_Md_readsSum_l14 v1 s ho) FU s r h
def Md_readsSum_b138 (v1 : Int32) (σ : MH) : Option (Int32 × MH) := (Md_hasOpenSum v1 σ).bind fun x33 => if x33 = (0 : Int32) then ((Md_closesSums (1 : Int32) σ).bind fun σ37 => some ((1 : Int32), σ37)) else ((Md_wrongAt (1 : Int32) (σ.1 166 5) σ).bind fun (x39, σ40) => some (x39, σ40))
set_option maxRecDepth 20000 in
set_option maxHeartbeats 2000000 in
theorem t_Md_readsSum_b138 (v1 : Int32)   (σ : MH) {o} (h : Md_readsSum_b138 v1 σ = some o) : Go m_Md_readsSum 5 (some 138, [some (.ref 166), some (.int v1), none], [], σ) ((none, [], [.int o.1], o.2)) := by
  unfold Md_readsSum_b138 at h
  refine Go.t (Go_sg bk_Md_readsSum 78 2 (c2 := (some 140, [some (.ref 166), some (.int v1), none], [.int v1, .ref 166], σ)) (ps := []) rfl trivial) ?_
  obtain ⟨x33, q35, h⟩ := bdS h
  refine Go.t (Go_callV bk_Md_readsSum 80 rfl nk_Md_hasOpenSum tw1467 tw1469 tw61 (ci := 11) rfl (as := [.int v1]) (S := []) rfl rfl rfl rfl (Nat.le_of_ble_eq_true rfl) (Nat.le_of_ble_eq_true rfl) (ev_Md_hasOpenSum _ _ q35)) ?_
  refine Go_if_eq bk_Md_readsSum 81 rfl (fun c42 => ?_) (fun c42 => ?_)
  · have h := ifT c42 h
    refine Go.t (Go_sg bk_Md_readsSum 88 2 (c2 := (some 158, [some (.ref 166), some (.int v1), none], [.int (1 : Int32), .ref 166], σ)) (ps := []) rfl trivial) ?_
    obtain ⟨σ37, q38, h⟩ := bdS h
    refine Go.t (Go_callV bk_Md_readsSum 90 rfl nk_Md_closesSums tw1459 tw1461 tw59 (ci := 11) rfl (as := [.int (1 : Int32)]) (S := []) rfl rfl rfl rfl (Nat.le_of_ble_eq_true rfl) (Nat.le_of_ble_eq_true rfl) (ev_Md_closesSums _ _ q38)) ?_
    have h := Option.some.inj h
    subst h
    refine Go.t (Go_sg bk_Md_readsSum 91 1 (c2 := (some 162, [some (.ref 166), some (.int v1), none], [.int (1 : Int32)], σ37)) (ps := []) rfl trivial) ?_
    exact Go_reti bk_Md_readsSum 92 rfl
  · have h := ifF c42 h
    refine Go.t (Go_sg bk_Md_readsSum 82 4 (c2 := (some 152, [some (.ref 166), some (.int v1), none], [.int (σ.1 166 5), .int (1 : Int32), .ref 166], σ)) (ps := [shk 166 = 11]) rfl ⟨rfl, trivial⟩) ?_
    obtain ⟨⟨x39, σ40⟩, q41, h⟩ := bdS h
    dsimp only at h
    refine Go.t (Go_callV bk_Md_readsSum 86 rfl nk_Md_wrongAt tw1424 tw1426 tw52 (ci := 11) rfl (as := [.int (1 : Int32), .int (σ.1 166 5)]) (S := []) rfl rfl rfl rfl (Nat.le_of_ble_eq_true rfl) (Nat.le_of_ble_eq_true rfl) (ev_Md_wrongAt _ _ _ q41)) ?_
    have h := Option.some.inj h
    subst h
    exact Go_reti bk_Md_readsSum 87 rfl
def Md_readsSum0  (σ : MH) : Option (Int32 × MH) := (Md_readsFactor σ).bind fun (x1, σ2) => if x1 = (0 : Int32) then some ((0 : Int32), σ2) else ((Md_readsSum_L14 (σ.1 166 11) (σ2)).bind fun z31 => (match z31 with | .inl z31a => Md_readsSum_b138 (σ.1 166 11) z31a | .inr z31b => some (z31b.1, z31b.2)))
set_option maxRecDepth 20000 in
set_option maxHeartbeats 2000000 in
theorem t_Md_readsSum0   (σ : MH) {o} (h : Md_readsSum0 σ = some o) : Go m_Md_readsSum 5 (some 0, [some (.ref 166), none, none], [], σ) ((none, [], [.int o.1], o.2)) := by
  unfold Md_readsSum0 at h
  refine Go.t (Go_sg bk_Md_readsSum 0 4 (c2 := (some 6, [some (.ref 166), some (.int (σ.1 166 11)), none], [.ref 166], σ)) (ps := [shk 166 = 11]) rfl ⟨rfl, trivial⟩) ?_
  obtain ⟨⟨x1, σ2⟩, q3, h⟩ := bdS h
  dsimp only at h
  refine Go.t (Go_callV bk_Md_readsSum 4 rfl nk_Md_readsFactor tw1432 tw1434 tw54 (ci := 11) rfl (as := []) (S := []) rfl rfl rfl rfl (Nat.le_of_ble_eq_true rfl) (Nat.le_of_ble_eq_true rfl) (ev_Md_readsFactor _ q3)) ?_
  refine Go_if_ne bk_Md_readsSum 5 rfl (fun c43 => ?_) (fun c43 => ?_)
  · have h := ifF c43 h
    obtain ⟨z31, q32, h⟩ := bdS h
    refine Go.t (Go.t (Go.fg (LSub.cs (LSub.cs (LSub.cn (LSub.nil))))) (t_Md_readsSum_L14 (σ.1 166 11) _ q32)) ?_
    rcases z31 with z31a | z31b
    · dsimp only at h
      exact Go.t (Go.fg (LSub.cs (LSub.cs (LSub.cn (LSub.nil))))) (t_Md_readsSum_b138 (σ.1 166 11) z31a h)
    · dsimp only at h
      have h := Option.some.inj h
      subst h
      exact Go.rf
  · have h := ifT c43 h
    have h := Option.some.inj h
    subst h
    refine Go.t (Go_sg bk_Md_readsSum 6 1 (c2 := (some 13, [some (.ref 166), some (.int (σ.1 166 11)), none], [.int (0 : Int32)], σ2)) (ps := []) rfl trivial) ?_
    exact Go_reti bk_Md_readsSum 7 rfl
def Md_readsSum  (σ : MH) : Option (Int32 × MH) := bzo (Md_readsSum0 σ)
set_option maxRecDepth 20000 in
set_option maxHeartbeats 2000000 in
theorem ev_Md_readsSum   (σ : MH) {o} (h : Md_readsSum σ = some o) : Ev m_Md_readsSum 5 [.ref 166] σ (some (.int o.1)) o.2 := Ev.of2 (by decide +kernel) rfl (Nat.le_of_ble_eq_true rfl) ⟨.boolean, rfl, nrB (bzo2 h)⟩ (t_Md_readsSum0 σ (bzo1 h))
def cH_Md_endsPiece_0  (s : MH) : MC := (some 0, [some (.ref 166)], [], s)
def cR_Md_endsPiece_0  : ((MH)) → MC := (fun r : MH => ((none, [], [], r) : MC))
def Md_endsPiece_l0  (σ : MH) : Option (((MH) ⊕ ((MH)))) := (Md_waitTop σ).bind fun x1 => if x1 = (10 : Int32) then ((Md_notes (10 : Int32) (0 : Int32) σ).bind fun σ5 => some (.inl (sI (sI σ5 166 11 ((σ5.1 166 11) - (1 : Int32))) 166 9 (((sI σ5 166 11 ((σ5.1 166 11) - (1 : Int32))).1 166 9) - (1 : Int32))))) else some (.inr (σ))
set_option maxRecDepth 20000 in
set_option maxHeartbeats 2000000 in
theorem t_Md_endsPiece_l0   (σ : MH) {o} (h : Md_endsPiece_l0 σ = some o) : Go m_Md_endsPiece 2 (cH_Md_endsPiece_0  (σ)) (cS (cH_Md_endsPiece_0 ) (cR_Md_endsPiece_0 ) o) := by
  unfold Md_endsPiece_l0 at h
  unfold cH_Md_endsPiece_0
  refine Go.t (Go_sg bk_Md_endsPiece 0 1 (c2 := (some 1, [some (.ref 166)], [.ref 166], σ)) (ps := []) rfl trivial) ?_
  obtain ⟨x1, q3, h⟩ := bdS h
  refine Go.t (Go_callV bk_Md_endsPiece 1 rfl nk_Md_waitTop tw1463 tw1465 tw60 (ci := 11) rfl (as := []) (S := []) rfl rfl rfl rfl (Nat.le_of_ble_eq_true rfl) (Nat.le_of_ble_eq_true rfl) (ev_Md_waitTop _ q3)) ?_
  refine Go.t (Go_sg bk_Md_endsPiece 2 1 (c2 := (some 6, [some (.ref 166)], [.int (10 : Int32), .int x1], σ)) (ps := []) rfl trivial) ?_
  refine Go_icmp_ne bk_Md_endsPiece 3 rfl (fun c7 => ?_) (fun c7 => ?_)
  · have h := ifF c7 h
    have h := Option.some.inj h
    subst h
    exact Go_ret0 bk_Md_endsPiece 21 rfl
  · have h := ifT c7 h
    refine Go.t (Go_sg bk_Md_endsPiece 4 3 (c2 := (some 13, [some (.ref 166)], [.int (0 : Int32), .int (10 : Int32), .ref 166], σ)) (ps := []) rfl trivial) ?_
    obtain ⟨σ5, q6, h⟩ := bdS h
    refine Go.t (Go_callV bk_Md_endsPiece 7 rfl nk_Md_notes tw1449 tw1451 tw58 (ci := 11) rfl (as := [.int (10 : Int32), .int (0 : Int32)]) (S := []) rfl rfl rfl rfl (Nat.le_of_ble_eq_true rfl) (Nat.le_of_ble_eq_true rfl) (ev_Md_notes _ _ _ q6)) ?_
    refine Go.t (Go_sg bk_Md_endsPiece 8 13 (c2 := (some 0, [some (.ref 166)], [], sI (sI σ5 166 11 ((σ5.1 166 11) - (1 : Int32))) 166 9 (((sI σ5 166 11 ((σ5.1 166 11) - (1 : Int32))).1 166 9) - (1 : Int32)))) (ps := [shk 166 = 11, shk 166 = 11, shk 166 = 11, shk 166 = 11]) rfl ⟨rfl, rfl, rfl, rfl, trivial⟩) ?_
    have h := Option.some.inj h
    subst h
    exact Go.fg (LSub.cs (LSub.nil))
def Md_endsPiece_L0  (s : MH) : Option ((MH)) := itr (fun s : MH => Md_endsPiece_l0 s) FU s
set_option maxRecDepth 20000 in
set_option maxHeartbeats 2000000 in
theorem t_Md_endsPiece_L0   (s : MH) {r} (h : Md_endsPiece_L0  s = some r) : Go m_Md_endsPiece 2 (cH_Md_endsPiece_0  s) (cR_Md_endsPiece_0  r) := Go_itr (fun s o ho => t_Md_endsPiece_l0 s ho) FU s r h
def Md_endsPiece0  (σ : MH) : Option (MH) := (Md_endsPiece_L0 (σ)).bind fun z8 => some (z8)
set_option maxRecDepth 20000 in
set_option maxHeartbeats 2000000 in
theorem t_Md_endsPiece0   (σ : MH) {o} (h : Md_endsPiece0 σ = some o) : Go m_Md_endsPiece 2 (some 0, [some (.ref 166)], [], σ) ((none, [], [], o)) := by
  unfold Md_endsPiece0 at h
  obtain ⟨z8, q9, h⟩ := bdS h
  refine Go.t (Go.t (Go.fg (LSub.cs (LSub.nil))) (t_Md_endsPiece_L0 _ q9)) ?_
  have h := Option.some.inj h
  subst h
  exact Go.rf
def Md_endsPiece  (σ : MH) : Option (MH) := Md_endsPiece0 σ
set_option maxRecDepth 20000 in
set_option maxHeartbeats 2000000 in
theorem ev_Md_endsPiece   (σ : MH) {o} (h : Md_endsPiece σ = some o) : Ev m_Md_endsPiece 2 [.ref 166] σ none o := Ev.of2 (by decide +kernel) rfl (Nat.le_of_ble_eq_true rfl) rfl (t_Md_endsPiece0 σ h)
def Md_readsCompared_b52 (s0 : Int32) (σ : MH) : Option (Int32 × MH) := if s0 = (-1 : Int32) then ((Md_wrongAt (1 : Int32) (σ.1 166 5) σ).bind fun (x23, σ24) => some (x23, σ24)) else ((Md_readsSum (sI σ 166 5 ((σ.1 166 5) + (1 : Int32)))).bind fun (x13, σ14) => if x13 = (0 : Int32) then some ((0 : Int32), σ14) else ((Md_notes s0 (0 : Int32) σ14).bind fun σ17 => (Md_endsPiece σ17).bind fun σ20 => some ((1 : Int32), σ20)))
set_option maxRecDepth 20000 in
set_option maxHeartbeats 2000000 in
theorem t_Md_readsCompared_b52 (s0 : Int32)   (σ : MH) {o} (h : Md_readsCompared_b52 s0 σ = some o) : Go m_Md_readsCompared 6 (some 52, [some (.ref 166), none], [.int s0], σ) ((none, [], [.int o.1], o.2)) := by
  unfold Md_readsCompared_b52 at h
  refine Go.t (Go_sg bk_Md_readsCompared 24 3 (c2 := (some 55, [some (.ref 166), some (.int s0)], [.int (-1 : Int32), .int s0], σ)) (ps := []) rfl trivial) ?_
  refine Go_icmp_ne bk_Md_readsCompared 27 rfl (fun c26 => ?_) (fun c26 => ?_)
  · have h := ifF c26 h
    refine Go.t (Go_sg bk_Md_readsCompared 34 7 (c2 := (some 79, [some (.ref 166), some (.int s0)], [.ref 166], sI σ 166 5 ((σ.1 166 5) + (1 : Int32)))) (ps := [shk 166 = 11, shk 166 = 11]) rfl ⟨rfl, rfl, trivial⟩) ?_
    obtain ⟨⟨x13, σ14⟩, q15, h⟩ := bdS h
    dsimp only at h
    refine Go.t (Go_callV bk_Md_readsCompared 41 rfl nk_Md_readsSum tw1428 tw1430 tw53 (ci := 11) rfl (as := []) (S := []) rfl rfl rfl rfl (Nat.le_of_ble_eq_true rfl) (Nat.le_of_ble_eq_true rfl) (ev_Md_readsSum _ q15)) ?_
    refine Go_if_ne bk_Md_readsCompared 42 rfl (fun c22 => ?_) (fun c22 => ?_)
    · have h := ifF c22 h
      refine Go.t (Go_sg bk_Md_readsCompared 45 3 (c2 := (some 90, [some (.ref 166), some (.int s0)], [.int (0 : Int32), .int s0, .ref 166], σ14)) (ps := []) rfl trivial) ?_
      obtain ⟨σ17, q18, h⟩ := bdS h
      refine Go.t (Go_callV bk_Md_readsCompared 48 rfl nk_Md_notes tw1449 tw1451 tw58 (ci := 11) rfl (as := [.int s0, .int (0 : Int32)]) (S := []) rfl rfl rfl rfl (Nat.le_of_ble_eq_true rfl) (Nat.le_of_ble_eq_true rfl) (ev_Md_notes _ _ _ q18)) ?_
      refine Go.t (Go_sg bk_Md_readsCompared 49 1 (c2 := (some 94, [some (.ref 166), some (.int s0)], [.ref 166], σ17)) (ps := []) rfl trivial) ?_
      obtain ⟨σ20, q21, h⟩ := bdS h
      refine Go.t (Go_callV bk_Md_readsCompared 50 rfl nk_Md_endsPiece tw1479 tw1481 tw64 (ci := 11) rfl (as := []) (S := []) rfl rfl rfl rfl (Nat.le_of_ble_eq_true rfl) (Nat.le_of_ble_eq_true rfl) (ev_Md_endsPiece _ q21)) ?_
      have h := Option.some.inj h
      subst h
      refine Go.t (Go_sg bk_Md_readsCompared 51 1 (c2 := (some 98, [some (.ref 166), some (.int s0)], [.int (1 : Int32)], σ20)) (ps := []) rfl trivial) ?_
      exact Go_reti bk_Md_readsCompared 52 rfl
    · have h := ifT c22 h
      have h := Option.some.inj h
      subst h
      refine Go.t (Go_sg bk_Md_readsCompared 43 1 (c2 := (some 86, [some (.ref 166), some (.int s0)], [.int (0 : Int32)], σ14)) (ps := []) rfl trivial) ?_
      exact Go_reti bk_Md_readsCompared 44 rfl
  · have h := ifT c26 h
    refine Go.t (Go_sg bk_Md_readsCompared 28 4 (c2 := (some 64, [some (.ref 166), some (.int s0)], [.int (σ.1 166 5), .int (1 : Int32), .ref 166], σ)) (ps := [shk 166 = 11]) rfl ⟨rfl, trivial⟩) ?_
    obtain ⟨⟨x23, σ24⟩, q25, h⟩ := bdS h
    dsimp only at h
    refine Go.t (Go_callV bk_Md_readsCompared 32 rfl nk_Md_wrongAt tw1424 tw1426 tw52 (ci := 11) rfl (as := [.int (1 : Int32), .int (σ.1 166 5)]) (S := []) rfl rfl rfl rfl (Nat.le_of_ble_eq_true rfl) (Nat.le_of_ble_eq_true rfl) (ev_Md_wrongAt _ _ _ q25)) ?_
    have h := Option.some.inj h
    subst h
    exact Go_reti bk_Md_readsCompared 33 rfl
def Md_readsCompared0  (σ : MH) : Option (Int32 × MH) := (Md_readsSum σ).bind fun (x1, σ2) => if x1 = (0 : Int32) then some ((0 : Int32), σ2) else ((Md_here σ2).bind fun x4 => if x4 = (60 : Int32) then (Md_readsCompared_b52 (7 : Int32) σ2) else ((Md_here σ2).bind fun x7 => if x7 = (62 : Int32) then (Md_readsCompared_b52 (8 : Int32) σ2) else ((Md_here σ2).bind fun x10 => if x10 = (61 : Int32) then (Md_readsCompared_b52 (9 : Int32) σ2) else (Md_readsCompared_b52 (-1 : Int32) σ2))))
set_option maxRecDepth 20000 in
set_option maxHeartbeats 2000000 in
theorem t_Md_readsCompared0   (σ : MH) {o} (h : Md_readsCompared0 σ = some o) : Go m_Md_readsCompared 6 (some 0, [some (.ref 166), none], [], σ) ((none, [], [.int o.1], o.2)) := by
  unfold Md_readsCompared0 at h
  refine Go.t (Go_sg bk_Md_readsCompared 0 1 (c2 := (some 1, [some (.ref 166), none], [.ref 166], σ)) (ps := []) rfl trivial) ?_
  obtain ⟨⟨x1, σ2⟩, q3, h⟩ := bdS h
  dsimp only at h
  refine Go.t (Go_callV bk_Md_readsCompared 1 rfl nk_Md_readsSum tw1428 tw1430 tw53 (ci := 11) rfl (as := []) (S := []) rfl rfl rfl rfl (Nat.le_of_ble_eq_true rfl) (Nat.le_of_ble_eq_true rfl) (ev_Md_readsSum _ q3)) ?_
  refine Go_if_ne bk_Md_readsCompared 2 rfl (fun c30 => ?_) (fun c30 => ?_)
  · have h := ifF c30 h
    refine Go.t (Go_sg bk_Md_readsCompared 5 1 (c2 := (some 10, [some (.ref 166), none], [.ref 166], σ2)) (ps := []) rfl trivial) ?_
    obtain ⟨x4, q6, h⟩ := bdS h
    refine Go.t (Go_callV bk_Md_readsCompared 6 rfl nk_Md_here tw1417 tw1419 tw51 (ci := 11) rfl (as := []) (S := []) rfl rfl rfl rfl (Nat.le_of_ble_eq_true rfl) (Nat.le_of_ble_eq_true rfl) (ev_Md_here _ q6)) ?_
    refine Go.t (Go_sg bk_Md_readsCompared 7 1 (c2 := (some 15, [some (.ref 166), none], [.int (60 : Int32), .int x4], σ2)) (ps := []) rfl trivial) ?_
    refine Go_icmp_ne bk_Md_readsCompared 8 rfl (fun c29 => ?_) (fun c29 => ?_)
    · have h := ifF c29 h
      refine Go.t (Go_sg bk_Md_readsCompared 11 1 (c2 := (some 24, [some (.ref 166), none], [.ref 166], σ2)) (ps := []) rfl trivial) ?_
      obtain ⟨x7, q9, h⟩ := bdS h
      refine Go.t (Go_callV bk_Md_readsCompared 12 rfl nk_Md_here tw1417 tw1419 tw51 (ci := 11) rfl (as := []) (S := []) rfl rfl rfl rfl (Nat.le_of_ble_eq_true rfl) (Nat.le_of_ble_eq_true rfl) (ev_Md_here _ q9)) ?_
      refine Go.t (Go_sg bk_Md_readsCompared 13 1 (c2 := (some 29, [some (.ref 166), none], [.int (62 : Int32), .int x7], σ2)) (ps := []) rfl trivial) ?_
      refine Go_icmp_ne bk_Md_readsCompared 14 rfl (fun c28 => ?_) (fun c28 => ?_)
      · have h := ifF c28 h
        refine Go.t (Go_sg bk_Md_readsCompared 17 1 (c2 := (some 38, [some (.ref 166), none], [.ref 166], σ2)) (ps := []) rfl trivial) ?_
        obtain ⟨x10, q12, h⟩ := bdS h
        refine Go.t (Go_callV bk_Md_readsCompared 18 rfl nk_Md_here tw1417 tw1419 tw51 (ci := 11) rfl (as := []) (S := []) rfl rfl rfl rfl (Nat.le_of_ble_eq_true rfl) (Nat.le_of_ble_eq_true rfl) (ev_Md_here _ q12)) ?_
        refine Go.t (Go_sg bk_Md_readsCompared 19 1 (c2 := (some 43, [some (.ref 166), none], [.int (61 : Int32), .int x10], σ2)) (ps := []) rfl trivial) ?_
        refine Go_icmp_ne bk_Md_readsCompared 20 rfl (fun c27 => ?_) (fun c27 => ?_)
        · have h := ifF c27 h
          refine Go.t (Go_sg bk_Md_readsCompared 23 1 (c2 := (some 52, [some (.ref 166), none], [.int (-1 : Int32)], σ2)) (ps := []) rfl trivial) ?_
          exact Go.t (Go.fg (LSub.cs (LSub.cn (LSub.nil)))) (t_Md_readsCompared_b52 (-1 : Int32) σ2 h)
        · have h := ifT c27 h
          refine Go.t (Go_sg bk_Md_readsCompared 21 2 (c2 := (some 52, [some (.ref 166), none], [.int (9 : Int32)], σ2)) (ps := []) rfl trivial) ?_
          exact Go.t (Go.fg (LSub.cs (LSub.cn (LSub.nil)))) (t_Md_readsCompared_b52 (9 : Int32) σ2 h)
      · have h := ifT c28 h
        refine Go.t (Go_sg bk_Md_readsCompared 15 2 (c2 := (some 52, [some (.ref 166), none], [.int (8 : Int32)], σ2)) (ps := []) rfl trivial) ?_
        exact Go.t (Go.fg (LSub.cs (LSub.cn (LSub.nil)))) (t_Md_readsCompared_b52 (8 : Int32) σ2 h)
    · have h := ifT c29 h
      refine Go.t (Go_sg bk_Md_readsCompared 9 2 (c2 := (some 52, [some (.ref 166), none], [.int (7 : Int32)], σ2)) (ps := []) rfl trivial) ?_
      exact Go.t (Go.fg (LSub.cs (LSub.cn (LSub.nil)))) (t_Md_readsCompared_b52 (7 : Int32) σ2 h)
  · have h := ifT c30 h
    have h := Option.some.inj h
    subst h
    refine Go.t (Go_sg bk_Md_readsCompared 3 1 (c2 := (some 8, [some (.ref 166), none], [.int (0 : Int32)], σ2)) (ps := []) rfl trivial) ?_
    exact Go_reti bk_Md_readsCompared 4 rfl
def Md_readsCompared  (σ : MH) : Option (Int32 × MH) := bzo (Md_readsCompared0 σ)
set_option maxRecDepth 20000 in
set_option maxHeartbeats 2000000 in
theorem ev_Md_readsCompared   (σ : MH) {o} (h : Md_readsCompared σ = some o) : Ev m_Md_readsCompared 6 [.ref 166] σ (some (.int o.1)) o.2 := Ev.of2 (by decide +kernel) rfl (Nat.le_of_ble_eq_true rfl) ⟨.boolean, rfl, nrB (bzo2 h)⟩ (t_Md_readsCompared0 σ (bzo1 h))
def cH_Md_lands_0 (v1 : Int32) (s : MH) : MC := (some 0, [some (.ref 166), some (.int v1), none], [], s)
def cR_Md_lands_0 (v1 : Int32) : ((MH)) → MC := (fun r : MH => ((none, [], [], r) : MC))
def Md_lands_b22 (v1 : Int32) (σ : MH) : Option (((MH) ⊕ ((MH)))) := if inb ((σ.1 166 11) - (1 : Int32)) 260 = true then if inb (jrem (σ.1 172 ((σ.1 166 11) - (1 : Int32)).toNatClampNeg) (1048576 : Int32)) 260 = true then some (.inl (sI (sI σ 171 (jrem (σ.1 172 ((σ.1 166 11) - (1 : Int32)).toNatClampNeg) (1048576 : Int32)).toNatClampNeg (((1048576 : Int32) * ((σ.1 171 (jrem (σ.1 172 ((σ.1 166 11) - (1 : Int32)).toNatClampNeg) (1048576 : Int32)).toNatClampNeg) / (1048576 : Int32))) + (σ.1 166 10))) 166 11 (((sI σ 171 (jrem (σ.1 172 ((σ.1 166 11) - (1 : Int32)).toNatClampNeg) (1048576 : Int32)).toNatClampNeg (((1048576 : Int32) * ((σ.1 171 (jrem (σ.1 172 ((σ.1 166 11) - (1 : Int32)).toNatClampNeg) (1048576 : Int32)).toNatClampNeg) / (1048576 : Int32))) + (σ.1 166 10))).1 166 11) - (1 : Int32)))) else none else none
set_option maxRecDepth 20000 in
set_option maxHeartbeats 2000000 in
theorem t_Md_lands_b22 (v1 : Int32)   (σ : MH) {o} (h : Md_lands_b22 v1 σ = some o) : Go m_Md_lands 2 (some 22, [some (.ref 166), some (.int v1), none], [], σ) (cS (cH_Md_lands_0 v1) (cR_Md_lands_0 v1) o) := by
  unfold Md_lands_b22 at h
  obtain ⟨g4, h⟩ := gdS h
  obtain ⟨g5, h⟩ := gdS h
  refine Go.t (Go_sg bk_Md_lands 10 32 (c2 := (some 0, [some (.ref 166), some (.int v1), some (.int (jrem (σ.1 172 ((σ.1 166 11) - (1 : Int32)).toNatClampNeg) (1048576 : Int32)))], [], sI (sI σ 171 (jrem (σ.1 172 ((σ.1 166 11) - (1 : Int32)).toNatClampNeg) (1048576 : Int32)).toNatClampNeg (((1048576 : Int32) * ((σ.1 171 (jrem (σ.1 172 ((σ.1 166 11) - (1 : Int32)).toNatClampNeg) (1048576 : Int32)).toNatClampNeg) / (1048576 : Int32))) + (σ.1 166 10))) 166 11 (((sI σ 171 (jrem (σ.1 172 ((σ.1 166 11) - (1 : Int32)).toNatClampNeg) (1048576 : Int32)).toNatClampNeg (((1048576 : Int32) * ((σ.1 171 (jrem (σ.1 172 ((σ.1 166 11) - (1 : Int32)).toNatClampNeg) (1048576 : Int32)).toNatClampNeg) / (1048576 : Int32))) + (σ.1 166 10))).1 166 11) - (1 : Int32)))) (ps := [shk 166 = 11, shk 166 = 11, IA 172 260 ∧ inb ((σ.1 166 11) - (1 : Int32)) 260 = true, (1048576 : Int32) ≠ 0, shk 166 = 11, shk 166 = 11, IA 171 260 ∧ inb (jrem (σ.1 172 ((σ.1 166 11) - (1 : Int32)).toNatClampNeg) (1048576 : Int32)) 260 = true, (1048576 : Int32) ≠ 0, shk 166 = 11, IA 171 260 ∧ inb (jrem (σ.1 172 ((σ.1 166 11) - (1 : Int32)).toNatClampNeg) (1048576 : Int32)) 260 = true, shk 166 = 11, shk 166 = 11]) rfl ⟨rfl, rfl, ⟨⟨rfl, rfl⟩, g4⟩, (by decide), rfl, rfl, ⟨⟨rfl, rfl⟩, g5⟩, (by decide), rfl, ⟨⟨rfl, rfl⟩, g5⟩, rfl, rfl, trivial⟩) ?_
  have h := Option.some.inj h
  subst h
  exact Go.fg (LSub.cs (LSub.cs (LSub.cn (LSub.nil))))
def Md_lands_l0 (v1 : Int32) (σ : MH) : Option (((MH) ⊕ ((MH)))) := (Md_waitTop σ).bind fun x1 => if x1 = (11 : Int32) then (Md_lands_b22 v1 σ) else (if v1 = (0 : Int32) then some (.inr (σ)) else ((Md_waitTop σ).bind fun x6 => if x6 = (12 : Int32) then (Md_lands_b22 v1 σ) else some (.inr (σ))))
set_option maxRecDepth 20000 in
set_option maxHeartbeats 2000000 in
theorem t_Md_lands_l0 (v1 : Int32)  (σ : MH) {o} (h : Md_lands_l0 v1 σ = some o) : Go m_Md_lands 2 (cH_Md_lands_0 v1 (σ)) (cS (cH_Md_lands_0 v1) (cR_Md_lands_0 v1) o) := by
  unfold Md_lands_l0 at h
  unfold cH_Md_lands_0
  refine Go.t (Go_sg bk_Md_lands 0 1 (c2 := (some 1, [some (.ref 166), some (.int v1), none], [.ref 166], σ)) (ps := []) rfl trivial) ?_
  obtain ⟨x1, q3, h⟩ := bdS h
  refine Go.t (Go_callV bk_Md_lands 1 rfl nk_Md_waitTop tw1463 tw1465 tw60 (ci := 11) rfl (as := []) (S := []) rfl rfl rfl rfl (Nat.le_of_ble_eq_true rfl) (Nat.le_of_ble_eq_true rfl) (ev_Md_waitTop _ q3)) ?_
  refine Go.t (Go_sg bk_Md_lands 2 1 (c2 := (some 6, [some (.ref 166), some (.int v1), none], [.int (11 : Int32), .int x1], σ)) (ps := []) rfl trivial) ?_
  refine Go_icmp_eq bk_Md_lands 3 rfl (fun c11 => ?_) (fun c11 => ?_)
  · have h := ifT c11 h
    exact Go.t (Go.fg (LSub.cs (LSub.cs (LSub.cn (LSub.nil))))) (t_Md_lands_b22 v1 σ h)
  · have h := ifF c11 h
    refine Go.t (Go_sg bk_Md_lands 4 1 (c2 := (some 10, [some (.ref 166), some (.int v1), none], [.int v1], σ)) (ps := []) rfl trivial) ?_
    refine Go_if_eq bk_Md_lands 5 rfl (fun c10 => ?_) (fun c10 => ?_)
    · have h := ifT c10 h
      have h := Option.some.inj h
      subst h
      exact Go_ret0 bk_Md_lands 42 rfl
    · have h := ifF c10 h
      refine Go.t (Go_sg bk_Md_lands 6 1 (c2 := (some 14, [some (.ref 166), some (.int v1), none], [.ref 166], σ)) (ps := []) rfl trivial) ?_
      obtain ⟨x6, q8, h⟩ := bdS h
      refine Go.t (Go_callV bk_Md_lands 7 rfl nk_Md_waitTop tw1463 tw1465 tw60 (ci := 11) rfl (as := []) (S := []) rfl rfl rfl rfl (Nat.le_of_ble_eq_true rfl) (Nat.le_of_ble_eq_true rfl) (ev_Md_waitTop _ q8)) ?_
      refine Go.t (Go_sg bk_Md_lands 8 1 (c2 := (some 19, [some (.ref 166), some (.int v1), none], [.int (12 : Int32), .int x6], σ)) (ps := []) rfl trivial) ?_
      refine Go_icmp_ne bk_Md_lands 9 rfl (fun c9 => ?_) (fun c9 => ?_)
      · have h := ifF c9 h
        have h := Option.some.inj h
        subst h
        exact Go_ret0 bk_Md_lands 42 rfl
      · have h := ifT c9 h
        exact Go.t (Go.fg (LSub.cs (LSub.cs (LSub.cn (LSub.nil))))) (t_Md_lands_b22 v1 σ h)
def Md_lands_L0 (v1 : Int32) (s : MH) : Option ((MH)) := itr (fun s : MH => Md_lands_l0 v1 s) FU s
set_option maxRecDepth 20000 in
set_option maxHeartbeats 2000000 in
theorem t_Md_lands_L0 (v1 : Int32)  (s : MH) {r} (h : Md_lands_L0 v1 s = some r) : Go m_Md_lands 2 (cH_Md_lands_0 v1 s) (cR_Md_lands_0 v1 r) := Go_itr (fun s o ho => t_Md_lands_l0 v1 s ho) FU s r h
def Md_lands0 (v1 : Int32) (σ : MH) : Option (MH) := (Md_lands_L0 v1 (σ)).bind fun z12 => some (z12)
set_option maxRecDepth 20000 in
set_option maxHeartbeats 2000000 in
theorem t_Md_lands0 (v1 : Int32)  (σ : MH) {o} (h : Md_lands0 v1 σ = some o) : Go m_Md_lands 2 (some 0, [some (.ref 166), some (.int v1), none], [], σ) ((none, [], [], o)) := by
  unfold Md_lands0 at h
  obtain ⟨z12, q13, h⟩ := bdS h
  refine Go.t (Go.t (Go.fg (LSub.cs (LSub.cs (LSub.cn (LSub.nil))))) (t_Md_lands_L0 v1 _ q13)) ?_
  have h := Option.some.inj h
  subst h
  exact Go.rf
def Md_lands (v1 : Int32) (σ : MH) : Option (MH) := Md_lands0 v1 σ
set_option maxRecDepth 20000 in
set_option maxHeartbeats 2000000 in
theorem ev_Md_lands (v1 : Int32)  (σ : MH) {o} (h : Md_lands v1 σ = some o) : Ev m_Md_lands 2 [.ref 166, .int v1] σ none o := Ev.of2 (by decide +kernel) rfl (Nat.le_of_ble_eq_true rfl) rfl (t_Md_lands0 v1 σ h)
def Md_jumps0 (v1 : Int32) (σ : MH) : Option (MH) := if inb (σ.1 166 11) 260 = true then (Md_notes v1 (0 : Int32) (sI (sI σ 172 (σ.1 166 11).toNatClampNeg (((1048576 : Int32) * v1) + (σ.1 166 10))) 166 11 (((sI σ 172 (σ.1 166 11).toNatClampNeg (((1048576 : Int32) * v1) + (σ.1 166 10))).1 166 11) + (1 : Int32)))).bind fun σ3 => some (sI σ3 166 5 ((σ3.1 166 5) + (1 : Int32))) else none
set_option maxRecDepth 20000 in
set_option maxHeartbeats 2000000 in
theorem t_Md_jumps0 (v1 : Int32)  (σ : MH) {o} (h : Md_jumps0 v1 σ = some o) : Go m_Md_jumps 2 (some 0, [some (.ref 166), some (.int v1)], [], σ) ((none, [], [], o)) := by
  unfold Md_jumps0 at h
  obtain ⟨g1, h⟩ := gdS h
  refine Go.t (Go_sg bk_Md_jumps 0 20 (c2 := (some 31, [some (.ref 166), some (.int v1)], [.int (0 : Int32), .int v1, .ref 166], sI (sI σ 172 (σ.1 166 11).toNatClampNeg (((1048576 : Int32) * v1) + (σ.1 166 10))) 166 11 (((sI σ 172 (σ.1 166 11).toNatClampNeg (((1048576 : Int32) * v1) + (σ.1 166 10))).1 166 11) + (1 : Int32)))) (ps := [shk 166 = 11, shk 166 = 11, shk 166 = 11, IA 172 260 ∧ inb (σ.1 166 11) 260 = true, shk 166 = 11, shk 166 = 11]) rfl ⟨rfl, rfl, rfl, ⟨⟨rfl, rfl⟩, g1⟩, rfl, rfl, trivial⟩) ?_
  obtain ⟨σ3, q4, h⟩ := bdS h
  refine Go.t (Go_callV bk_Md_jumps 20 rfl nk_Md_notes tw1449 tw1451 tw58 (ci := 11) rfl (as := [.int v1, .int (0 : Int32)]) (S := []) rfl rfl rfl rfl (Nat.le_of_ble_eq_true rfl) (Nat.le_of_ble_eq_true rfl) (ev_Md_notes _ _ _ q4)) ?_
  have h := Option.some.inj h
  subst h
  refine Go.t (Go_sg bk_Md_jumps 21 6 (c2 := (some 44, [some (.ref 166), some (.int v1)], [], sI σ3 166 5 ((σ3.1 166 5) + (1 : Int32)))) (ps := [shk 166 = 11, shk 166 = 11]) rfl ⟨rfl, rfl, trivial⟩) ?_
  exact Go_ret0 bk_Md_jumps 27 rfl
def Md_jumps (v1 : Int32) (σ : MH) : Option (MH) := Md_jumps0 v1 σ
set_option maxRecDepth 20000 in
set_option maxHeartbeats 2000000 in
theorem ev_Md_jumps (v1 : Int32)  (σ : MH) {o} (h : Md_jumps v1 σ = some o) : Ev m_Md_jumps 2 [.ref 166, .int v1] σ none o := Ev.of2 (by decide +kernel) rfl (Nat.le_of_ble_eq_true rfl) rfl (t_Md_jumps0 v1 σ h)
def cH_Md_readsCondition_40  (s : MH) : MC := (some 40, [some (.ref 166)], [], s)
def cR_Md_readsCondition_40  : ((MH) ⊕ (Int32 × MH)) → MC := (cS (fun r : MH => ((some 170, [some (.ref 166)], [], r) : MC)) (fun r : Int32 × MH => ((none, [], [.int r.1], r.2) : MC)))
def Md_readsCondition_b75 (s0 : Int32) (σ : MH) : Option (((MH) ⊕ ((MH) ⊕ (Int32 × MH)))) := (Md_opens s0 σ).bind fun (x13, σ14) => if x13 = (0 : Int32) then some (.inr (.inr ((0 : Int32), σ14))) else some (.inl (σ14))
set_option maxRecDepth 20000 in
set_option maxHeartbeats 2000000 in
theorem t_Md_readsCondition_b75 (s0 : Int32)   (σ : MH) {o} (h : Md_readsCondition_b75 s0 σ = some o) : Go m_Md_readsCondition 7 (some 75, [some (.ref 166)], [.int s0, .ref 166], σ) (cS (cH_Md_readsCondition_40 ) (cR_Md_readsCondition_40 ) o) := by
  unfold Md_readsCondition_b75 at h
  obtain ⟨⟨x13, σ14⟩, q15, h⟩ := bdS h
  dsimp only at h
  refine Go.t (Go_callV bk_Md_readsCondition 38 rfl nk_Md_opens tw1436 tw1438 tw55 (ci := 11) rfl (as := [.int s0]) (S := []) rfl rfl rfl rfl (Nat.le_of_ble_eq_true rfl) (Nat.le_of_ble_eq_true rfl) (ev_Md_opens _ _ q15)) ?_
  refine Go_if_ne bk_Md_readsCondition 39 rfl (fun c16 => ?_) (fun c16 => ?_)
  · have h := ifF c16 h
    have h := Option.some.inj h
    subst h
    exact Go.fg (LSub.cs (LSub.nil))
  · have h := ifT c16 h
    have h := Option.some.inj h
    subst h
    refine Go.t (Go_sg bk_Md_readsCondition 40 1 (c2 := (some 82, [some (.ref 166)], [.int (0 : Int32)], σ14)) (ps := []) rfl trivial) ?_
    exact Go_reti bk_Md_readsCondition 41 rfl
def Md_readsCondition_b58  (σ : MH) : Option (((MH) ⊕ ((MH) ⊕ (Int32 × MH)))) := (Md_here σ).bind fun x10 => if x10 = (33 : Int32) then (Md_readsCondition_b75 (10 : Int32) σ) else (Md_readsCondition_b75 (13 : Int32) σ)
set_option maxRecDepth 20000 in
set_option maxHeartbeats 2000000 in
theorem t_Md_readsCondition_b58    (σ : MH) {o} (h : Md_readsCondition_b58 σ = some o) : Go m_Md_readsCondition 7 (some 58, [some (.ref 166)], [], σ) (cS (cH_Md_readsCondition_40 ) (cR_Md_readsCondition_40 ) o) := by
  unfold Md_readsCondition_b58 at h
  refine Go.t (Go_sg bk_Md_readsCondition 30 2 (c2 := (some 60, [some (.ref 166)], [.ref 166, .ref 166], σ)) (ps := []) rfl trivial) ?_
  obtain ⟨x10, q12, h⟩ := bdS h
  refine Go.t (Go_callV bk_Md_readsCondition 32 rfl nk_Md_here tw1417 tw1419 tw51 (ci := 11) rfl (as := []) (S := [.ref 166]) rfl rfl rfl rfl (Nat.le_of_ble_eq_true rfl) (Nat.le_of_ble_eq_true rfl) (ev_Md_here _ q12)) ?_
  refine Go.t (Go_sg bk_Md_readsCondition 33 1 (c2 := (some 65, [some (.ref 166)], [.int (33 : Int32), .int x10, .ref 166], σ)) (ps := []) rfl trivial) ?_
  refine Go_icmp_ne bk_Md_readsCondition 34 rfl (fun c17 => ?_) (fun c17 => ?_)
  · have h := ifF c17 h
    refine Go.t (Go_sg bk_Md_readsCondition 37 1 (c2 := (some 75, [some (.ref 166)], [.int (13 : Int32), .ref 166], σ)) (ps := []) rfl trivial) ?_
    exact Go.t (Go.fg (LSub.cs (LSub.nil))) (t_Md_readsCondition_b75 (13 : Int32) σ h)
  · have h := ifT c17 h
    refine Go.t (Go_sg bk_Md_readsCondition 35 2 (c2 := (some 75, [some (.ref 166)], [.int (10 : Int32), .ref 166], σ)) (ps := []) rfl trivial) ?_
    exact Go.t (Go.fg (LSub.cs (LSub.nil))) (t_Md_readsCondition_b75 (10 : Int32) σ h)
def cH_Md_readsCondition_92  (s : MH) : MC := (some 92, [some (.ref 166)], [], s)
def cR_Md_readsCondition_92  : ((MH) ⊕ (Int32 × MH)) → MC := (cS (fun r : MH => ((some 152, [some (.ref 166)], [], r) : MC)) (fun r : Int32 × MH => ((none, [], [.int r.1], r.2) : MC)))
def Md_readsCondition_l92  (σ : MH) : Option (((MH) ⊕ ((MH) ⊕ (Int32 × MH)))) := (Md_here σ).bind fun x24 => if x24 = (41 : Int32) then ((Md_lands (1 : Int32) σ).bind fun σ28 => if (sI (sI (sI σ28 166 11 ((σ28.1 166 11) - (1 : Int32))) 166 9 (((sI σ28 166 11 ((σ28.1 166 11) - (1 : Int32))).1 166 9) - (1 : Int32))) 166 5 (((sI (sI σ28 166 11 ((σ28.1 166 11) - (1 : Int32))) 166 9 (((sI σ28 166 11 ((σ28.1 166 11) - (1 : Int32))).1 166 9) - (1 : Int32))).1 166 5) + (1 : Int32))).1 166 11 = (0 : Int32) then some (.inr (.inr ((1 : Int32), sI (sI (sI σ28 166 11 ((σ28.1 166 11) - (1 : Int32))) 166 9 (((sI σ28 166 11 ((σ28.1 166 11) - (1 : Int32))).1 166 9) - (1 : Int32))) 166 5 (((sI (sI σ28 166 11 ((σ28.1 166 11) - (1 : Int32))) 166 9 (((sI σ28 166 11 ((σ28.1 166 11) - (1 : Int32))).1 166 9) - (1 : Int32))).1 166 5) + (1 : Int32))))) else ((Md_endsPiece (sI (sI (sI σ28 166 11 ((σ28.1 166 11) - (1 : Int32))) 166 9 (((sI σ28 166 11 ((σ28.1 166 11) - (1 : Int32))).1 166 9) - (1 : Int32))) 166 5 (((sI (sI σ28 166 11 ((σ28.1 166 11) - (1 : Int32))) 166 9 (((sI σ28 166 11 ((σ28.1 166 11) - (1 : Int32))).1 166 9) - (1 : Int32))).1 166 5) + (1 : Int32)))).bind fun σ31 => some (.inl (σ31)))) else some (.inr (.inl (σ)))
set_option maxRecDepth 20000 in
set_option maxHeartbeats 2000000 in
theorem t_Md_readsCondition_l92   (σ : MH) {o} (h : Md_readsCondition_l92 σ = some o) : Go m_Md_readsCondition 7 (cH_Md_readsCondition_92  (σ)) (cS (cH_Md_readsCondition_92 ) (cR_Md_readsCondition_92 ) o) := by
  unfold Md_readsCondition_l92 at h
  unfold cH_Md_readsCondition_92
  refine Go.t (Go_sg bk_Md_readsCondition 47 1 (c2 := (some 93, [some (.ref 166)], [.ref 166], σ)) (ps := []) rfl trivial) ?_
  obtain ⟨x24, q26, h⟩ := bdS h
  refine Go.t (Go_callV bk_Md_readsCondition 48 rfl nk_Md_here tw1417 tw1419 tw51 (ci := 11) rfl (as := []) (S := []) rfl rfl rfl rfl (Nat.le_of_ble_eq_true rfl) (Nat.le_of_ble_eq_true rfl) (ev_Md_here _ q26)) ?_
  refine Go.t (Go_sg bk_Md_readsCondition 49 1 (c2 := (some 98, [some (.ref 166)], [.int (41 : Int32), .int x24], σ)) (ps := []) rfl trivial) ?_
  refine Go_icmp_ne bk_Md_readsCondition 50 rfl (fun c34 => ?_) (fun c34 => ?_)
  · have h := ifF c34 h
    have h := Option.some.inj h
    subst h
    exact Go.fg (LSub.cs (LSub.nil))
  · have h := ifT c34 h
    refine Go.t (Go_sg bk_Md_readsCondition 51 2 (c2 := (some 103, [some (.ref 166)], [.int (1 : Int32), .ref 166], σ)) (ps := []) rfl trivial) ?_
    obtain ⟨σ28, q29, h⟩ := bdS h
    refine Go.t (Go_callV bk_Md_readsCondition 53 rfl nk_Md_lands tw1483 tw1485 tw65 (ci := 11) rfl (as := [.int (1 : Int32)]) (S := []) rfl rfl rfl rfl (Nat.le_of_ble_eq_true rfl) (Nat.le_of_ble_eq_true rfl) (ev_Md_lands _ _ q29)) ?_
    refine Go.t (Go_sg bk_Md_readsCondition 54 20 (c2 := (some 140, [some (.ref 166)], [.int ((sI (sI (sI σ28 166 11 ((σ28.1 166 11) - (1 : Int32))) 166 9 (((sI σ28 166 11 ((σ28.1 166 11) - (1 : Int32))).1 166 9) - (1 : Int32))) 166 5 (((sI (sI σ28 166 11 ((σ28.1 166 11) - (1 : Int32))) 166 9 (((sI σ28 166 11 ((σ28.1 166 11) - (1 : Int32))).1 166 9) - (1 : Int32))).1 166 5) + (1 : Int32))).1 166 11)], sI (sI (sI σ28 166 11 ((σ28.1 166 11) - (1 : Int32))) 166 9 (((sI σ28 166 11 ((σ28.1 166 11) - (1 : Int32))).1 166 9) - (1 : Int32))) 166 5 (((sI (sI σ28 166 11 ((σ28.1 166 11) - (1 : Int32))) 166 9 (((sI σ28 166 11 ((σ28.1 166 11) - (1 : Int32))).1 166 9) - (1 : Int32))).1 166 5) + (1 : Int32)))) (ps := [shk 166 = 11, shk 166 = 11, shk 166 = 11, shk 166 = 11, shk 166 = 11, shk 166 = 11, shk 166 = 11]) rfl ⟨rfl, rfl, rfl, rfl, rfl, rfl, rfl, trivial⟩) ?_
    refine Go_if_ne bk_Md_readsCondition 74 rfl (fun c33 => ?_) (fun c33 => ?_)
    · have h := ifF c33 h
      refine Go.t (Go_sg bk_Md_readsCondition 77 1 (c2 := (some 146, [some (.ref 166)], [.ref 166], sI (sI (sI σ28 166 11 ((σ28.1 166 11) - (1 : Int32))) 166 9 (((sI σ28 166 11 ((σ28.1 166 11) - (1 : Int32))).1 166 9) - (1 : Int32))) 166 5 (((sI (sI σ28 166 11 ((σ28.1 166 11) - (1 : Int32))) 166 9 (((sI σ28 166 11 ((σ28.1 166 11) - (1 : Int32))).1 166 9) - (1 : Int32))).1 166 5) + (1 : Int32)))) (ps := []) rfl trivial) ?_
      obtain ⟨σ31, q32, h⟩ := bdS h
      refine Go.t (Go_callV bk_Md_readsCondition 78 rfl nk_Md_endsPiece tw1479 tw1481 tw64 (ci := 11) rfl (as := []) (S := []) rfl rfl rfl rfl (Nat.le_of_ble_eq_true rfl) (Nat.le_of_ble_eq_true rfl) (ev_Md_endsPiece _ q32)) ?_
      refine Go.t (Go_sg bk_Md_readsCondition 79 1 (c2 := (some 92, [some (.ref 166)], [], σ31)) (ps := []) rfl trivial) ?_
      have h := Option.some.inj h
      subst h
      exact Go.fg (LSub.cs (LSub.nil))
    · have h := ifT c33 h
      have h := Option.some.inj h
      subst h
      refine Go.t (Go_sg bk_Md_readsCondition 75 1 (c2 := (some 144, [some (.ref 166)], [.int (1 : Int32)], sI (sI (sI σ28 166 11 ((σ28.1 166 11) - (1 : Int32))) 166 9 (((sI σ28 166 11 ((σ28.1 166 11) - (1 : Int32))).1 166 9) - (1 : Int32))) 166 5 (((sI (sI σ28 166 11 ((σ28.1 166 11) - (1 : Int32))) 166 9 (((sI σ28 166 11 ((σ28.1 166 11) - (1 : Int32))).1 166 9) - (1 : Int32))).1 166 5) + (1 : Int32)))) (ps := []) rfl trivial) ?_
      exact Go_reti bk_Md_readsCondition 76 rfl
def Md_readsCondition_L92  (s : MH) : Option ((MH) ⊕ (Int32 × MH)) := itr (fun s : MH => Md_readsCondition_l92 s) FU s
set_option maxRecDepth 20000 in
set_option maxHeartbeats 2000000 in
theorem t_Md_readsCondition_L92   (s : MH) {r} (h : Md_readsCondition_L92  s = some r) : Go m_Md_readsCondition 7 (cH_Md_readsCondition_92  s) (cR_Md_readsCondition_92  r) := Go_itr (fun s o ho => t_Md_readsCondition_l92 s ho) FU s r h
def Md_readsCondition_b215 (s0 : Int32) (σ : MH) : Option (((MH) ⊕ ((MH) ⊕ (Int32 × MH)))) := (Md_jumps s0 σ).bind fun σ50 => some (.inl (σ50))
set_option maxRecDepth 20000 in
set_option maxHeartbeats 2000000 in
theorem t_Md_readsCondition_b215 (s0 : Int32)   (σ : MH) {o} (h : Md_readsCondition_b215 s0 σ = some o) : Go m_Md_readsCondition 7 (some 215, [some (.ref 166)], [.int s0, .ref 166], σ) (cS (cH_Md_readsCondition_40 ) (cR_Md_readsCondition_40 ) o) := by
  unfold Md_readsCondition_b215 at h
  obtain ⟨σ50, q51, h⟩ := bdS h
  refine Go.t (Go_callV bk_Md_readsCondition 111 rfl nk_Md_jumps tw1487 tw1489 tw66 (ci := 11) rfl (as := [.int s0]) (S := []) rfl rfl rfl rfl (Nat.le_of_ble_eq_true rfl) (Nat.le_of_ble_eq_true rfl) (ev_Md_jumps _ _ q51)) ?_
  refine Go.t (Go_sg bk_Md_readsCondition 112 1 (c2 := (some 40, [some (.ref 166)], [], σ50)) (ps := []) rfl trivial) ?_
  have h := Option.some.inj h
  subst h
  exact Go.fg (LSub.cs (LSub.nil))
def Md_readsCondition_b195 (s0 : Int32) (σ : MH) : Option (((MH) ⊕ ((MH) ⊕ (Int32 × MH)))) := (Md_lands s0 σ).bind fun σ44 => (Md_here σ44).bind fun x46 => if x46 = (38 : Int32) then (Md_readsCondition_b215 (11 : Int32) σ44) else (Md_readsCondition_b215 (12 : Int32) σ44)
set_option maxRecDepth 20000 in
set_option maxHeartbeats 2000000 in
theorem t_Md_readsCondition_b195 (s0 : Int32)   (σ : MH) {o} (h : Md_readsCondition_b195 s0 σ = some o) : Go m_Md_readsCondition 7 (some 195, [some (.ref 166)], [.int s0, .ref 166], σ) (cS (cH_Md_readsCondition_40 ) (cR_Md_readsCondition_40 ) o) := by
  unfold Md_readsCondition_b195 at h
  obtain ⟨σ44, q45, h⟩ := bdS h
  refine Go.t (Go_callV bk_Md_readsCondition 102 rfl nk_Md_lands tw1483 tw1485 tw65 (ci := 11) rfl (as := [.int s0]) (S := []) rfl rfl rfl rfl (Nat.le_of_ble_eq_true rfl) (Nat.le_of_ble_eq_true rfl) (ev_Md_lands _ _ q45)) ?_
  refine Go.t (Go_sg bk_Md_readsCondition 103 2 (c2 := (some 200, [some (.ref 166)], [.ref 166, .ref 166], σ44)) (ps := []) rfl trivial) ?_
  obtain ⟨x46, q48, h⟩ := bdS h
  refine Go.t (Go_callV bk_Md_readsCondition 105 rfl nk_Md_here tw1417 tw1419 tw51 (ci := 11) rfl (as := []) (S := [.ref 166]) rfl rfl rfl rfl (Nat.le_of_ble_eq_true rfl) (Nat.le_of_ble_eq_true rfl) (ev_Md_here _ q48)) ?_
  refine Go.t (Go_sg bk_Md_readsCondition 106 1 (c2 := (some 205, [some (.ref 166)], [.int (38 : Int32), .int x46, .ref 166], σ44)) (ps := []) rfl trivial) ?_
  refine Go_icmp_ne bk_Md_readsCondition 107 rfl (fun c52 => ?_) (fun c52 => ?_)
  · have h := ifF c52 h
    refine Go.t (Go_sg bk_Md_readsCondition 110 1 (c2 := (some 215, [some (.ref 166)], [.int (12 : Int32), .ref 166], σ44)) (ps := []) rfl trivial) ?_
    exact Go.t (Go.fg (LSub.cs (LSub.nil))) (t_Md_readsCondition_b215 (12 : Int32) σ44 h)
  · have h := ifT c52 h
    refine Go.t (Go_sg bk_Md_readsCondition 108 2 (c2 := (some 215, [some (.ref 166)], [.int (11 : Int32), .ref 166], σ44)) (ps := []) rfl trivial) ?_
    exact Go.t (Go.fg (LSub.cs (LSub.nil))) (t_Md_readsCondition_b215 (11 : Int32) σ44 h)
def Md_readsCondition_b180  (σ : MH) : Option (((MH) ⊕ ((MH) ⊕ (Int32 × MH)))) := (Md_here σ).bind fun x40 => if x40 = (124 : Int32) then (Md_readsCondition_b195 (1 : Int32) σ) else (Md_readsCondition_b195 (0 : Int32) σ)
set_option maxRecDepth 20000 in
set_option maxHeartbeats 2000000 in
theorem t_Md_readsCondition_b180    (σ : MH) {o} (h : Md_readsCondition_b180 σ = some o) : Go m_Md_readsCondition 7 (some 180, [some (.ref 166)], [], σ) (cS (cH_Md_readsCondition_40 ) (cR_Md_readsCondition_40 ) o) := by
  unfold Md_readsCondition_b180 at h
  refine Go.t (Go_sg bk_Md_readsCondition 94 2 (c2 := (some 182, [some (.ref 166)], [.ref 166, .ref 166], σ)) (ps := []) rfl trivial) ?_
  obtain ⟨x40, q42, h⟩ := bdS h
  refine Go.t (Go_callV bk_Md_readsCondition 96 rfl nk_Md_here tw1417 tw1419 tw51 (ci := 11) rfl (as := []) (S := [.ref 166]) rfl rfl rfl rfl (Nat.le_of_ble_eq_true rfl) (Nat.le_of_ble_eq_true rfl) (ev_Md_here _ q42)) ?_
  refine Go.t (Go_sg bk_Md_readsCondition 97 1 (c2 := (some 187, [some (.ref 166)], [.int (124 : Int32), .int x40, .ref 166], σ)) (ps := []) rfl trivial) ?_
  refine Go_icmp_ne bk_Md_readsCondition 98 rfl (fun c53 => ?_) (fun c53 => ?_)
  · have h := ifF c53 h
    refine Go.t (Go_sg bk_Md_readsCondition 101 1 (c2 := (some 195, [some (.ref 166)], [.int (0 : Int32), .ref 166], σ)) (ps := []) rfl trivial) ?_
    exact Go.t (Go.fg (LSub.cs (LSub.nil))) (t_Md_readsCondition_b195 (0 : Int32) σ h)
  · have h := ifT c53 h
    refine Go.t (Go_sg bk_Md_readsCondition 99 2 (c2 := (some 195, [some (.ref 166)], [.int (1 : Int32), .ref 166], σ)) (ps := []) rfl trivial) ?_
    exact Go.t (Go.fg (LSub.cs (LSub.nil))) (t_Md_readsCondition_b195 (1 : Int32) σ h)
def Md_readsCondition_l40  (σ : MH) : Option (((MH) ⊕ ((MH) ⊕ (Int32 × MH)))) := (Md_here σ).bind fun x7 => if x7 = (33 : Int32) then (Md_readsCondition_b58 σ) else ((Md_here σ).bind fun x18 => if x18 = (40 : Int32) then (Md_readsCondition_b58 σ) else ((Md_readsCompared σ).bind fun (x21, σ22) => if x21 = (0 : Int32) then some (.inr (.inr ((0 : Int32), σ22))) else ((Md_readsCondition_L92 (σ22)).bind fun z35 => (match z35 with | .inl z35a => (Md_here z35a).bind fun x37 => if x37 = (38 : Int32) then (Md_readsCondition_b180 z35a) else ((Md_here z35a).bind fun x54 => if x54 = (124 : Int32) then (Md_readsCondition_b180 z35a) else some (.inr (.inl (z35a)))) | .inr z35b => some (.inr (.inr (z35b.1, z35b.2)))))))
set_option maxRecDepth 20000 in
set_option maxHeartbeats 2000000 in
theorem t_Md_readsCondition_l40   (σ : MH) {o} (h : Md_readsCondition_l40 σ = some o) : Go m_Md_readsCondition 7 (cH_Md_readsCondition_40  (σ)) (cS (cH_Md_readsCondition_40 ) (cR_Md_readsCondition_40 ) o) := by
  unfold Md_readsCondition_l40 at h
  unfold cH_Md_readsCondition_40
  refine Go.t (Go_sg bk_Md_readsCondition 22 1 (c2 := (some 41, [some (.ref 166)], [.ref 166], σ)) (ps := []) rfl trivial) ?_
  obtain ⟨x7, q9, h⟩ := bdS h
  refine Go.t (Go_callV bk_Md_readsCondition 23 rfl nk_Md_here tw1417 tw1419 tw51 (ci := 11) rfl (as := []) (S := []) rfl rfl rfl rfl (Nat.le_of_ble_eq_true rfl) (Nat.le_of_ble_eq_true rfl) (ev_Md_here _ q9)) ?_
  refine Go.t (Go_sg bk_Md_readsCondition 24 1 (c2 := (some 46, [some (.ref 166)], [.int (33 : Int32), .int x7], σ)) (ps := []) rfl trivial) ?_
  refine Go_icmp_eq bk_Md_readsCondition 25 rfl (fun c61 => ?_) (fun c61 => ?_)
  · have h := ifT c61 h
    exact Go.t (Go.fg (LSub.cs (LSub.nil))) (t_Md_readsCondition_b58 σ h)
  · have h := ifF c61 h
    refine Go.t (Go_sg bk_Md_readsCondition 26 1 (c2 := (some 50, [some (.ref 166)], [.ref 166], σ)) (ps := []) rfl trivial) ?_
    obtain ⟨x18, q20, h⟩ := bdS h
    refine Go.t (Go_callV bk_Md_readsCondition 27 rfl nk_Md_here tw1417 tw1419 tw51 (ci := 11) rfl (as := []) (S := []) rfl rfl rfl rfl (Nat.le_of_ble_eq_true rfl) (Nat.le_of_ble_eq_true rfl) (ev_Md_here _ q20)) ?_
    refine Go.t (Go_sg bk_Md_readsCondition 28 1 (c2 := (some 55, [some (.ref 166)], [.int (40 : Int32), .int x18], σ)) (ps := []) rfl trivial) ?_
    refine Go_icmp_ne bk_Md_readsCondition 29 rfl (fun c60 => ?_) (fun c60 => ?_)
    · have h := ifF c60 h
      refine Go.t (Go_sg bk_Md_readsCondition 42 1 (c2 := (some 84, [some (.ref 166)], [.ref 166], σ)) (ps := []) rfl trivial) ?_
      obtain ⟨⟨x21, σ22⟩, q23, h⟩ := bdS h
      dsimp only at h
      refine Go.t (Go_callV bk_Md_readsCondition 43 rfl nk_Md_readsCompared tw1475 tw1477 tw63 (ci := 11) rfl (as := []) (S := []) rfl rfl rfl rfl (Nat.le_of_ble_eq_true rfl) (Nat.le_of_ble_eq_true rfl) (ev_Md_readsCompared _ q23)) ?_
      refine Go_if_ne bk_Md_readsCondition 44 rfl (fun c59 => ?_) (fun c59 => ?_)
      · have h := ifF c59 h
        obtain ⟨z35, q36, h⟩ := bdS h
        refine Go.t (Go.t (Go.fg (LSub.cs (LSub.nil))) (t_Md_readsCondition_L92 _ q36)) ?_
        rcases z35 with z35a | z35b
        · dsimp only at h
          refine Go.t (Go_sg bk_Md_readsCondition 80 1 (c2 := (some 153, [some (.ref 166)], [.ref 166], z35a)) (ps := []) rfl trivial) ?_
          obtain ⟨x37, q39, h⟩ := bdS h
          refine Go.t (Go_callV bk_Md_readsCondition 81 rfl nk_Md_here tw1417 tw1419 tw51 (ci := 11) rfl (as := []) (S := []) rfl rfl rfl rfl (Nat.le_of_ble_eq_true rfl) (Nat.le_of_ble_eq_true rfl) (ev_Md_here _ q39)) ?_
          refine Go.t (Go_sg bk_Md_readsCondition 82 1 (c2 := (some 158, [some (.ref 166)], [.int (38 : Int32), .int x37], z35a)) (ps := []) rfl trivial) ?_
          refine Go_icmp_eq bk_Md_readsCondition 83 rfl (fun c58 => ?_) (fun c58 => ?_)
          · have h := ifT c58 h
            exact Go.t (Go.fg (LSub.cs (LSub.nil))) (t_Md_readsCondition_b180 z35a h)
          · have h := ifF c58 h
            refine Go.t (Go_sg bk_Md_readsCondition 84 1 (c2 := (some 162, [some (.ref 166)], [.ref 166], z35a)) (ps := []) rfl trivial) ?_
            obtain ⟨x54, q56, h⟩ := bdS h
            refine Go.t (Go_callV bk_Md_readsCondition 85 rfl nk_Md_here tw1417 tw1419 tw51 (ci := 11) rfl (as := []) (S := []) rfl rfl rfl rfl (Nat.le_of_ble_eq_true rfl) (Nat.le_of_ble_eq_true rfl) (ev_Md_here _ q56)) ?_
            refine Go.t (Go_sg bk_Md_readsCondition 86 1 (c2 := (some 167, [some (.ref 166)], [.int (124 : Int32), .int x54], z35a)) (ps := []) rfl trivial) ?_
            refine Go_icmp_eq bk_Md_readsCondition 87 rfl (fun c57 => ?_) (fun c57 => ?_)
            · have h := ifT c57 h
              exact Go.t (Go.fg (LSub.cs (LSub.nil))) (t_Md_readsCondition_b180 z35a h)
            · have h := ifF c57 h
              have h := Option.some.inj h
              subst h
              exact Go.fg (LSub.cs (LSub.nil))
        · dsimp only at h
          have h := Option.some.inj h
          subst h
          exact Go.rf
      · have h := ifT c59 h
        have h := Option.some.inj h
        subst h
        refine Go.t (Go_sg bk_Md_readsCondition 45 1 (c2 := (some 91, [some (.ref 166)], [.int (0 : Int32)], σ22)) (ps := []) rfl trivial) ?_
        exact Go_reti bk_Md_readsCondition 46 rfl
    · have h := ifT c60 h
      exact Go.t (Go.fg (LSub.cs (LSub.nil))) (t_Md_readsCondition_b58 σ h)
def Md_readsCondition_L40  (s : MH) : Option ((MH) ⊕ (Int32 × MH)) := itr (fun s : MH => Md_readsCondition_l40 s) FU s
set_option maxRecDepth 20000 in
set_option maxHeartbeats 2000000 in
theorem t_Md_readsCondition_L40   (s : MH) {r} (h : Md_readsCondition_L40  s = some r) : Go m_Md_readsCondition 7 (cH_Md_readsCondition_40  s) (cR_Md_readsCondition_40  r) := Go_itr (fun s o ho => t_Md_readsCondition_l40 s ho) FU s r h
def Md_readsCondition0  (σ : MH) : Option (Int32 × MH) := (Md_here σ).bind fun x1 => if x1 = (40 : Int32) then ((Md_opens (13 : Int32) (sI (sI σ 166 9 (0 : Int32)) 166 11 (0 : Int32))).bind fun (x4, σ5) => if x4 = (0 : Int32) then some ((0 : Int32), σ5) else ((Md_readsCondition_L40 (σ5)).bind fun z62 => (match z62 with | .inl z62a => (Md_wrongAt (1 : Int32) (z62a.1 166 5) z62a).bind fun (x64, σ65) => some (x64, σ65) | .inr z62b => some (z62b.1, z62b.2)))) else ((Md_wrongAt (1 : Int32) (σ.1 166 5) σ).bind fun (x68, σ69) => some (x68, σ69))
set_option maxRecDepth 20000 in
set_option maxHeartbeats 2000000 in
theorem t_Md_readsCondition0   (σ : MH) {o} (h : Md_readsCondition0 σ = some o) : Go m_Md_readsCondition 7 (some 0, [some (.ref 166)], [], σ) ((none, [], [.int o.1], o.2)) := by
  unfold Md_readsCondition0 at h
  refine Go.t (Go_sg bk_Md_readsCondition 0 1 (c2 := (some 1, [some (.ref 166)], [.ref 166], σ)) (ps := []) rfl trivial) ?_
  obtain ⟨x1, q3, h⟩ := bdS h
  refine Go.t (Go_callV bk_Md_readsCondition 1 rfl nk_Md_here tw1417 tw1419 tw51 (ci := 11) rfl (as := []) (S := []) rfl rfl rfl rfl (Nat.le_of_ble_eq_true rfl) (Nat.le_of_ble_eq_true rfl) (ev_Md_here _ q3)) ?_
  refine Go.t (Go_sg bk_Md_readsCondition 2 1 (c2 := (some 6, [some (.ref 166)], [.int (40 : Int32), .int x1], σ)) (ps := []) rfl trivial) ?_
  refine Go_icmp_eq bk_Md_readsCondition 3 rfl (fun c71 => ?_) (fun c71 => ?_)
  · have h := ifT c71 h
    refine Go.t (Go_sg bk_Md_readsCondition 10 8 (c2 := (some 32, [some (.ref 166)], [.int (13 : Int32), .ref 166], sI (sI σ 166 9 (0 : Int32)) 166 11 (0 : Int32))) (ps := [shk 166 = 11, shk 166 = 11]) rfl ⟨rfl, rfl, trivial⟩) ?_
    obtain ⟨⟨x4, σ5⟩, q6, h⟩ := bdS h
    dsimp only at h
    refine Go.t (Go_callV bk_Md_readsCondition 18 rfl nk_Md_opens tw1436 tw1438 tw55 (ci := 11) rfl (as := [.int (13 : Int32)]) (S := []) rfl rfl rfl rfl (Nat.le_of_ble_eq_true rfl) (Nat.le_of_ble_eq_true rfl) (ev_Md_opens _ _ q6)) ?_
    refine Go_if_ne bk_Md_readsCondition 19 rfl (fun c67 => ?_) (fun c67 => ?_)
    · have h := ifF c67 h
      obtain ⟨z62, q63, h⟩ := bdS h
      refine Go.t (Go.t (Go.fg (LSub.cs (LSub.nil))) (t_Md_readsCondition_L40 _ q63)) ?_
      rcases z62 with z62a | z62b
      · dsimp only at h
        refine Go.t (Go_sg bk_Md_readsCondition 88 4 (c2 := (some 176, [some (.ref 166)], [.int (z62a.1 166 5), .int (1 : Int32), .ref 166], z62a)) (ps := [shk 166 = 11]) rfl ⟨rfl, trivial⟩) ?_
        obtain ⟨⟨x64, σ65⟩, q66, h⟩ := bdS h
        dsimp only at h
        refine Go.t (Go_callV bk_Md_readsCondition 92 rfl nk_Md_wrongAt tw1424 tw1426 tw52 (ci := 11) rfl (as := [.int (1 : Int32), .int (z62a.1 166 5)]) (S := []) rfl rfl rfl rfl (Nat.le_of_ble_eq_true rfl) (Nat.le_of_ble_eq_true rfl) (ev_Md_wrongAt _ _ _ q66)) ?_
        have h := Option.some.inj h
        subst h
        exact Go_reti bk_Md_readsCondition 93 rfl
      · dsimp only at h
        have h := Option.some.inj h
        subst h
        exact Go.rf
    · have h := ifT c67 h
      have h := Option.some.inj h
      subst h
      refine Go.t (Go_sg bk_Md_readsCondition 20 1 (c2 := (some 39, [some (.ref 166)], [.int (0 : Int32)], σ5)) (ps := []) rfl trivial) ?_
      exact Go_reti bk_Md_readsCondition 21 rfl
  · have h := ifF c71 h
    refine Go.t (Go_sg bk_Md_readsCondition 4 4 (c2 := (some 15, [some (.ref 166)], [.int (σ.1 166 5), .int (1 : Int32), .ref 166], σ)) (ps := [shk 166 = 11]) rfl ⟨rfl, trivial⟩) ?_
    obtain ⟨⟨x68, σ69⟩, q70, h⟩ := bdS h
    dsimp only at h
    refine Go.t (Go_callV bk_Md_readsCondition 8 rfl nk_Md_wrongAt tw1424 tw1426 tw52 (ci := 11) rfl (as := [.int (1 : Int32), .int (σ.1 166 5)]) (S := []) rfl rfl rfl rfl (Nat.le_of_ble_eq_true rfl) (Nat.le_of_ble_eq_true rfl) (ev_Md_wrongAt _ _ _ q70)) ?_
    have h := Option.some.inj h
    subst h
    exact Go_reti bk_Md_readsCondition 9 rfl
def Md_readsCondition  (σ : MH) : Option (Int32 × MH) := bzo (Md_readsCondition0 σ)
set_option maxRecDepth 20000 in
set_option maxHeartbeats 2000000 in
theorem ev_Md_readsCondition   (σ : MH) {o} (h : Md_readsCondition σ = some o) : Ev m_Md_readsCondition 7 [.ref 166] σ (some (.int o.1)) o.2 := Ev.of2 (by decide +kernel) rfl (Nat.le_of_ble_eq_true rfl) ⟨.boolean, rfl, nrB (bzo2 h)⟩ (t_Md_readsCondition0 σ (bzo1 h))
def Md_readsClause0  (σ : MH) : Option (Int32 × MH) := (Md_here σ).bind fun x1 => (Md_isClause x1 σ).bind fun x4 => if x4 = (0 : Int32) then ((Md_wrongAt (1 : Int32) (σ.1 166 5) σ).bind fun (x23, σ24) => some (x23, σ24)) else (if σ.1 166 12 = (16 : Int32) then ((Md_wrongAt (4 : Int32) (σ.1 166 5) σ).bind fun (x19, σ20) => some (x19, σ20)) else (if inb (σ.1 166 12) 16 = true then if inb ((sI (sI σ 173 (σ.1 166 12).toNatClampNeg x1) 166 5 (((sI σ 173 (σ.1 166 12).toNatClampNeg x1).1 166 5) + (1 : Int32))).1 166 12) 16 = true then (Md_readsSum (sI (sI (sI (sI (sI σ 173 (σ.1 166 12).toNatClampNeg x1) 166 5 (((sI σ 173 (σ.1 166 12).toNatClampNeg x1).1 166 5) + (1 : Int32))) 174 ((sI (sI σ 173 (σ.1 166 12).toNatClampNeg x1) 166 5 (((sI σ 173 (σ.1 166 12).toNatClampNeg x1).1 166 5) + (1 : Int32))).1 166 12).toNatClampNeg ((sI (sI σ 173 (σ.1 166 12).toNatClampNeg x1) 166 5 (((sI σ 173 (σ.1 166 12).toNatClampNeg x1).1 166 5) + (1 : Int32))).1 166 10)) 166 9 (0 : Int32)) 166 11 (0 : Int32))).bind fun (x9, σ10) => if x9 = (0 : Int32) then some ((0 : Int32), σ10) else (if inb (σ10.1 166 12) 16 = true then (Md_readsCondition (sI σ10 175 (σ10.1 166 12).toNatClampNeg (σ10.1 166 10))).bind fun (x13, σ14) => if x13 = (0 : Int32) then some ((0 : Int32), σ14) else (if inb (σ14.1 166 12) 16 = true then some ((1 : Int32), sI (sI σ14 176 (σ14.1 166 12).toNatClampNeg (σ14.1 166 10)) 166 12 (((sI σ14 176 (σ14.1 166 12).toNatClampNeg (σ14.1 166 10)).1 166 12) + (1 : Int32))) else none) else none) else none else none))
set_option maxRecDepth 20000 in
set_option maxHeartbeats 2000000 in
theorem t_Md_readsClause0   (σ : MH) {o} (h : Md_readsClause0 σ = some o) : Go m_Md_readsClause 8 (some 0, [some (.ref 166), none], [], σ) ((none, [], [.int o.1], o.2)) := by
  unfold Md_readsClause0 at h
  refine Go.t (Go_sg bk_Md_readsClause 0 1 (c2 := (some 1, [some (.ref 166), none], [.ref 166], σ)) (ps := []) rfl trivial) ?_
  obtain ⟨x1, q3, h⟩ := bdS h
  refine Go.t (Go_callV bk_Md_readsClause 1 rfl nk_Md_here tw1417 tw1419 tw51 (ci := 11) rfl (as := []) (S := []) rfl rfl rfl rfl (Nat.le_of_ble_eq_true rfl) (Nat.le_of_ble_eq_true rfl) (ev_Md_here _ q3)) ?_
  refine Go.t (Go_sg bk_Md_readsClause 2 2 (c2 := (some 6, [some (.ref 166), some (.int x1)], [.int x1], σ)) (ps := []) rfl trivial) ?_
  obtain ⟨x4, q6, h⟩ := bdS h
  refine Go.t (Go_callS bk_Md_readsClause 4 rfl nk_Md_isClause tw1421 tw1422 (as := [.int x1]) (S := []) rfl rfl rfl (Nat.le_of_ble_eq_true rfl) (Nat.le_of_ble_eq_true rfl) (ev_Md_isClause _ _ q6)) ?_
  refine Go_if_ne bk_Md_readsClause 5 rfl (fun c26 => ?_) (fun c26 => ?_)
  · have h := ifF c26 h
    refine Go.t (Go_sg bk_Md_readsClause 12 3 (c2 := (some 28, [some (.ref 166), some (.int x1)], [.int (16 : Int32), .int (σ.1 166 12)], σ)) (ps := [shk 166 = 11]) rfl ⟨rfl, trivial⟩) ?_
    refine Go_icmp_ne bk_Md_readsClause 15 rfl (fun c22 => ?_) (fun c22 => ?_)
    · have h := ifF c22 h
      obtain ⟨g7, h⟩ := gdS h
      obtain ⟨g8, h⟩ := gdS h
      refine Go.t (Go_sg bk_Md_readsClause 22 26 (c2 := (some 85, [some (.ref 166), some (.int x1)], [.ref 166], sI (sI (sI (sI (sI σ 173 (σ.1 166 12).toNatClampNeg x1) 166 5 (((sI σ 173 (σ.1 166 12).toNatClampNeg x1).1 166 5) + (1 : Int32))) 174 ((sI (sI σ 173 (σ.1 166 12).toNatClampNeg x1) 166 5 (((sI σ 173 (σ.1 166 12).toNatClampNeg x1).1 166 5) + (1 : Int32))).1 166 12).toNatClampNeg ((sI (sI σ 173 (σ.1 166 12).toNatClampNeg x1) 166 5 (((sI σ 173 (σ.1 166 12).toNatClampNeg x1).1 166 5) + (1 : Int32))).1 166 10)) 166 9 (0 : Int32)) 166 11 (0 : Int32))) (ps := [shk 166 = 11, shk 166 = 11, IA 173 16 ∧ inb (σ.1 166 12) 16 = true, shk 166 = 11, shk 166 = 11, shk 166 = 11, shk 166 = 11, shk 166 = 11, IA 174 16 ∧ inb ((sI (sI σ 173 (σ.1 166 12).toNatClampNeg x1) 166 5 (((sI σ 173 (σ.1 166 12).toNatClampNeg x1).1 166 5) + (1 : Int32))).1 166 12) 16 = true, shk 166 = 11, shk 166 = 11]) rfl ⟨rfl, rfl, ⟨⟨rfl, rfl⟩, g7⟩, rfl, rfl, rfl, rfl, rfl, ⟨⟨rfl, rfl⟩, g8⟩, rfl, rfl, trivial⟩) ?_
      obtain ⟨⟨x9, σ10⟩, q11, h⟩ := bdS h
      dsimp only at h
      refine Go.t (Go_callV bk_Md_readsClause 48 rfl nk_Md_readsSum tw1428 tw1430 tw53 (ci := 11) rfl (as := []) (S := []) rfl rfl rfl rfl (Nat.le_of_ble_eq_true rfl) (Nat.le_of_ble_eq_true rfl) (ev_Md_readsSum _ q11)) ?_
      refine Go_if_ne bk_Md_readsClause 49 rfl (fun c18 => ?_) (fun c18 => ?_)
      · have h := ifF c18 h
        obtain ⟨g12, h⟩ := gdS h
        refine Go.t (Go_sg bk_Md_readsClause 52 8 (c2 := (some 107, [some (.ref 166), some (.int x1)], [.ref 166], sI σ10 175 (σ10.1 166 12).toNatClampNeg (σ10.1 166 10))) (ps := [shk 166 = 11, shk 166 = 11, shk 166 = 11, IA 175 16 ∧ inb (σ10.1 166 12) 16 = true]) rfl ⟨rfl, rfl, rfl, ⟨⟨rfl, rfl⟩, g12⟩, trivial⟩) ?_
        obtain ⟨⟨x13, σ14⟩, q15, h⟩ := bdS h
        dsimp only at h
        refine Go.t (Go_callV bk_Md_readsClause 60 rfl nk_Md_readsCondition tw1471 tw1473 tw62 (ci := 11) rfl (as := []) (S := []) rfl rfl rfl rfl (Nat.le_of_ble_eq_true rfl) (Nat.le_of_ble_eq_true rfl) (ev_Md_readsCondition _ q15)) ?_
        refine Go_if_ne bk_Md_readsClause 61 rfl (fun c17 => ?_) (fun c17 => ?_)
        · have h := ifF c17 h
          obtain ⟨g16, h⟩ := gdS h
          have h := Option.some.inj h
          subst h
          refine Go.t (Go_sg bk_Md_readsClause 64 14 (c2 := (some 139, [some (.ref 166), some (.int x1)], [.int (1 : Int32)], sI (sI σ14 176 (σ14.1 166 12).toNatClampNeg (σ14.1 166 10)) 166 12 (((sI σ14 176 (σ14.1 166 12).toNatClampNeg (σ14.1 166 10)).1 166 12) + (1 : Int32)))) (ps := [shk 166 = 11, shk 166 = 11, shk 166 = 11, IA 176 16 ∧ inb (σ14.1 166 12) 16 = true, shk 166 = 11, shk 166 = 11]) rfl ⟨rfl, rfl, rfl, ⟨⟨rfl, rfl⟩, g16⟩, rfl, rfl, trivial⟩) ?_
          exact Go_reti bk_Md_readsClause 78 rfl
        · have h := ifT c17 h
          have h := Option.some.inj h
          subst h
          refine Go.t (Go_sg bk_Md_readsClause 62 1 (c2 := (some 114, [some (.ref 166), some (.int x1)], [.int (0 : Int32)], σ14)) (ps := []) rfl trivial) ?_
          exact Go_reti bk_Md_readsClause 63 rfl
      · have h := ifT c18 h
        have h := Option.some.inj h
        subst h
        refine Go.t (Go_sg bk_Md_readsClause 50 1 (c2 := (some 92, [some (.ref 166), some (.int x1)], [.int (0 : Int32)], σ10)) (ps := []) rfl trivial) ?_
        exact Go_reti bk_Md_readsClause 51 rfl
    · have h := ifT c22 h
      refine Go.t (Go_sg bk_Md_readsClause 16 4 (c2 := (some 37, [some (.ref 166), some (.int x1)], [.int (σ.1 166 5), .int (4 : Int32), .ref 166], σ)) (ps := [shk 166 = 11]) rfl ⟨rfl, trivial⟩) ?_
      obtain ⟨⟨x19, σ20⟩, q21, h⟩ := bdS h
      dsimp only at h
      refine Go.t (Go_callV bk_Md_readsClause 20 rfl nk_Md_wrongAt tw1424 tw1426 tw52 (ci := 11) rfl (as := [.int (4 : Int32), .int (σ.1 166 5)]) (S := []) rfl rfl rfl rfl (Nat.le_of_ble_eq_true rfl) (Nat.le_of_ble_eq_true rfl) (ev_Md_wrongAt _ _ _ q21)) ?_
      have h := Option.some.inj h
      subst h
      exact Go_reti bk_Md_readsClause 21 rfl
  · have h := ifT c26 h
    refine Go.t (Go_sg bk_Md_readsClause 6 4 (c2 := (some 18, [some (.ref 166), some (.int x1)], [.int (σ.1 166 5), .int (1 : Int32), .ref 166], σ)) (ps := [shk 166 = 11]) rfl ⟨rfl, trivial⟩) ?_
    obtain ⟨⟨x23, σ24⟩, q25, h⟩ := bdS h
    dsimp only at h
    refine Go.t (Go_callV bk_Md_readsClause 10 rfl nk_Md_wrongAt tw1424 tw1426 tw52 (ci := 11) rfl (as := [.int (1 : Int32), .int (σ.1 166 5)]) (S := []) rfl rfl rfl rfl (Nat.le_of_ble_eq_true rfl) (Nat.le_of_ble_eq_true rfl) (ev_Md_wrongAt _ _ _ q25)) ?_
    have h := Option.some.inj h
    subst h
    exact Go_reti bk_Md_readsClause 11 rfl
def Md_readsClause  (σ : MH) : Option (Int32 × MH) := bzo (Md_readsClause0 σ)
set_option maxRecDepth 20000 in
set_option maxHeartbeats 2000000 in
theorem ev_Md_readsClause   (σ : MH) {o} (h : Md_readsClause σ = some o) : Ev m_Md_readsClause 8 [.ref 166] σ (some (.int o.1)) o.2 := Ev.of2 (by decide +kernel) rfl (Nat.le_of_ble_eq_true rfl) ⟨.boolean, rfl, nrB (bzo2 h)⟩ (t_Md_readsClause0 σ (bzo1 h))
def Md_takes0 (v1 : Int32) (σ : MH) : Option (Int32 × MH) := (Md_here σ).bind fun x1 => if x1 = v1 then some ((1 : Int32), sI σ 166 5 ((σ.1 166 5) + (1 : Int32))) else ((Md_wrongAt (1 : Int32) (σ.1 166 5) σ).bind fun (x4, σ5) => some (x4, σ5))
set_option maxRecDepth 20000 in
set_option maxHeartbeats 2000000 in
theorem t_Md_takes0 (v1 : Int32)  (σ : MH) {o} (h : Md_takes0 v1 σ = some o) : Go m_Md_takes 2 (some 0, [some (.ref 166), some (.int v1)], [], σ) ((none, [], [.int o.1], o.2)) := by
  unfold Md_takes0 at h
  refine Go.t (Go_sg bk_Md_takes 0 1 (c2 := (some 1, [some (.ref 166), some (.int v1)], [.ref 166], σ)) (ps := []) rfl trivial) ?_
  obtain ⟨x1, q3, h⟩ := bdS h
  refine Go.t (Go_callV bk_Md_takes 1 rfl nk_Md_here tw1417 tw1419 tw51 (ci := 11) rfl (as := []) (S := []) rfl rfl rfl rfl (Nat.le_of_ble_eq_true rfl) (Nat.le_of_ble_eq_true rfl) (ev_Md_here _ q3)) ?_
  refine Go.t (Go_sg bk_Md_takes 2 1 (c2 := (some 5, [some (.ref 166), some (.int v1)], [.int v1, .int x1], σ)) (ps := []) rfl trivial) ?_
  refine Go_icmp_eq bk_Md_takes 3 rfl (fun c7 => ?_) (fun c7 => ?_)
  · have h := ifT c7 h
    have h := Option.some.inj h
    subst h
    refine Go.t (Go_sg bk_Md_takes 10 7 (c2 := (some 29, [some (.ref 166), some (.int v1)], [.int (1 : Int32)], sI σ 166 5 ((σ.1 166 5) + (1 : Int32)))) (ps := [shk 166 = 11, shk 166 = 11]) rfl ⟨rfl, rfl, trivial⟩) ?_
    exact Go_reti bk_Md_takes 17 rfl
  · have h := ifF c7 h
    refine Go.t (Go_sg bk_Md_takes 4 4 (c2 := (some 14, [some (.ref 166), some (.int v1)], [.int (σ.1 166 5), .int (1 : Int32), .ref 166], σ)) (ps := [shk 166 = 11]) rfl ⟨rfl, trivial⟩) ?_
    obtain ⟨⟨x4, σ5⟩, q6, h⟩ := bdS h
    dsimp only at h
    refine Go.t (Go_callV bk_Md_takes 8 rfl nk_Md_wrongAt tw1424 tw1426 tw52 (ci := 11) rfl (as := [.int (1 : Int32), .int (σ.1 166 5)]) (S := []) rfl rfl rfl rfl (Nat.le_of_ble_eq_true rfl) (Nat.le_of_ble_eq_true rfl) (ev_Md_wrongAt _ _ _ q6)) ?_
    have h := Option.some.inj h
    subst h
    exact Go_reti bk_Md_takes 9 rfl
def Md_takes (v1 : Int32) (σ : MH) : Option (Int32 × MH) := bzo (Md_takes0 v1 σ)
set_option maxRecDepth 20000 in
set_option maxHeartbeats 2000000 in
theorem ev_Md_takes (v1 : Int32)  (σ : MH) {o} (h : Md_takes v1 σ = some o) : Ev m_Md_takes 2 [.ref 166, .int v1] σ (some (.int o.1)) o.2 := Ev.of2 (by decide +kernel) rfl (Nat.le_of_ble_eq_true rfl) ⟨.boolean, rfl, nrB (bzo2 h)⟩ (t_Md_takes0 v1 σ (bzo1 h))
def cH_Md_law_46  (s : Int32 × MH) : MC := (some 46, [some (.ref 166), none, some (.int s.1), none], [], s.2)
def cR_Md_law_46  : ((Int32 × MH)) → MC := (fun r : Int32 × MH => ((some 86, [some (.ref 166), none, some (.int r.1), none], [], r.2) : MC))
def Md_law_b82 (s0 : Int32) (σ : MH) : Option (((Int32 × MH) ⊕ ((Int32 × MH)))) := some (.inl (s0, σ))
set_option maxRecDepth 20000 in
set_option maxHeartbeats 2000000 in
theorem t_Md_law_b82 (s0 : Int32)   (σ : MH) {o} (h : Md_law_b82 s0 σ = some o) : Go m_Md_law 9 (some 82, [some (.ref 166), none, none, none], [.int s0], σ) (cS (cH_Md_law_46 ) (cR_Md_law_46 ) o) := by
  unfold Md_law_b82 at h
  refine Go.t (Go_sg bk_Md_law 43 2 (c2 := (some 46, [some (.ref 166), none, some (.int s0), none], [], σ)) (ps := []) rfl trivial) ?_
  have h := Option.some.inj h
  subst h
  exact Go.fg (LSub.cs (LSub.cn (LSub.cs (LSub.cn (LSub.nil)))))
def Md_law_b81  (σ : MH) : Option (((Int32 × MH) ⊕ ((Int32 × MH)))) := Md_law_b82 (0 : Int32) σ
set_option maxRecDepth 20000 in
set_option maxHeartbeats 2000000 in
theorem t_Md_law_b81    (σ : MH) {o} (h : Md_law_b81 σ = some o) : Go m_Md_law 9 (some 81, [some (.ref 166), none, none, none], [], σ) (cS (cH_Md_law_46 ) (cR_Md_law_46 ) o) := by
  unfold Md_law_b81 at h
  refine Go.t (Go_sg bk_Md_law 42 1 (c2 := (some 82, [some (.ref 166), none, none, none], [.int (0 : Int32)], σ)) (ps := []) rfl trivial) ?_
  exact Go.t (Go.fg (LSub.cs (LSub.cn (LSub.cn (LSub.cn (LSub.nil)))))) (t_Md_law_b82 (0 : Int32) σ h)
def Md_law_l46 (v2 : Int32) (σ : MH) : Option (((Int32 × MH) ⊕ ((Int32 × MH)))) := if v2 = (0 : Int32) then some (.inr (v2, σ)) else (if σ.1 166 6 ≤ σ.1 166 5 then some (.inr (v2, σ)) else ((Md_takes (59 : Int32) σ).bind fun (x7, σ8) => if x7 = (0 : Int32) then (Md_law_b81 σ8) else ((Md_readsClause σ8).bind fun (x10, σ11) => if x10 = (0 : Int32) then (Md_law_b81 σ11) else (Md_law_b82 (1 : Int32) σ11))))
set_option maxRecDepth 20000 in
set_option maxHeartbeats 2000000 in
theorem t_Md_law_l46 (v2 : Int32)  (σ : MH) {o} (h : Md_law_l46 v2 σ = some o) : Go m_Md_law 9 (cH_Md_law_46  (v2, σ)) (cS (cH_Md_law_46 ) (cR_Md_law_46 ) o) := by
  unfold Md_law_l46 at h
  unfold cH_Md_law_46
  refine Go.t (Go_sg bk_Md_law 26 1 (c2 := (some 47, [some (.ref 166), none, some (.int v2), none], [.int v2], σ)) (ps := []) rfl trivial) ?_
  refine Go_if_eq bk_Md_law 27 rfl (fun c16 => ?_) (fun c16 => ?_)
  · have h := ifT c16 h
    have h := Option.some.inj h
    subst h
    exact Go.fg (LSub.cs (LSub.cn (LSub.cs (LSub.cn (LSub.nil)))))
  · have h := ifF c16 h
    refine Go.t (Go_sg bk_Md_law 28 4 (c2 := (some 58, [some (.ref 166), none, some (.int v2), none], [.int (σ.1 166 6), .int (σ.1 166 5)], σ)) (ps := [shk 166 = 11, shk 166 = 11]) rfl ⟨rfl, rfl, trivial⟩) ?_
    refine Go_icmp_ge bk_Md_law 32 rfl (fun c15 => ?_) (fun c15 => ?_)
    · have h := ifT c15 h
      have h := Option.some.inj h
      subst h
      exact Go.fg (LSub.cs (LSub.cn (LSub.cs (LSub.cn (LSub.nil)))))
    · have h := ifF c15 h
      refine Go.t (Go_sg bk_Md_law 33 2 (c2 := (some 64, [some (.ref 166), none, some (.int v2), none], [.int (59 : Int32), .ref 166], σ)) (ps := []) rfl trivial) ?_
      obtain ⟨⟨x7, σ8⟩, q9, h⟩ := bdS h
      dsimp only at h
      refine Go.t (Go_callV bk_Md_law 35 rfl nk_Md_takes tw1491 tw1493 tw67 (ci := 11) rfl (as := [.int (59 : Int32)]) (S := []) rfl rfl rfl rfl (Nat.le_of_ble_eq_true rfl) (Nat.le_of_ble_eq_true rfl) (ev_Md_takes _ _ q9)) ?_
      refine Go_if_eq bk_Md_law 36 rfl (fun c14 => ?_) (fun c14 => ?_)
      · have h := ifT c14 h
        exact Go.t (Go.fg (LSub.cs (LSub.cn (LSub.cn (LSub.cn (LSub.nil)))))) (t_Md_law_b81 σ8 h)
      · have h := ifF c14 h
        refine Go.t (Go_sg bk_Md_law 37 1 (c2 := (some 71, [some (.ref 166), none, some (.int v2), none], [.ref 166], σ8)) (ps := []) rfl trivial) ?_
        obtain ⟨⟨x10, σ11⟩, q12, h⟩ := bdS h
        dsimp only at h
        refine Go.t (Go_callV bk_Md_law 38 rfl nk_Md_readsClause tw1413 tw1415 tw50 (ci := 11) rfl (as := []) (S := []) rfl rfl rfl rfl (Nat.le_of_ble_eq_true rfl) (Nat.le_of_ble_eq_true rfl) (ev_Md_readsClause _ q12)) ?_
        refine Go_if_eq bk_Md_law 39 rfl (fun c13 => ?_) (fun c13 => ?_)
        · have h := ifT c13 h
          exact Go.t (Go.fg (LSub.cs (LSub.cn (LSub.cn (LSub.cn (LSub.nil)))))) (t_Md_law_b81 σ11 h)
        · have h := ifF c13 h
          refine Go.t (Go_sg bk_Md_law 40 2 (c2 := (some 82, [some (.ref 166), none, some (.int v2), none], [.int (1 : Int32)], σ11)) (ps := []) rfl trivial) ?_
          exact Go.t (Go.fg (LSub.cs (LSub.cn (LSub.cn (LSub.cn (LSub.nil)))))) (t_Md_law_b82 (1 : Int32) σ11 h)
def Md_law_L46  (s : Int32 × MH) : Option ((Int32 × MH)) := itr (fun s : Int32 × MH => Md_law_l46 s.1 s.2) FU s
set_option maxRecDepth 20000 in
set_option maxHeartbeats 2000000 in
theorem t_Md_law_L46   (s : Int32 × MH) {r} (h : Md_law_L46  s = some r) : Go m_Md_law 9 (cH_Md_law_46  s) (cR_Md_law_46  r) := Go_itr (fun s o ho => t_Md_law_l46 s.1 s.2 ho) FU s r h
def cH_Md_law_110  (s : Int32 × MH) : MC := (some 110, [some (.ref 166), none, none, some (.int s.1)], [], s.2)
def cR_Md_law_110  : ((MH)) → MC := (fun r : MH => ((some 136, [some (.ref 166), none, none, none], [], r) : MC))
def Md_law_l110 (v3 : Int32) (σ : MH) : Option (((Int32 × MH) ⊕ ((MH)))) := if σ.1 166 10 ≤ v3 then some (.inr (σ)) else (if inb v3 260 = true then some (.inl (v3 + (1 : Int32), sI σ 177 v3.toNatClampNeg (σ.1 171 v3.toNatClampNeg))) else none)
set_option maxRecDepth 20000 in
set_option maxHeartbeats 2000000 in
theorem t_Md_law_l110 (v3 : Int32)  (σ : MH) {o} (h : Md_law_l110 v3 σ = some o) : Go m_Md_law 9 (cH_Md_law_110  (v3, σ)) (cS (cH_Md_law_110 ) (cR_Md_law_110 ) o) := by
  unfold Md_law_l110 at h
  unfold cH_Md_law_110
  refine Go.t (Go_sg bk_Md_law 59 3 (c2 := (some 115, [some (.ref 166), none, none, some (.int v3)], [.int (σ.1 166 10), .int v3], σ)) (ps := [shk 166 = 11]) rfl ⟨rfl, trivial⟩) ?_
  refine Go_icmp_ge bk_Md_law 62 rfl (fun c20 => ?_) (fun c20 => ?_)
  · have h := ifT c20 h
    have h := Option.some.inj h
    subst h
    exact Go.fg (LSub.cs (LSub.cn (LSub.cn (LSub.cn (LSub.nil)))))
  · have h := ifF c20 h
    obtain ⟨g19, h⟩ := gdS h
    refine Go.t (Go_sg bk_Md_law 63 10 (c2 := (some 110, [some (.ref 166), none, none, some (.int (v3 + (1 : Int32)))], [], sI σ 177 v3.toNatClampNeg (σ.1 171 v3.toNatClampNeg))) (ps := [shk 166 = 11, shk 166 = 11, IA 171 260 ∧ inb v3 260 = true, IA 177 260 ∧ inb v3 260 = true]) rfl ⟨rfl, rfl, ⟨⟨rfl, rfl⟩, g19⟩, ⟨⟨rfl, rfl⟩, g19⟩, trivial⟩) ?_
    have h := Option.some.inj h
    subst h
    exact Go.fg (LSub.cs (LSub.cn (LSub.cn (LSub.cs (LSub.nil)))))
def Md_law_L110  (s : Int32 × MH) : Option ((MH)) := itr (fun s : Int32 × MH => Md_law_l110 s.1 s.2) FU s
set_option maxRecDepth 20000 in
set_option maxHeartbeats 2000000 in
theorem t_Md_law_L110   (s : Int32 × MH) {r} (h : Md_law_L110  s = some r) : Go m_Md_law 9 (cH_Md_law_110  s) (cR_Md_law_110  r) := Go_itr (fun s o ho => t_Md_law_l110 s.1 s.2 ho) FU s r h
def cH_Md_law_138  (s : Int32 × MH) : MC := (some 138, [some (.ref 166), none, none, some (.int s.1)], [], s.2)
def cR_Md_law_138  : ((MH)) → MC := (fun r : MH => ((some 200, [some (.ref 166), none, none, none], [], r) : MC))
def Md_law_l138 (v3 : Int32) (σ : MH) : Option (((Int32 × MH) ⊕ ((MH)))) := if σ.1 166 12 ≤ v3 then some (.inr (σ)) else (if inb v3 16 = true then some (.inl (v3 + (1 : Int32), sI (sI (sI (sI σ 178 v3.toNatClampNeg (σ.1 173 v3.toNatClampNeg)) 179 v3.toNatClampNeg ((sI σ 178 v3.toNatClampNeg (σ.1 173 v3.toNatClampNeg)).1 174 v3.toNatClampNeg)) 180 v3.toNatClampNeg ((sI (sI σ 178 v3.toNatClampNeg (σ.1 173 v3.toNatClampNeg)) 179 v3.toNatClampNeg ((sI σ 178 v3.toNatClampNeg (σ.1 173 v3.toNatClampNeg)).1 174 v3.toNatClampNeg)).1 175 v3.toNatClampNeg)) 181 v3.toNatClampNeg ((sI (sI (sI σ 178 v3.toNatClampNeg (σ.1 173 v3.toNatClampNeg)) 179 v3.toNatClampNeg ((sI σ 178 v3.toNatClampNeg (σ.1 173 v3.toNatClampNeg)).1 174 v3.toNatClampNeg)) 180 v3.toNatClampNeg ((sI (sI σ 178 v3.toNatClampNeg (σ.1 173 v3.toNatClampNeg)) 179 v3.toNatClampNeg ((sI σ 178 v3.toNatClampNeg (σ.1 173 v3.toNatClampNeg)).1 174 v3.toNatClampNeg)).1 175 v3.toNatClampNeg)).1 176 v3.toNatClampNeg))) else none)
set_option maxRecDepth 20000 in
set_option maxHeartbeats 2000000 in
theorem t_Md_law_l138 (v3 : Int32)  (σ : MH) {o} (h : Md_law_l138 v3 σ = some o) : Go m_Md_law 9 (cH_Md_law_138  (v3, σ)) (cS (cH_Md_law_138 ) (cR_Md_law_138 ) o) := by
  unfold Md_law_l138 at h
  unfold cH_Md_law_138
  refine Go.t (Go_sg bk_Md_law 75 3 (c2 := (some 143, [some (.ref 166), none, none, some (.int v3)], [.int (σ.1 166 12), .int v3], σ)) (ps := [shk 166 = 11]) rfl ⟨rfl, trivial⟩) ?_
  refine Go_icmp_ge bk_Md_law 78 rfl (fun c24 => ?_) (fun c24 => ?_)
  · have h := ifT c24 h
    have h := Option.some.inj h
    subst h
    exact Go.fg (LSub.cs (LSub.cn (LSub.cn (LSub.cn (LSub.nil)))))
  · have h := ifF c24 h
    obtain ⟨g23, h⟩ := gdS h
    refine Go.t (Go_sg bk_Md_law 79 34 (c2 := (some 138, [some (.ref 166), none, none, some (.int (v3 + (1 : Int32)))], [], sI (sI (sI (sI σ 178 v3.toNatClampNeg (σ.1 173 v3.toNatClampNeg)) 179 v3.toNatClampNeg ((sI σ 178 v3.toNatClampNeg (σ.1 173 v3.toNatClampNeg)).1 174 v3.toNatClampNeg)) 180 v3.toNatClampNeg ((sI (sI σ 178 v3.toNatClampNeg (σ.1 173 v3.toNatClampNeg)) 179 v3.toNatClampNeg ((sI σ 178 v3.toNatClampNeg (σ.1 173 v3.toNatClampNeg)).1 174 v3.toNatClampNeg)).1 175 v3.toNatClampNeg)) 181 v3.toNatClampNeg ((sI (sI (sI σ 178 v3.toNatClampNeg (σ.1 173 v3.toNatClampNeg)) 179 v3.toNatClampNeg ((sI σ 178 v3.toNatClampNeg (σ.1 173 v3.toNatClampNeg)).1 174 v3.toNatClampNeg)) 180 v3.toNatClampNeg ((sI (sI σ 178 v3.toNatClampNeg (σ.1 173 v3.toNatClampNeg)) 179 v3.toNatClampNeg ((sI σ 178 v3.toNatClampNeg (σ.1 173 v3.toNatClampNeg)).1 174 v3.toNatClampNeg)).1 175 v3.toNatClampNeg)).1 176 v3.toNatClampNeg))) (ps := [shk 166 = 11, shk 166 = 11, IA 173 16 ∧ inb v3 16 = true, IA 178 16 ∧ inb v3 16 = true, shk 166 = 11, shk 166 = 11, IA 174 16 ∧ inb v3 16 = true, IA 179 16 ∧ inb v3 16 = true, shk 166 = 11, shk 166 = 11, IA 175 16 ∧ inb v3 16 = true, IA 180 16 ∧ inb v3 16 = true, shk 166 = 11, shk 166 = 11, IA 176 16 ∧ inb v3 16 = true, IA 181 16 ∧ inb v3 16 = true]) rfl ⟨rfl, rfl, ⟨⟨rfl, rfl⟩, g23⟩, ⟨⟨rfl, rfl⟩, g23⟩, rfl, rfl, ⟨⟨rfl, rfl⟩, g23⟩, ⟨⟨rfl, rfl⟩, g23⟩, rfl, rfl, ⟨⟨rfl, rfl⟩, g23⟩, ⟨⟨rfl, rfl⟩, g23⟩, rfl, rfl, ⟨⟨rfl, rfl⟩, g23⟩, ⟨⟨rfl, rfl⟩, g23⟩, trivial⟩) ?_
    have h := Option.some.inj h
    subst h
    exact Go.fg (LSub.cs (LSub.cn (LSub.cn (LSub.cs (LSub.nil)))))
def Md_law_L138  (s : Int32 × MH) : Option ((MH)) := itr (fun s : Int32 × MH => Md_law_l138 s.1 s.2) FU s
set_option maxRecDepth 20000 in
set_option maxHeartbeats 2000000 in
theorem t_Md_law_L138   (s : Int32 × MH) {r} (h : Md_law_L138  s = some r) : Go m_Md_law 9 (cH_Md_law_138  s) (cR_Md_law_138  r) := Go_itr (fun s o ho => t_Md_law_l138 s.1 s.2 ho) FU s r h
def Md_law_b86 (v2 : Int32) (σ : MH) : Option (Int32 × MH) := if v2 = (0 : Int32) then some ((sI σ 166 4 (0 : Int32)).1 166 7, sI σ 166 4 (0 : Int32)) else ((Md_law_L110 ((0 : Int32), sI (sI σ 166 4 (0 : Int32)) 166 13 ((sI σ 166 4 (0 : Int32)).1 166 12))).bind fun z21 => (Md_law_L138 ((0 : Int32), z21)).bind fun z25 => some (z25.1 166 12, z25))
set_option maxRecDepth 20000 in
set_option maxHeartbeats 2000000 in
theorem t_Md_law_b86 (v2 : Int32)   (σ : MH) {o} (h : Md_law_b86 v2 σ = some o) : Go m_Md_law 9 (some 86, [some (.ref 166), none, some (.int v2), none], [], σ) ((none, [], [.int o.1], o.2)) := by
  unfold Md_law_b86 at h
  refine Go.t (Go_sg bk_Md_law 45 4 (c2 := (some 92, [some (.ref 166), none, some (.int v2), none], [.int v2], sI σ 166 4 (0 : Int32))) (ps := [shk 166 = 11]) rfl ⟨rfl, trivial⟩) ?_
  refine Go_if_ne bk_Md_law 49 rfl (fun c27 => ?_) (fun c27 => ?_)
  · have h := ifF c27 h
    refine Go.t (Go_sg bk_Md_law 53 6 (c2 := (some 110, [some (.ref 166), none, some (.int v2), some (.int (0 : Int32))], [], sI (sI σ 166 4 (0 : Int32)) 166 13 ((sI σ 166 4 (0 : Int32)).1 166 12))) (ps := [shk 166 = 11, shk 166 = 11]) rfl ⟨rfl, rfl, trivial⟩) ?_
    obtain ⟨z21, q22, h⟩ := bdS h
    refine Go.t (Go.t (Go.fg (LSub.cs (LSub.cn (LSub.cn (LSub.cs (LSub.nil)))))) (t_Md_law_L110 _ q22)) ?_
    refine Go.t (Go_sg bk_Md_law 73 2 (c2 := (some 138, [some (.ref 166), none, none, some (.int (0 : Int32))], [], z21)) (ps := []) rfl trivial) ?_
    obtain ⟨z25, q26, h⟩ := bdS h
    refine Go.t (Go.t (Go.fg (LSub.cs (LSub.cn (LSub.cn (LSub.cs (LSub.nil)))))) (t_Md_law_L138 _ q26)) ?_
    have h := Option.some.inj h
    subst h
    refine Go.t (Go_sg bk_Md_law 113 2 (c2 := (some 204, [some (.ref 166), none, none, none], [.int (z25.1 166 12)], z25)) (ps := [shk 166 = 11]) rfl ⟨rfl, trivial⟩) ?_
    exact Go_reti bk_Md_law 115 rfl
  · have h := ifT c27 h
    have h := Option.some.inj h
    subst h
    refine Go.t (Go_sg bk_Md_law 50 2 (c2 := (some 99, [some (.ref 166), none, some (.int v2), none], [.int ((sI σ 166 4 (0 : Int32)).1 166 7)], sI σ 166 4 (0 : Int32))) (ps := [shk 166 = 11]) rfl ⟨rfl, trivial⟩) ?_
    exact Go_reti bk_Md_law 52 rfl
def Md_law0 (v1 : Int32) (σ : MH) : Option (Int32 × MH) := (Md_in v1 (1 : Int32) (240 : Int32) σ).bind fun x1 => if x1 = (0 : Int32) then some ((-1 : Int32), σ) else (if v1 ≤ σ.1 166 4 then ((Md_readsClause (sI (sI (sI (sI σ 166 5 (0 : Int32)) 166 6 v1) 166 10 (0 : Int32)) 166 12 (0 : Int32))).bind fun (x4, σ5) => (Md_law_L46 (x4, σ5)).bind fun z17 => Md_law_b86 z17.1 z17.2) else some ((-1 : Int32), σ))
set_option maxRecDepth 20000 in
set_option maxHeartbeats 2000000 in
theorem t_Md_law0 (v1 : Int32)  (σ : MH) {o} (h : Md_law0 v1 σ = some o) : Go m_Md_law 9 (some 0, [some (.ref 166), some (.int v1), none, none], [], σ) ((none, [], [.int o.1], o.2)) := by
  unfold Md_law0 at h
  refine Go.t (Go_sg bk_Md_law 0 3 (c2 := (some 5, [some (.ref 166), some (.int v1), none, none], [.int (240 : Int32), .int (1 : Int32), .int v1], σ)) (ps := []) rfl trivial) ?_
  obtain ⟨x1, q3, h⟩ := bdS h
  refine Go.t (Go_callS bk_Md_law 3 rfl nk_Md_in tw1370 tw1371 (as := [.int v1, .int (1 : Int32), .int (240 : Int32)]) (S := []) rfl rfl rfl (Nat.le_of_ble_eq_true rfl) (Nat.le_of_ble_eq_true rfl) (ev_Md_in _ _ _ _ q3)) ?_
  refine Go_if_eq bk_Md_law 4 rfl (fun c29 => ?_) (fun c29 => ?_)
  · have h := ifT c29 h
    have h := Option.some.inj h
    subst h
    refine Go.t (Go_sg bk_Md_law 9 1 (c2 := (some 20, [some (.ref 166), some (.int v1), none, none], [.int (-1 : Int32)], σ)) (ps := []) rfl trivial) ?_
    exact Go_reti bk_Md_law 10 rfl
  · have h := ifF c29 h
    refine Go.t (Go_sg bk_Md_law 5 3 (c2 := (some 16, [some (.ref 166), some (.int v1), none, none], [.int (σ.1 166 4), .int v1], σ)) (ps := [shk 166 = 11]) rfl ⟨rfl, trivial⟩) ?_
    refine Go_icmp_le bk_Md_law 8 rfl (fun c28 => ?_) (fun c28 => ?_)
    · have h := ifT c28 h
      refine Go.t (Go_sg bk_Md_law 11 13 (c2 := (some 42, [some (.ref 166), some (.int v1), none, none], [.ref 166], sI (sI (sI (sI σ 166 5 (0 : Int32)) 166 6 v1) 166 10 (0 : Int32)) 166 12 (0 : Int32))) (ps := [shk 166 = 11, shk 166 = 11, shk 166 = 11, shk 166 = 11]) rfl ⟨rfl, rfl, rfl, rfl, trivial⟩) ?_
      obtain ⟨⟨x4, σ5⟩, q6, h⟩ := bdS h
      dsimp only at h
      refine Go.t (Go_callV bk_Md_law 24 rfl nk_Md_readsClause tw1413 tw1415 tw50 (ci := 11) rfl (as := []) (S := []) rfl rfl rfl rfl (Nat.le_of_ble_eq_true rfl) (Nat.le_of_ble_eq_true rfl) (ev_Md_readsClause _ q6)) ?_
      refine Go.t (Go_sg bk_Md_law 25 1 (c2 := (some 46, [some (.ref 166), some (.int v1), some (.int x4), none], [], σ5)) (ps := []) rfl trivial) ?_
      obtain ⟨z17, q18, h⟩ := bdS h
      refine Go.t (Go.t (Go.fg (LSub.cs (LSub.cn (LSub.cs (LSub.cn (LSub.nil)))))) (t_Md_law_L46 _ q18)) ?_
      exact Go.t (Go.fg (LSub.cs (LSub.cn (LSub.cs (LSub.cn (LSub.nil)))))) (t_Md_law_b86 z17.1 z17.2 h)
    · have h := ifF c28 h
      have h := Option.some.inj h
      subst h
      refine Go.t (Go_sg bk_Md_law 9 1 (c2 := (some 20, [some (.ref 166), some (.int v1), none, none], [.int (-1 : Int32)], σ)) (ps := []) rfl trivial) ?_
      exact Go_reti bk_Md_law 10 rfl
def Md_law (v1 : Int32) (σ : MH) : Option (Int32 × MH) := Md_law0 v1 σ
set_option maxRecDepth 20000 in
set_option maxHeartbeats 2000000 in
theorem ev_Md_law (v1 : Int32)  (σ : MH) {o} (h : Md_law v1 σ = some o) : Ev m_Md_law 9 [.ref 166, .int v1] σ (some (.int o.1)) o.2 := Ev.of2 (by decide +kernel) rfl (Nat.le_of_ble_eq_true rfl) ⟨.int, rfl, rfl⟩ (t_Md_law0 v1 σ h)
