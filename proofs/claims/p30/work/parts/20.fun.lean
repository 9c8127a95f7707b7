/-! FUNCTIONS: Md_isOne Md_mayGet Md_laysMost Md_getsBy Md_most Md_nextAsked Md_keeps Md_laysStable Md_stable Md_likesWed Md_unrest Md_areBounds Md_readsRow Md_sumBy Md_gcd Md_search -/
def Md_isOne0 (v1 : Int32) (v2 : Int32) (σ : MH) : Option (Int32) := (Md_lives v1 σ).bind fun x1 => if x1 = (0 : Int32) then some ((0 : Int32)) else (if inb ((0 : Int32) + v1) 1936 = true then if σ.1 167 ((0 : Int32) + v1).toNatClampNeg = v2 then some ((1 : Int32)) else some ((0 : Int32)) else none)
set_option maxRecDepth 20000 in
set_option maxHeartbeats 2000000 in
theorem t_Md_isOne0 (v1 : Int32) (v2 : Int32)  (σ : MH) {o} (h : Md_isOne0 v1 v2 σ = some o) : Go m_Md_isOne 4 (some 0, [some (.ref 166), some (.int v1), some (.int v2)], [], σ) ((none, [], [.int o], σ)) := by
  unfold Md_isOne0 at h
  refine Go.t (Go_sg bk_Md_isOne 0 2 (c2 := (some 2, [some (.ref 166), some (.int v1), some (.int v2)], [.int v1, .ref 166], σ)) (ps := []) rfl trivial) ?_
  obtain ⟨x1, q3, h⟩ := bdS h
  refine Go.t (Go_callV bk_Md_isOne 2 rfl nk_Md_lives tw1381 tw1383 tw45 (ci := 11) rfl (as := [.int v1]) (S := []) rfl rfl rfl rfl (Nat.le_of_ble_eq_true rfl) (Nat.le_of_ble_eq_true rfl) (ev_Md_lives _ _ q3)) ?_
  refine Go_if_eq bk_Md_isOne 3 rfl (fun c6 => ?_) (fun c6 => ?_)
  · have h := ifT c6 h
    have h := Option.some.inj h
    subst h
    refine Go.t (Go_sg bk_Md_isOne 14 1 (c2 := (some 25, [some (.ref 166), some (.int v1), some (.int v2)], [.int (0 : Int32)], σ)) (ps := []) rfl trivial) ?_
    exact Go_reti bk_Md_isOne 15 rfl
  · have h := ifF c6 h
    obtain ⟨g4, h⟩ := gdS h
    refine Go.t (Go_sg bk_Md_isOne 4 7 (c2 := (some 17, [some (.ref 166), some (.int v1), some (.int v2)], [.int v2, .int (σ.1 167 ((0 : Int32) + v1).toNatClampNeg)], σ)) (ps := [shk 166 = 11, IA 167 1936 ∧ inb ((0 : Int32) + v1) 1936 = true]) rfl ⟨rfl, ⟨⟨rfl, rfl⟩, g4⟩, trivial⟩) ?_
    refine Go_icmp_ne bk_Md_isOne 11 rfl (fun c5 => ?_) (fun c5 => ?_)
    · have h := ifF c5 h
      have h := Option.some.inj h
      subst h
      refine Go.t (Go_sg bk_Md_isOne 14 1 (c2 := (some 25, [some (.ref 166), some (.int v1), some (.int v2)], [.int (0 : Int32)], σ)) (ps := []) rfl trivial) ?_
      exact Go_reti bk_Md_isOne 15 rfl
    · have h := ifT c5 h
      refine Go.t (Go_sg bk_Md_isOne 12 2 (c2 := (some 25, [some (.ref 166), some (.int v1), some (.int v2)], [.int (1 : Int32)], σ)) (ps := []) rfl trivial) ?_
      have h := Option.some.inj h
      subst h
      exact Go_reti bk_Md_isOne 15 rfl
def Md_isOne (v1 : Int32) (v2 : Int32) (σ : MH) : Option (Int32) := bzp (Md_isOne0 v1 v2 σ)
set_option maxRecDepth 20000 in
set_option maxHeartbeats 2000000 in
theorem ev_Md_isOne (v1 : Int32) (v2 : Int32)  (σ : MH) {o} (h : Md_isOne v1 v2 σ = some o) : Ev m_Md_isOne 4 [.ref 166, .int v1, .int v2] σ (some (.int o)) σ := Ev.of2 (by decide +kernel) rfl (Nat.le_of_ble_eq_true rfl) ⟨.boolean, rfl, nrB (bzp2 h)⟩ (t_Md_isOne0 v1 v2 σ (bzp1 h))
def Md_mayGet0 (v1 : Int32) (v2 : Int32) (v3 : Int32) (σ : MH) : Option (Int32) := if inb v1 12 = true then (Md_has (σ.1 186 v1.toNatClampNeg) v2 σ).bind fun x2 => if x2 = (0 : Int32) then some ((0 : Int32)) else (if inb ((0 : Int32) + v2) 1936 = true then if σ.1 167 ((0 : Int32) + v2).toNatClampNeg = (1 : Int32) then ((Md_has v3 v2 σ).bind fun x6 => if x6 = (0 : Int32) then some ((1 : Int32)) else some ((0 : Int32))) else some ((0 : Int32)) else none) else none
set_option maxRecDepth 20000 in
set_option maxHeartbeats 2000000 in
theorem t_Md_mayGet0 (v1 : Int32) (v2 : Int32) (v3 : Int32)  (σ : MH) {o} (h : Md_mayGet0 v1 v2 v3 σ = some o) : Go m_Md_mayGet 2 (some 0, [some (.ref 166), some (.int v1), some (.int v2), some (.int v3)], [], σ) ((none, [], [.int o], σ)) := by
  unfold Md_mayGet0 at h
  obtain ⟨g1, h⟩ := gdS h
  refine Go.t (Go_sg bk_Md_mayGet 0 5 (c2 := (some 7, [some (.ref 166), some (.int v1), some (.int v2), some (.int v3)], [.int v2, .int (σ.1 186 v1.toNatClampNeg)], σ)) (ps := [shk 166 = 11, IA 186 12 ∧ inb v1 12 = true]) rfl ⟨rfl, ⟨⟨rfl, rfl⟩, g1⟩, trivial⟩) ?_
  obtain ⟨x2, q4, h⟩ := bdS h
  refine Go.t (Go_callS bk_Md_mayGet 5 rfl nk_Md_has tw1367 tw1368 (as := [.int (σ.1 186 v1.toNatClampNeg), .int v2]) (S := []) rfl rfl rfl (Nat.le_of_ble_eq_true rfl) (Nat.le_of_ble_eq_true rfl) (ev_Md_has _ _ _ q4)) ?_
  refine Go_if_eq bk_Md_mayGet 6 rfl (fun c11 => ?_) (fun c11 => ?_)
  · have h := ifT c11 h
    have h := Option.some.inj h
    subst h
    refine Go.t (Go_sg bk_Md_mayGet 21 1 (c2 := (some 38, [some (.ref 166), some (.int v1), some (.int v2), some (.int v3)], [.int (0 : Int32)], σ)) (ps := []) rfl trivial) ?_
    exact Go_reti bk_Md_mayGet 22 rfl
  · have h := ifF c11 h
    obtain ⟨g5, h⟩ := gdS h
    refine Go.t (Go_sg bk_Md_mayGet 7 7 (c2 := (some 22, [some (.ref 166), some (.int v1), some (.int v2), some (.int v3)], [.int (1 : Int32), .int (σ.1 167 ((0 : Int32) + v2).toNatClampNeg)], σ)) (ps := [shk 166 = 11, IA 167 1936 ∧ inb ((0 : Int32) + v2) 1936 = true]) rfl ⟨rfl, ⟨⟨rfl, rfl⟩, g5⟩, trivial⟩) ?_
    refine Go_icmp_ne bk_Md_mayGet 14 rfl (fun c10 => ?_) (fun c10 => ?_)
    · have h := ifF c10 h
      have h := Option.some.inj h
      subst h
      refine Go.t (Go_sg bk_Md_mayGet 21 1 (c2 := (some 38, [some (.ref 166), some (.int v1), some (.int v2), some (.int v3)], [.int (0 : Int32)], σ)) (ps := []) rfl trivial) ?_
      exact Go_reti bk_Md_mayGet 22 rfl
    · have h := ifT c10 h
      refine Go.t (Go_sg bk_Md_mayGet 15 2 (c2 := (some 27, [some (.ref 166), some (.int v1), some (.int v2), some (.int v3)], [.int v2, .int v3], σ)) (ps := []) rfl trivial) ?_
      obtain ⟨x6, q8, h⟩ := bdS h
      refine Go.t (Go_callS bk_Md_mayGet 17 rfl nk_Md_has tw1367 tw1368 (as := [.int v3, .int v2]) (S := []) rfl rfl rfl (Nat.le_of_ble_eq_true rfl) (Nat.le_of_ble_eq_true rfl) (ev_Md_has _ _ _ q8)) ?_
      refine Go_if_ne bk_Md_mayGet 18 rfl (fun c9 => ?_) (fun c9 => ?_)
      · have h := ifF c9 h
        have h := Option.some.inj h
        subst h
        refine Go.t (Go_sg bk_Md_mayGet 21 1 (c2 := (some 38, [some (.ref 166), some (.int v1), some (.int v2), some (.int v3)], [.int (0 : Int32)], σ)) (ps := []) rfl trivial) ?_
        exact Go_reti bk_Md_mayGet 22 rfl
      · have h := ifT c9 h
        refine Go.t (Go_sg bk_Md_mayGet 19 2 (c2 := (some 38, [some (.ref 166), some (.int v1), some (.int v2), some (.int v3)], [.int (1 : Int32)], σ)) (ps := []) rfl trivial) ?_
        have h := Option.some.inj h
        subst h
        exact Go_reti bk_Md_mayGet 22 rfl
def Md_mayGet (v1 : Int32) (v2 : Int32) (v3 : Int32) (σ : MH) : Option (Int32) := bzp (Md_mayGet0 v1 v2 v3 σ)
set_option maxRecDepth 20000 in
set_option maxHeartbeats 2000000 in
theorem ev_Md_mayGet (v1 : Int32) (v2 : Int32) (v3 : Int32)  (σ : MH) {o} (h : Md_mayGet v1 v2 v3 σ = some o) : Ev m_Md_mayGet 2 [.ref 166, .int v1, .int v2, .int v3] σ (some (.int o)) σ := Ev.of2 (by decide +kernel) rfl (Nat.le_of_ble_eq_true rfl) ⟨.boolean, rfl, nrB (bzp2 h)⟩ (t_Md_mayGet0 v1 v2 v3 σ (bzp1 h))
def cH_Md_laysMost_2  (s : Int32 × MH) : MC := (some 2, [some (.ref 166), some (.int s.1), none, none, none], [], s.2)
def cR_Md_laysMost_2  : ((MH)) → MC := (fun r : MH => ((some 26, [some (.ref 166), none, none, none, none], [], r) : MC))
def Md_laysMost_l2 (v1 : Int32) (σ : MH) : Option (((Int32 × MH) ⊕ ((MH)))) := if (4096 : Int32) ≤ v1 then some (.inr (σ)) else (if inb ((49152 : Int32) + v1) 53248 = true then some (.inl (v1 + (1 : Int32), sI σ 189 ((49152 : Int32) + v1).toNatClampNeg (0 : Int32))) else none)
set_option maxRecDepth 20000 in
set_option maxHeartbeats 2000000 in
theorem t_Md_laysMost_l2 (v1 : Int32)  (σ : MH) {o} (h : Md_laysMost_l2 v1 σ = some o) : Go m_Md_laysMost 5 (cH_Md_laysMost_2  (v1, σ)) (cS (cH_Md_laysMost_2 ) (cR_Md_laysMost_2 ) o) := by
  unfold Md_laysMost_l2 at h
  unfold cH_Md_laysMost_2
  refine Go.t (Go_sg bk_Md_laysMost 2 2 (c2 := (some 6, [some (.ref 166), some (.int v1), none, none, none], [.int (4096 : Int32), .int v1], σ)) (ps := []) rfl trivial) ?_
  refine Go_icmp_ge bk_Md_laysMost 4 rfl (fun c2 => ?_) (fun c2 => ?_)
  · have h := ifT c2 h
    have h := Option.some.inj h
    subst h
    exact Go.fg (LSub.cs (LSub.cn (LSub.cn (LSub.cn (LSub.cn (LSub.nil))))))
  · have h := ifF c2 h
    obtain ⟨g1, h⟩ := gdS h
    refine Go.t (Go_sg bk_Md_laysMost 5 9 (c2 := (some 2, [some (.ref 166), some (.int (v1 + (1 : Int32))), none, none, none], [], sI σ 189 ((49152 : Int32) + v1).toNatClampNeg (0 : Int32))) (ps := [shk 166 = 11, IA 189 53248 ∧ inb ((49152 : Int32) + v1) 53248 = true]) rfl ⟨rfl, ⟨⟨rfl, rfl⟩, g1⟩, trivial⟩) ?_
    have h := Option.some.inj h
    subst h
    exact Go.fg (LSub.cs (LSub.cs (LSub.cn (LSub.cn (LSub.cn (LSub.nil))))))
def Md_laysMost_L2  (s : Int32 × MH) : Option ((MH)) := itr (fun s : Int32 × MH => Md_laysMost_l2 s.1 s.2) FU s
set_option maxRecDepth 20000 in
set_option maxHeartbeats 2000000 in
theorem t_Md_laysMost_L2   (s : Int32 × MH) {r} (h : Md_laysMost_L2  s = some r) : Go m_Md_laysMost 5 (cH_Md_laysMost_2  s) (cR_Md_laysMost_2  r) := Go_itr (fun s o ho => t_Md_laysMost_l2 s.1 s.2 ho) FU s r h
def cH_Md_laysMost_29  (s : Int32 × MH) : MC := (some 29, [some (.ref 166), some (.int s.1), none, none, none], [], s.2)
def cR_Md_laysMost_29  : ((MH)) → MC := (fun r : MH => ((none, [], [], r) : MC))
def cH_Md_laysMost_35 (v1 : Int32) (s : Int32 × MH) : MC := (some 35, [some (.ref 166), some (.int v1), some (.int s.1), none, none], [], s.2)
def cR_Md_laysMost_35 (v1 : Int32) : ((MH)) → MC := (fun r : MH => ((some 153, [some (.ref 166), some (.int v1), none, none, none], [], r) : MC))
def cH_Md_laysMost_60 (v1 : Int32) (v2 : Int32) (σ : MH) (s : Int32 × Int32) : MC := (some 60, [some (.ref 166), some (.int v1), some (.int v2), some (.int s.1), some (.int s.2)], [], σ)
def cR_Md_laysMost_60 (v1 : Int32) (v2 : Int32) (σ : MH) : ((Int32)) → MC := (fun r : Int32 => ((some 134, [some (.ref 166), some (.int v1), some (.int v2), some (.int r), none], [], σ) : MC))
def Md_laysMost_b128 (v1 : Int32) (v2 : Int32) (v3 : Int32) (v4 : Int32) (σ : MH) : Option (((Int32 × Int32) ⊕ ((Int32)))) := some (.inl (v3, v4 + (1 : Int32)))
set_option maxRecDepth 20000 in
set_option maxHeartbeats 2000000 in
theorem t_Md_laysMost_b128 (v1 : Int32) (v2 : Int32) (v3 : Int32) (v4 : Int32)   (σ : MH) {o} (h : Md_laysMost_b128 v1 v2 v3 v4 σ = some o) : Go m_Md_laysMost 5 (some 128, [some (.ref 166), some (.int v1), some (.int v2), some (.int v3), some (.int v4)], [], σ) (cS (cH_Md_laysMost_60 v1 v2 σ) (cR_Md_laysMost_60 v1 v2 σ) o) := by
  unfold Md_laysMost_b128 at h
  refine Go.t (Go_sg bk_Md_laysMost 78 2 (c2 := (some 60, [some (.ref 166), some (.int v1), some (.int v2), some (.int v3), some (.int (v4 + (1 : Int32)))], [], σ)) (ps := []) rfl trivial) ?_
  have h := Option.some.inj h
  subst h
  exact Go.fg (LSub.cs (LSub.cs (LSub.cs (LSub.cs (LSub.cs (LSub.nil))))))
def Md_laysMost_l60 (v1 : Int32) (v2 : Int32) (v3 : Int32) (v4 : Int32) (σ : MH) : Option (((Int32 × Int32) ⊕ ((Int32)))) := if (12 : Int32) ≤ v4 then some (.inr (v3)) else ((Md_isOne v1 (0 : Int32) σ).bind fun x6 => if x6 = (0 : Int32) then some (.inr (v3)) else ((Md_mayGet v1 v4 v2 σ).bind fun x9 => if x9 = (0 : Int32) then (Md_laysMost_b128 v1 v2 v3 v4 σ) else (if inb (((12 : Int32) * v1) + v4) 144 = true then if inb (((4096 : Int32) * (v1 + (1 : Int32))) + (v2 ||| (jshl (1 : Int32) v4))) 53248 = true then (Md_max v3 (((10000 : Int32) - (σ.1 187 (((12 : Int32) * v1) + v4).toNatClampNeg)) + (σ.1 189 (((4096 : Int32) * (v1 + (1 : Int32))) + (v2 ||| (jshl (1 : Int32) v4))).toNatClampNeg)) σ).bind fun x14 => Md_laysMost_b128 v1 v2 x14 v4 σ else none else none)))
set_option maxRecDepth 20000 in
set_option maxHeartbeats 2000000 in
theorem t_Md_laysMost_l60 (v1 : Int32) (v2 : Int32) (v3 : Int32) (v4 : Int32)  (σ : MH) {o} (h : Md_laysMost_l60 v1 v2 v3 v4 σ = some o) : Go m_Md_laysMost 5 (cH_Md_laysMost_60 v1 v2 σ (v3, v4)) (cS (cH_Md_laysMost_60 v1 v2 σ) (cR_Md_laysMost_60 v1 v2 σ) o) := by
  unfold Md_laysMost_l60 at h
  unfold cH_Md_laysMost_60
  refine Go.t (Go_sg bk_Md_laysMost 36 2 (c2 := (some 64, [some (.ref 166), some (.int v1), some (.int v2), some (.int v3), some (.int v4)], [.int (12 : Int32), .int v4], σ)) (ps := []) rfl trivial) ?_
  refine Go_icmp_ge bk_Md_laysMost 38 rfl (fun c19 => ?_) (fun c19 => ?_)
  · have h := ifT c19 h
    have h := Option.some.inj h
    subst h
    exact Go.fg (LSub.cs (LSub.cs (LSub.cs (LSub.cs (LSub.cn (LSub.nil))))))
  · have h := ifF c19 h
    refine Go.t (Go_sg bk_Md_laysMost 39 3 (c2 := (some 70, [some (.ref 166), some (.int v1), some (.int v2), some (.int v3), some (.int v4)], [.int (0 : Int32), .int v1, .ref 166], σ)) (ps := []) rfl trivial) ?_
    obtain ⟨x6, q8, h⟩ := bdS h
    refine Go.t (Go_callV bk_Md_laysMost 42 rfl nk_Md_isOne tw1639 tw1641 tw90 (ci := 11) rfl (as := [.int v1, .int (0 : Int32)]) (S := []) rfl rfl rfl rfl (Nat.le_of_ble_eq_true rfl) (Nat.le_of_ble_eq_true rfl) (ev_Md_isOne _ _ _ q8)) ?_
    refine Go_if_eq bk_Md_laysMost 43 rfl (fun c18 => ?_) (fun c18 => ?_)
    · have h := ifT c18 h
      have h := Option.some.inj h
      subst h
      exact Go.fg (LSub.cs (LSub.cs (LSub.cs (LSub.cs (LSub.cn (LSub.nil))))))
    · have h := ifF c18 h
      refine Go.t (Go_sg bk_Md_laysMost 44 4 (c2 := (some 81, [some (.ref 166), some (.int v1), some (.int v2), some (.int v3), some (.int v4)], [.int v2, .int v4, .int v1, .ref 166], σ)) (ps := []) rfl trivial) ?_
      obtain ⟨x9, q11, h⟩ := bdS h
      refine Go.t (Go_callV bk_Md_laysMost 48 rfl nk_Md_mayGet tw1648 tw1650 tw92 (ci := 11) rfl (as := [.int v1, .int v4, .int v2]) (S := []) rfl rfl rfl rfl (Nat.le_of_ble_eq_true rfl) (Nat.le_of_ble_eq_true rfl) (ev_Md_mayGet _ _ _ _ q11)) ?_
      refine Go_if_eq bk_Md_laysMost 49 rfl (fun c17 => ?_) (fun c17 => ?_)
      · have h := ifT c17 h
        exact Go.t (Go.fg (LSub.cs (LSub.cs (LSub.cs (LSub.cs (LSub.cs (LSub.nil))))))) (t_Md_laysMost_b128 v1 v2 v3 v4 σ h)
      · have h := ifF c17 h
        obtain ⟨g12, h⟩ := gdS h
        obtain ⟨g13, h⟩ := gdS h
        refine Go.t (Go_sg bk_Md_laysMost 50 26 (c2 := (some 124, [some (.ref 166), some (.int v1), some (.int v2), some (.int v3), some (.int v4)], [.int (((10000 : Int32) - (σ.1 187 (((12 : Int32) * v1) + v4).toNatClampNeg)) + (σ.1 189 (((4096 : Int32) * (v1 + (1 : Int32))) + (v2 ||| (jshl (1 : Int32) v4))).toNatClampNeg)), .int v3], σ)) (ps := [shk 166 = 11, IA 187 144 ∧ inb (((12 : Int32) * v1) + v4) 144 = true, shk 166 = 11, IA 189 53248 ∧ inb (((4096 : Int32) * (v1 + (1 : Int32))) + (v2 ||| (jshl (1 : Int32) v4))) 53248 = true]) rfl ⟨rfl, ⟨⟨rfl, rfl⟩, g12⟩, rfl, ⟨⟨rfl, rfl⟩, g13⟩, trivial⟩) ?_
        obtain ⟨x14, q16, h⟩ := bdS h
        refine Go.t (Go_callS bk_Md_laysMost 76 rfl nk_Md_max tw1551 tw1552 (as := [.int v3, .int (((10000 : Int32) - (σ.1 187 (((12 : Int32) * v1) + v4).toNatClampNeg)) + (σ.1 189 (((4096 : Int32) * (v1 + (1 : Int32))) + (v2 ||| (jshl (1 : Int32) v4))).toNatClampNeg))]) (S := []) rfl rfl rfl (Nat.le_of_ble_eq_true rfl) (Nat.le_of_ble_eq_true rfl) (ev_Md_max _ _ _ q16)) ?_
        refine Go.t (Go_sg bk_Md_laysMost 77 1 (c2 := (some 128, [some (.ref 166), some (.int v1), some (.int v2), some (.int x14), some (.int v4)], [], σ)) (ps := []) rfl trivial) ?_
        exact Go.t (Go.fg (LSub.cs (LSub.cs (LSub.cs (LSub.cs (LSub.cs (LSub.nil))))))) (t_Md_laysMost_b128 v1 v2 x14 v4 σ h)
def Md_laysMost_L60 (v1 : Int32) (v2 : Int32) (σ : MH) (s : Int32 × Int32) : Option ((Int32)) := itr (fun s : Int32 × Int32 => Md_laysMost_l60 v1 v2 s.1 s.2 σ) FU s
set_option maxRecDepth 20000 in
set_option maxHeartbeats 2000000 in
theorem t_Md_laysMost_L60 (v1 : Int32) (v2 : Int32)  (σ : MH) (s : Int32 × Int32) {r} (h : Md_laysMost_L60 v1 v2 σ s = some r) : Go m_Md_laysMost 5 (cH_Md_laysMost_60 v1 v2 σ s) (cR_Md_laysMost_60 v1 v2 σ r) := Go_itr (fun s o ho => t_Md_laysMost_l60 v1 v2 s.1 s.2 σ ho) FU s r h
def Md_laysMost_b134 (v1 : Int32) (v2 : Int32) (v3 : Int32) (σ : MH) : Option (((Int32 × MH) ⊕ ((MH)))) := if inb (((4096 : Int32) * v1) + v2) 53248 = true then some (.inl (v2 + (1 : Int32), sI σ 189 (((4096 : Int32) * v1) + v2).toNatClampNeg v3)) else none
set_option maxRecDepth 20000 in
set_option maxHeartbeats 2000000 in
theorem t_Md_laysMost_b134 (v1 : Int32) (v2 : Int32) (v3 : Int32)   (σ : MH) {o} (h : Md_laysMost_b134 v1 v2 v3 σ = some o) : Go m_Md_laysMost 5 (some 134, [some (.ref 166), some (.int v1), some (.int v2), some (.int v3), none], [], σ) (cS (cH_Md_laysMost_35 v1) (cR_Md_laysMost_35 v1) o) := by
  unfold Md_laysMost_b134 at h
  obtain ⟨g22, h⟩ := gdS h
  refine Go.t (Go_sg bk_Md_laysMost 80 11 (c2 := (some 35, [some (.ref 166), some (.int v1), some (.int (v2 + (1 : Int32))), some (.int v3), none], [], sI σ 189 (((4096 : Int32) * v1) + v2).toNatClampNeg v3)) (ps := [shk 166 = 11, IA 189 53248 ∧ inb (((4096 : Int32) * v1) + v2) 53248 = true]) rfl ⟨rfl, ⟨⟨rfl, rfl⟩, g22⟩, trivial⟩) ?_
  have h := Option.some.inj h
  subst h
  exact Go.fg (LSub.cs (LSub.cs (LSub.cs (LSub.cn (LSub.cn (LSub.nil))))))
def Md_laysMost_l35 (v1 : Int32) (v2 : Int32) (σ : MH) : Option (((Int32 × MH) ⊕ ((MH)))) := if (4096 : Int32) ≤ v2 then some (.inr (σ)) else (if inb (((4096 : Int32) * (v1 + (1 : Int32))) + v2) 53248 = true then (Md_laysMost_L60 v1 v2 σ (σ.1 189 (((4096 : Int32) * (v1 + (1 : Int32))) + v2).toNatClampNeg, (0 : Int32))).bind fun z20 => Md_laysMost_b134 v1 v2 z20 σ else none)
set_option maxRecDepth 20000 in
set_option maxHeartbeats 2000000 in
theorem t_Md_laysMost_l35 (v1 : Int32) (v2 : Int32)  (σ : MH) {o} (h : Md_laysMost_l35 v1 v2 σ = some o) : Go m_Md_laysMost 5 (cH_Md_laysMost_35 v1 (v2, σ)) (cS (cH_Md_laysMost_35 v1) (cR_Md_laysMost_35 v1) o) := by
  unfold Md_laysMost_l35 at h
  unfold cH_Md_laysMost_35
  refine Go.t (Go_sg bk_Md_laysMost 20 2 (c2 := (some 39, [some (.ref 166), some (.int v1), some (.int v2), none, none], [.int (4096 : Int32), .int v2], σ)) (ps := []) rfl trivial) ?_
  refine Go_icmp_ge bk_Md_laysMost 22 rfl (fun c23 => ?_) (fun c23 => ?_)
  · have h := ifT c23 h
    have h := Option.some.inj h
    subst h
    exact Go.fg (LSub.cs (LSub.cs (LSub.cn (LSub.cn (LSub.cn (LSub.nil))))))
  · have h := ifF c23 h
    obtain ⟨g5, h⟩ := gdS h
    refine Go.t (Go_sg bk_Md_laysMost 23 13 (c2 := (some 60, [some (.ref 166), some (.int v1), some (.int v2), some (.int (σ.1 189 (((4096 : Int32) * (v1 + (1 : Int32))) + v2).toNatClampNeg)), some (.int (0 : Int32))], [], σ)) (ps := [shk 166 = 11, IA 189 53248 ∧ inb (((4096 : Int32) * (v1 + (1 : Int32))) + v2) 53248 = true]) rfl ⟨rfl, ⟨⟨rfl, rfl⟩, g5⟩, trivial⟩) ?_
    obtain ⟨z20, q21, h⟩ := bdS h
    refine Go.t (Go.t (Go.fg (LSub.cs (LSub.cs (LSub.cs (LSub.cs (LSub.cs (LSub.nil))))))) (t_Md_laysMost_L60 v1 v2 σ _ q21)) ?_
    exact Go.t (Go.fg (LSub.cs (LSub.cs (LSub.cs (LSub.cs (LSub.cn (LSub.nil))))))) (t_Md_laysMost_b134 v1 v2 z20 σ h)
def Md_laysMost_L35 (v1 : Int32) (s : Int32 × MH) : Option ((MH)) := itr (fun s : Int32 × MH => Md_laysMost_l35 v1 s.1 s.2) FU s
set_option maxRecDepth 20000 in
set_option maxHeartbeats 2000000 in
theorem t_Md_laysMost_L35 (v1 : Int32)  (s : Int32 × MH) {r} (h : Md_laysMost_L35 v1 s = some r) : Go m_Md_laysMost 5 (cH_Md_laysMost_35 v1 s) (cR_Md_laysMost_35 v1 r) := Go_itr (fun s o ho => t_Md_laysMost_l35 v1 s.1 s.2 ho) FU s r h
def Md_laysMost_l29 (v1 : Int32) (σ : MH) : Option (((Int32 × MH) ⊕ ((MH)))) := if v1 < (0 : Int32) then some (.inr (σ)) else ((Md_laysMost_L35 v1 ((0 : Int32), σ)).bind fun z24 => some (.inl (v1 + (-1 : Int32), z24)))
set_option maxRecDepth 20000 in
set_option maxHeartbeats 2000000 in
theorem t_Md_laysMost_l29 (v1 : Int32)  (σ : MH) {o} (h : Md_laysMost_l29 v1 σ = some o) : Go m_Md_laysMost 5 (cH_Md_laysMost_29  (v1, σ)) (cS (cH_Md_laysMost_29 ) (cR_Md_laysMost_29 ) o) := by
  unfold Md_laysMost_l29 at h
  unfold cH_Md_laysMost_29
  refine Go.t (Go_sg bk_Md_laysMost 16 1 (c2 := (some 30, [some (.ref 166), some (.int v1), none, none, none], [.int v1], σ)) (ps := []) rfl trivial) ?_
  refine Go_if_lt bk_Md_laysMost 17 rfl (fun c26 => ?_) (fun c26 => ?_)
  · have h := ifT c26 h
    have h := Option.some.inj h
    subst h
    exact Go_ret0 bk_Md_laysMost 93 rfl
  · have h := ifF c26 h
    refine Go.t (Go_sg bk_Md_laysMost 18 2 (c2 := (some 35, [some (.ref 166), some (.int v1), some (.int (0 : Int32)), none, none], [], σ)) (ps := []) rfl trivial) ?_
    obtain ⟨z24, q25, h⟩ := bdS h
    refine Go.t (Go.t (Go.fg (LSub.cs (LSub.cs (LSub.cs (LSub.cn (LSub.cn (LSub.nil))))))) (t_Md_laysMost_L35 v1 _ q25)) ?_
    refine Go.t (Go_sg bk_Md_laysMost 91 2 (c2 := (some 29, [some (.ref 166), some (.int (v1 + (-1 : Int32))), none, none, none], [], z24)) (ps := []) rfl trivial) ?_
    have h := Option.some.inj h
    subst h
    exact Go.fg (LSub.cs (LSub.cs (LSub.cn (LSub.cn (LSub.cn (LSub.nil))))))
def Md_laysMost_L29  (s : Int32 × MH) : Option ((MH)) := itr (fun s : Int32 × MH => Md_laysMost_l29 s.1 s.2) FU s
set_option maxRecDepth 20000 in
set_option maxHeartbeats 2000000 in
theorem t_Md_laysMost_L29   (s : Int32 × MH) {r} (h : Md_laysMost_L29  s = some r) : Go m_Md_laysMost 5 (cH_Md_laysMost_29  s) (cR_Md_laysMost_29  r) := Go_itr (fun s o ho => t_Md_laysMost_l29 s.1 s.2 ho) FU s r h
def Md_laysMost0  (σ : MH) : Option (MH) := (Md_laysMost_L2 ((0 : Int32), σ)).bind fun z3 => (Md_laysMost_L29 ((11 : Int32), z3)).bind fun z27 => some (z27)
set_option maxRecDepth 20000 in
set_option maxHeartbeats 2000000 in
theorem t_Md_laysMost0   (σ : MH) {o} (h : Md_laysMost0 σ = some o) : Go m_Md_laysMost 5 (some 0, [some (.ref 166), none, none, none, none], [], σ) ((none, [], [], o)) := by
  unfold Md_laysMost0 at h
  refine Go.t (Go_sg bk_Md_laysMost 0 2 (c2 := (some 2, [some (.ref 166), some (.int (0 : Int32)), none, none, none], [], σ)) (ps := []) rfl trivial) ?_
  obtain ⟨z3, q4, h⟩ := bdS h
  refine Go.t (Go.t (Go.fg (LSub.cs (LSub.cs (LSub.cn (LSub.cn (LSub.cn (LSub.nil))))))) (t_Md_laysMost_L2 _ q4)) ?_
  refine Go.t (Go_sg bk_Md_laysMost 14 2 (c2 := (some 29, [some (.ref 166), some (.int (11 : Int32)), none, none, none], [], z3)) (ps := []) rfl trivial) ?_
  obtain ⟨z27, q28, h⟩ := bdS h
  refine Go.t (Go.t (Go.fg (LSub.cs (LSub.cs (LSub.cn (LSub.cn (LSub.cn (LSub.nil))))))) (t_Md_laysMost_L29 _ q28)) ?_
  have h := Option.some.inj h
  subst h
  exact Go.rf
def Md_laysMost  (σ : MH) : Option (MH) := Md_laysMost0 σ
set_option maxRecDepth 20000 in
set_option maxHeartbeats 2000000 in
theorem ev_Md_laysMost   (σ : MH) {o} (h : Md_laysMost σ = some o) : Ev m_Md_laysMost 5 [.ref 166] σ none o := Ev.of2 (by decide +kernel) rfl (Nat.le_of_ble_eq_true rfl) rfl (t_Md_laysMost0 σ h)
def cH_Md_getsBy_8 (v1 : Int32) (σ : MH) (s : Int32 × Int32 × Int32) : MC := (some 8, [some (.ref 166), some (.int v1), some (.int s.1), some (.int s.2.1), some (.int s.2.2), none], [], σ)
def cR_Md_getsBy_8 (v1 : Int32) (σ : MH) : ((Int32)) → MC := (fun r : Int32 => ((some 131, [none, none, none, some (.int r), none, none], [], σ) : MC))
def cH_Md_getsBy_44 (v1 : Int32) (v2 : Int32) (v4 : Int32) (v5 : Int32) (σ : MH) (s : Int32) : MC := (some 44, [some (.ref 166), some (.int v1), some (.int v2), some (.int s), some (.int v4), some (.int v5)], [], σ)
def cR_Md_getsBy_44 (v1 : Int32) (v2 : Int32) (v4 : Int32) (v5 : Int32) (σ : MH) : ((Int32)) → MC := (fun r : Int32 => ((some 109, [some (.ref 166), some (.int v1), some (.int v2), some (.int r), some (.int v4), none], [], σ) : MC))
def Md_getsBy_b102 (v1 : Int32) (v2 : Int32) (v3 : Int32) (v4 : Int32) (v5 : Int32) (σ : MH) : Option (((Int32) ⊕ ((Int32)))) := some (.inl (v3 + (1 : Int32)))
set_option maxRecDepth 20000 in
set_option maxHeartbeats 2000000 in
theorem t_Md_getsBy_b102 (v1 : Int32) (v2 : Int32) (v3 : Int32) (v4 : Int32) (v5 : Int32)   (σ : MH) {o} (h : Md_getsBy_b102 v1 v2 v3 v4 v5 σ = some o) : Go m_Md_getsBy 5 (some 102, [some (.ref 166), some (.int v1), some (.int v2), some (.int v3), some (.int v4), some (.int v5)], [], σ) (cS (cH_Md_getsBy_44 v1 v2 v4 v5 σ) (cR_Md_getsBy_44 v1 v2 v4 v5 σ) o) := by
  unfold Md_getsBy_b102 at h
  refine Go.t (Go_sg bk_Md_getsBy 62 5 (c2 := (some 44, [some (.ref 166), some (.int v1), some (.int v2), some (.int (v3 + (1 : Int32))), some (.int v4), some (.int v5)], [], σ)) (ps := []) rfl trivial) ?_
  have h := Option.some.inj h
  subst h
  exact Go.fg (LSub.cs (LSub.cs (LSub.cs (LSub.cs (LSub.cs (LSub.cs (LSub.nil)))))))
def Md_getsBy_l44 (v1 : Int32) (v2 : Int32) (v4 : Int32) (v5 : Int32) (v3 : Int32) (σ : MH) : Option (((Int32) ⊕ ((Int32)))) := if (12 : Int32) ≤ v3 then some (.inr (v3)) else ((Md_mayGet v4 v3 v2 σ).bind fun x5 => if x5 = (0 : Int32) then (Md_getsBy_b102 v1 v2 v3 v4 v5 σ) else (if inb (((12 : Int32) * v4) + v3) 144 = true then if inb (((4096 : Int32) * (v4 + (1 : Int32))) + (v2 ||| (jshl (1 : Int32) v3))) 53248 = true then if ((10000 : Int32) - (σ.1 187 (((12 : Int32) * v4) + v3).toNatClampNeg)) + (σ.1 189 (((4096 : Int32) * (v4 + (1 : Int32))) + (v2 ||| (jshl (1 : Int32) v3))).toNatClampNeg) = v5 then some (.inr (v3)) else (Md_getsBy_b102 v1 v2 v3 v4 v5 σ) else none else none))
set_option maxRecDepth 20000 in
set_option maxHeartbeats 2000000 in
theorem t_Md_getsBy_l44 (v1 : Int32) (v2 : Int32) (v4 : Int32) (v5 : Int32) (v3 : Int32)  (σ : MH) {o} (h : Md_getsBy_l44 v1 v2 v4 v5 v3 σ = some o) : Go m_Md_getsBy 5 (cH_Md_getsBy_44 v1 v2 v4 v5 σ (v3)) (cS (cH_Md_getsBy_44 v1 v2 v4 v5 σ) (cR_Md_getsBy_44 v1 v2 v4 v5 σ) o) := by
  unfold Md_getsBy_l44 at h
  unfold cH_Md_getsBy_44
  refine Go.t (Go_sg bk_Md_getsBy 26 2 (c2 := (some 47, [some (.ref 166), some (.int v1), some (.int v2), some (.int v3), some (.int v4), some (.int v5)], [.int (12 : Int32), .int v3], σ)) (ps := []) rfl trivial) ?_
  refine Go_icmp_ge bk_Md_getsBy 28 rfl (fun c12 => ?_) (fun c12 => ?_)
  · have h := ifT c12 h
    have h := Option.some.inj h
    subst h
    exact Go.fg (LSub.cs (LSub.cs (LSub.cs (LSub.cs (LSub.cs (LSub.cn (LSub.nil)))))))
  · have h := ifF c12 h
    refine Go.t (Go_sg bk_Md_getsBy 29 4 (c2 := (some 55, [some (.ref 166), some (.int v1), some (.int v2), some (.int v3), some (.int v4), some (.int v5)], [.int v2, .int v3, .int v4, .ref 166], σ)) (ps := []) rfl trivial) ?_
    obtain ⟨x5, q7, h⟩ := bdS h
    refine Go.t (Go_callV bk_Md_getsBy 33 rfl nk_Md_mayGet tw1648 tw1650 tw92 (ci := 11) rfl (as := [.int v4, .int v3, .int v2]) (S := []) rfl rfl rfl rfl (Nat.le_of_ble_eq_true rfl) (Nat.le_of_ble_eq_true rfl) (ev_Md_mayGet _ _ _ _ q7)) ?_
    refine Go_if_eq bk_Md_getsBy 34 rfl (fun c11 => ?_) (fun c11 => ?_)
    · have h := ifT c11 h
      exact Go.t (Go.fg (LSub.cs (LSub.cs (LSub.cs (LSub.cs (LSub.cs (LSub.cs (LSub.nil)))))))) (t_Md_getsBy_b102 v1 v2 v3 v4 v5 σ h)
    · have h := ifF c11 h
      obtain ⟨g8, h⟩ := gdS h
      obtain ⟨g9, h⟩ := gdS h
      refine Go.t (Go_sg bk_Md_getsBy 35 26 (c2 := (some 99, [some (.ref 166), some (.int v1), some (.int v2), some (.int v3), some (.int v4), some (.int v5)], [.int v5, .int (((10000 : Int32) - (σ.1 187 (((12 : Int32) * v4) + v3).toNatClampNeg)) + (σ.1 189 (((4096 : Int32) * (v4 + (1 : Int32))) + (v2 ||| (jshl (1 : Int32) v3))).toNatClampNeg))], σ)) (ps := [shk 166 = 11, IA 187 144 ∧ inb (((12 : Int32) * v4) + v3) 144 = true, shk 166 = 11, IA 189 53248 ∧ inb (((4096 : Int32) * (v4 + (1 : Int32))) + (v2 ||| (jshl (1 : Int32) v3))) 53248 = true]) rfl ⟨rfl, ⟨⟨rfl, rfl⟩, g8⟩, rfl, ⟨⟨rfl, rfl⟩, g9⟩, trivial⟩) ?_
      refine Go_icmp_eq bk_Md_getsBy 61 rfl (fun c10 => ?_) (fun c10 => ?_)
      · have h := ifT c10 h
        have h := Option.some.inj h
        subst h
        exact Go.fg (LSub.cs (LSub.cs (LSub.cs (LSub.cs (LSub.cs (LSub.cn (LSub.nil)))))))
      · have h := ifF c10 h
        exact Go.t (Go.fg (LSub.cs (LSub.cs (LSub.cs (LSub.cs (LSub.cs (LSub.cs (LSub.nil)))))))) (t_Md_getsBy_b102 v1 v2 v3 v4 v5 σ h)
def Md_getsBy_L44 (v1 : Int32) (v2 : Int32) (v4 : Int32) (v5 : Int32) (σ : MH) (s : Int32) : Option ((Int32)) := itr (fun s : Int32 => Md_getsBy_l44 v1 v2 v4 v5 s σ) FU s
set_option maxRecDepth 20000 in
set_option maxHeartbeats 2000000 in
theorem t_Md_getsBy_L44 (v1 : Int32) (v2 : Int32) (v4 : Int32) (v5 : Int32)  (σ : MH) (s : Int32) {r} (h : Md_getsBy_L44 v1 v2 v4 v5 σ s = some r) : Go m_Md_getsBy 5 (cH_Md_getsBy_44 v1 v2 v4 v5 σ s) (cR_Md_getsBy_44 v1 v2 v4 v5 σ r) := Go_itr (fun s o ho => t_Md_getsBy_l44 v1 v2 v4 v5 s σ ho) FU s r h
def Md_getsBy_b125 (v1 : Int32) (v2 : Int32) (v3 : Int32) (v4 : Int32) (σ : MH) : Option (((Int32 × Int32 × Int32) ⊕ ((Int32)))) := some (.inl (v2, v3, v4 + (1 : Int32)))
set_option maxRecDepth 20000 in
set_option maxHeartbeats 2000000 in
theorem t_Md_getsBy_b125 (v1 : Int32) (v2 : Int32) (v3 : Int32) (v4 : Int32)   (σ : MH) {o} (h : Md_getsBy_b125 v1 v2 v3 v4 σ = some o) : Go m_Md_getsBy 5 (some 125, [some (.ref 166), some (.int v1), some (.int v2), some (.int v3), some (.int v4), none], [], σ) (cS (cH_Md_getsBy_8 v1 σ) (cR_Md_getsBy_8 v1 σ) o) := by
  unfold Md_getsBy_b125 at h
  refine Go.t (Go_sg bk_Md_getsBy 78 2 (c2 := (some 8, [some (.ref 166), some (.int v1), some (.int v2), some (.int v3), some (.int (v4 + (1 : Int32))), none], [], σ)) (ps := []) rfl trivial) ?_
  have h := Option.some.inj h
  subst h
  exact Go.fg (LSub.cs (LSub.cs (LSub.cs (LSub.cs (LSub.cs (LSub.cn (LSub.nil)))))))
def Md_getsBy_b124 (v1 : Int32) (v3 : Int32) (v4 : Int32) (s0 : Int32) (σ : MH) : Option (((Int32 × Int32 × Int32) ⊕ ((Int32)))) := Md_getsBy_b125 v1 s0 v3 v4 σ
set_option maxRecDepth 20000 in
set_option maxHeartbeats 2000000 in
theorem t_Md_getsBy_b124 (v1 : Int32) (v3 : Int32) (v4 : Int32) (s0 : Int32)   (σ : MH) {o} (h : Md_getsBy_b124 v1 v3 v4 s0 σ = some o) : Go m_Md_getsBy 5 (some 124, [some (.ref 166), some (.int v1), none, some (.int v3), some (.int v4), none], [.int s0], σ) (cS (cH_Md_getsBy_8 v1 σ) (cR_Md_getsBy_8 v1 σ) o) := by
  unfold Md_getsBy_b124 at h
  refine Go.t (Go_sg bk_Md_getsBy 77 1 (c2 := (some 125, [some (.ref 166), some (.int v1), some (.int s0), some (.int v3), some (.int v4), none], [], σ)) (ps := []) rfl trivial) ?_
  exact Go.t (Go.fg (LSub.cs (LSub.cs (LSub.cs (LSub.cs (LSub.cs (LSub.cn (LSub.nil)))))))) (t_Md_getsBy_b125 v1 s0 v3 v4 σ h)
def Md_getsBy_b109 (v1 : Int32) (v2 : Int32) (v3 : Int32) (v4 : Int32) (σ : MH) : Option (((Int32 × Int32 × Int32) ⊕ ((Int32)))) := if v3 = (12 : Int32) then (Md_getsBy_b124 v1 v3 v4 v2 σ) else (Md_getsBy_b124 v1 v3 v4 (v2 ||| (jshl (1 : Int32) v3)) σ)
set_option maxRecDepth 20000 in
set_option maxHeartbeats 2000000 in
theorem t_Md_getsBy_b109 (v1 : Int32) (v2 : Int32) (v3 : Int32) (v4 : Int32)   (σ : MH) {o} (h : Md_getsBy_b109 v1 v2 v3 v4 σ = some o) : Go m_Md_getsBy 5 (some 109, [some (.ref 166), some (.int v1), some (.int v2), some (.int v3), some (.int v4), none], [], σ) (cS (cH_Md_getsBy_8 v1 σ) (cR_Md_getsBy_8 v1 σ) o) := by
  unfold Md_getsBy_b109 at h
  refine Go.t (Go_sg bk_Md_getsBy 67 2 (c2 := (some 112, [some (.ref 166), some (.int v1), some (.int v2), some (.int v3), some (.int v4), none], [.int (12 : Int32), .int v3], σ)) (ps := []) rfl trivial) ?_
  refine Go_icmp_ne bk_Md_getsBy 69 rfl (fun c15 => ?_) (fun c15 => ?_)
  · have h := ifF c15 h
    refine Go.t (Go_sg bk_Md_getsBy 72 5 (c2 := (some 124, [some (.ref 166), some (.int v1), some (.int v2), some (.int v3), some (.int v4), none], [.int (v2 ||| (jshl (1 : Int32) v3))], σ)) (ps := []) rfl trivial) ?_
    exact Go.t (Go.fg (LSub.cs (LSub.cs (LSub.cn (LSub.cs (LSub.cs (LSub.cn (LSub.nil)))))))) (t_Md_getsBy_b124 v1 v3 v4 (v2 ||| (jshl (1 : Int32) v3)) σ h)
  · have h := ifT c15 h
    refine Go.t (Go_sg bk_Md_getsBy 70 2 (c2 := (some 124, [some (.ref 166), some (.int v1), some (.int v2), some (.int v3), some (.int v4), none], [.int v2], σ)) (ps := []) rfl trivial) ?_
    exact Go.t (Go.fg (LSub.cs (LSub.cs (LSub.cn (LSub.cs (LSub.cs (LSub.cn (LSub.nil)))))))) (t_Md_getsBy_b124 v1 v3 v4 v2 σ h)
def Md_getsBy_l8 (v1 : Int32) (v2 : Int32) (v3 : Int32) (v4 : Int32) (σ : MH) : Option (((Int32 × Int32 × Int32) ⊕ ((Int32)))) := if v1 < v4 then some (.inr (v3)) else ((Md_isOne v4 (0 : Int32) σ).bind fun x1 => if x1 = (0 : Int32) then (Md_getsBy_b125 v1 v2 v3 v4 σ) else (if inb (((4096 : Int32) * v4) + v2) 53248 = true then (Md_getsBy_L44 v1 v2 v4 (σ.1 189 (((4096 : Int32) * v4) + v2).toNatClampNeg) σ ((0 : Int32))).bind fun z13 => Md_getsBy_b109 v1 v2 z13 v4 σ else none))
set_option maxRecDepth 20000 in
set_option maxHeartbeats 2000000 in
theorem t_Md_getsBy_l8 (v1 : Int32) (v2 : Int32) (v3 : Int32) (v4 : Int32)  (σ : MH) {o} (h : Md_getsBy_l8 v1 v2 v3 v4 σ = some o) : Go m_Md_getsBy 5 (cH_Md_getsBy_8 v1 σ (v2, v3, v4)) (cS (cH_Md_getsBy_8 v1 σ) (cR_Md_getsBy_8 v1 σ) o) := by
  unfold Md_getsBy_l8 at h
  unfold cH_Md_getsBy_8
  refine Go.t (Go_sg bk_Md_getsBy 6 2 (c2 := (some 11, [some (.ref 166), some (.int v1), some (.int v2), some (.int v3), some (.int v4), none], [.int v1, .int v4], σ)) (ps := []) rfl trivial) ?_
  refine Go_icmp_gt bk_Md_getsBy 8 rfl (fun c17 => ?_) (fun c17 => ?_)
  · have h := ifT c17 h
    have h := Option.some.inj h
    subst h
    exact Go.fg (LSub.cn (LSub.cn (LSub.cn (LSub.cs (LSub.cn (LSub.cn (LSub.nil)))))))
  · have h := ifF c17 h
    refine Go.t (Go_sg bk_Md_getsBy 9 3 (c2 := (some 18, [some (.ref 166), some (.int v1), some (.int v2), some (.int v3), some (.int v4), none], [.int (0 : Int32), .int v4, .ref 166], σ)) (ps := []) rfl trivial) ?_
    obtain ⟨x1, q3, h⟩ := bdS h
    refine Go.t (Go_callV bk_Md_getsBy 12 rfl nk_Md_isOne tw1639 tw1641 tw90 (ci := 11) rfl (as := [.int v4, .int (0 : Int32)]) (S := []) rfl rfl rfl rfl (Nat.le_of_ble_eq_true rfl) (Nat.le_of_ble_eq_true rfl) (ev_Md_isOne _ _ _ q3)) ?_
    refine Go_if_ne bk_Md_getsBy 13 rfl (fun c16 => ?_) (fun c16 => ?_)
    · have h := ifF c16 h
      obtain ⟨g4, h⟩ := gdS h
      refine Go.t (Go_sg bk_Md_getsBy 15 11 (c2 := (some 44, [some (.ref 166), some (.int v1), some (.int v2), some (.int (0 : Int32)), some (.int v4), some (.int (σ.1 189 (((4096 : Int32) * v4) + v2).toNatClampNeg))], [], σ)) (ps := [shk 166 = 11, IA 189 53248 ∧ inb (((4096 : Int32) * v4) + v2) 53248 = true]) rfl ⟨rfl, ⟨⟨rfl, rfl⟩, g4⟩, trivial⟩) ?_
      obtain ⟨z13, q14, h⟩ := bdS h
      refine Go.t (Go.t (Go.fg (LSub.cs (LSub.cs (LSub.cs (LSub.cs (LSub.cs (LSub.cs (LSub.nil)))))))) (t_Md_getsBy_L44 v1 v2 v4 (σ.1 189 (((4096 : Int32) * v4) + v2).toNatClampNeg) σ _ q14)) ?_
      exact Go.t (Go.fg (LSub.cs (LSub.cs (LSub.cs (LSub.cs (LSub.cs (LSub.cn (LSub.nil)))))))) (t_Md_getsBy_b109 v1 v2 z13 v4 σ h)
    · have h := ifT c16 h
      refine Go.t (Go_sg bk_Md_getsBy 14 1 (c2 := (some 125, [some (.ref 166), some (.int v1), some (.int v2), some (.int v3), some (.int v4), none], [], σ)) (ps := []) rfl trivial) ?_
      exact Go.t (Go.fg (LSub.cs (LSub.cs (LSub.cs (LSub.cs (LSub.cs (LSub.cn (LSub.nil)))))))) (t_Md_getsBy_b125 v1 v2 v3 v4 σ h)
def Md_getsBy_L8 (v1 : Int32) (σ : MH) (s : Int32 × Int32 × Int32) : Option ((Int32)) := itr (fun s : Int32 × Int32 × Int32 => Md_getsBy_l8 v1 s.1 s.2.1 s.2.2 σ) FU s
set_option maxRecDepth 20000 in
set_option maxHeartbeats 2000000 in
theorem t_Md_getsBy_L8 (v1 : Int32)  (σ : MH) (s : Int32 × Int32 × Int32) {r} (h : Md_getsBy_L8 v1 σ s = some r) : Go m_Md_getsBy 5 (cH_Md_getsBy_8 v1 σ s) (cR_Md_getsBy_8 v1 σ r) := Go_itr (fun s o ho => t_Md_getsBy_l8 v1 s.1 s.2.1 s.2.2 σ ho) FU s r h
def Md_getsBy0 (v1 : Int32) (σ : MH) : Option (Int32) := (Md_getsBy_L8 v1 σ ((0 : Int32), (12 : Int32), (0 : Int32))).bind fun z18 => if z18 = (12 : Int32) then some ((-2 : Int32)) else some (z18)
set_option maxRecDepth 20000 in
set_option maxHeartbeats 2000000 in
theorem t_Md_getsBy0 (v1 : Int32)  (σ : MH) {o} (h : Md_getsBy0 v1 σ = some o) : Go m_Md_getsBy 5 (some 0, [some (.ref 166), some (.int v1), none, none, none, none], [], σ) ((none, [], [.int o], σ)) := by
  unfold Md_getsBy0 at h
  refine Go.t (Go_sg bk_Md_getsBy 0 6 (c2 := (some 8, [some (.ref 166), some (.int v1), some (.int (0 : Int32)), some (.int (12 : Int32)), some (.int (0 : Int32)), none], [], σ)) (ps := []) rfl trivial) ?_
  obtain ⟨z18, q19, h⟩ := bdS h
  refine Go.t (Go.t (Go.fg (LSub.cs (LSub.cs (LSub.cs (LSub.cs (LSub.cs (LSub.cn (LSub.nil)))))))) (t_Md_getsBy_L8 v1 σ _ q19)) ?_
  refine Go.t (Go_sg bk_Md_getsBy 80 2 (c2 := (some 134, [none, none, none, some (.int z18), none, none], [.int (12 : Int32), .int z18], σ)) (ps := []) rfl trivial) ?_
  refine Go_icmp_ne bk_Md_getsBy 82 rfl (fun c20 => ?_) (fun c20 => ?_)
  · have h := ifF c20 h
    have h := Option.some.inj h
    subst h
    refine Go.t (Go_sg bk_Md_getsBy 85 1 (c2 := (some 143, [none, none, none, some (.int z18), none, none], [.int z18], σ)) (ps := []) rfl trivial) ?_
    exact Go_reti bk_Md_getsBy 86 rfl
  · have h := ifT c20 h
    refine Go.t (Go_sg bk_Md_getsBy 83 2 (c2 := (some 143, [none, none, none, some (.int z18), none, none], [.int (-2 : Int32)], σ)) (ps := []) rfl trivial) ?_
    have h := Option.some.inj h
    subst h
    exact Go_reti bk_Md_getsBy 86 rfl
def Md_getsBy (v1 : Int32) (σ : MH) : Option (Int32) := Md_getsBy0 v1 σ
set_option maxRecDepth 20000 in
set_option maxHeartbeats 2000000 in
theorem ev_Md_getsBy (v1 : Int32)  (σ : MH) {o} (h : Md_getsBy v1 σ = some o) : Ev m_Md_getsBy 5 [.ref 166, .int v1] σ (some (.int o)) σ := Ev.of2 (by decide +kernel) rfl (Nat.le_of_ble_eq_true rfl) ⟨.int, rfl, rfl⟩ (t_Md_getsBy0 v1 σ h)
def Md_most_b22 (v1 : Int32) (σ : MH) : Option (Int32 × MH) := (Md_laysFits σ).bind fun σ5 => (Md_laysMost σ5).bind fun σ8 => if v1 = (20 : Int32) then some (((σ8.1 189 0) + (9999 : Int32)) / (10000 : Int32), σ8) else (if v1 = (21 : Int32) then some (((10000 : Int32) * (((σ8.1 189 0) + (9999 : Int32)) / (10000 : Int32))) - (σ8.1 189 0), σ8) else ((Md_getsBy v1 σ8).bind fun x10 => some (x10, σ8)))
set_option maxRecDepth 20000 in
set_option maxHeartbeats 2000000 in
theorem t_Md_most_b22 (v1 : Int32)   (σ : MH) {o} (h : Md_most_b22 v1 σ = some o) : Go m_Md_most 8 (some 22, [some (.ref 166), some (.int v1), none], [], σ) ((none, [], [.int o.1], o.2)) := by
  unfold Md_most_b22 at h
  refine Go.t (Go_sg bk_Md_most 12 1 (c2 := (some 23, [some (.ref 166), some (.int v1), none], [.ref 166], σ)) (ps := []) rfl trivial) ?_
  obtain ⟨σ5, q6, h⟩ := bdS h
  refine Go.t (Go_callV bk_Md_most 13 rfl nk_Md_laysFits tw1631 tw1633 tw89 (ci := 11) rfl (as := []) (S := []) rfl rfl rfl rfl (Nat.le_of_ble_eq_true rfl) (Nat.le_of_ble_eq_true rfl) (ev_Md_laysFits _ q6)) ?_
  refine Go.t (Go_sg bk_Md_most 14 1 (c2 := (some 27, [some (.ref 166), some (.int v1), none], [.ref 166], σ5)) (ps := []) rfl trivial) ?_
  obtain ⟨σ8, q9, h⟩ := bdS h
  refine Go.t (Go_callV bk_Md_most 15 rfl nk_Md_laysMost tw1643 tw1645 tw91 (ci := 11) rfl (as := []) (S := []) rfl rfl rfl rfl (Nat.le_of_ble_eq_true rfl) (Nat.le_of_ble_eq_true rfl) (ev_Md_laysMost _ q9)) ?_
  refine Go.t (Go_sg bk_Md_most 16 11 (c2 := (some 48, [some (.ref 166), some (.int v1), some (.int (((σ8.1 189 0) + (9999 : Int32)) / (10000 : Int32)))], [.int (20 : Int32), .int v1], σ8)) (ps := [shk 166 = 11, IA 189 53248 ∧ inb (0 : Int32) 53248 = true, (10000 : Int32) ≠ 0]) rfl ⟨rfl, ⟨⟨rfl, rfl⟩, (inbN 0 53248 rfl)⟩, (by decide), trivial⟩) ?_
  refine Go_icmp_ne bk_Md_most 27 rfl (fun c14 => ?_) (fun c14 => ?_)
  · have h := ifF c14 h
    refine Go.t (Go_sg bk_Md_most 30 2 (c2 := (some 58, [some (.ref 166), some (.int v1), some (.int (((σ8.1 189 0) + (9999 : Int32)) / (10000 : Int32)))], [.int (21 : Int32), .int v1], σ8)) (ps := []) rfl trivial) ?_
    refine Go_icmp_ne bk_Md_most 32 rfl (fun c13 => ?_) (fun c13 => ?_)
    · have h := ifF c13 h
      refine Go.t (Go_sg bk_Md_most 42 2 (c2 := (some 78, [some (.ref 166), some (.int v1), some (.int (((σ8.1 189 0) + (9999 : Int32)) / (10000 : Int32)))], [.int v1, .ref 166], σ8)) (ps := []) rfl trivial) ?_
      obtain ⟨x10, q12, h⟩ := bdS h
      refine Go.t (Go_callV bk_Md_most 44 rfl nk_Md_getsBy tw1652 tw1654 tw93 (ci := 11) rfl (as := [.int v1]) (S := []) rfl rfl rfl rfl (Nat.le_of_ble_eq_true rfl) (Nat.le_of_ble_eq_true rfl) (ev_Md_getsBy _ _ q12)) ?_
      have h := Option.some.inj h
      subst h
      exact Go_reti bk_Md_most 45 rfl
    · have h := ifT c13 h
      refine Go.t (Go_sg bk_Md_most 33 9 (c2 := (some 81, [some (.ref 166), some (.int v1), some (.int (((σ8.1 189 0) + (9999 : Int32)) / (10000 : Int32)))], [.int (((10000 : Int32) * (((σ8.1 189 0) + (9999 : Int32)) / (10000 : Int32))) - (σ8.1 189 0))], σ8)) (ps := [shk 166 = 11, IA 189 53248 ∧ inb (0 : Int32) 53248 = true]) rfl ⟨rfl, ⟨⟨rfl, rfl⟩, (inbN 0 53248 rfl)⟩, trivial⟩) ?_
      have h := Option.some.inj h
      subst h
      exact Go_reti bk_Md_most 45 rfl
  · have h := ifT c14 h
    refine Go.t (Go_sg bk_Md_most 28 2 (c2 := (some 81, [some (.ref 166), some (.int v1), some (.int (((σ8.1 189 0) + (9999 : Int32)) / (10000 : Int32)))], [.int (((σ8.1 189 0) + (9999 : Int32)) / (10000 : Int32))], σ8)) (ps := []) rfl trivial) ?_
    have h := Option.some.inj h
    subst h
    exact Go_reti bk_Md_most 45 rfl
def Md_most0 (v1 : Int32) (σ : MH) : Option (Int32 × MH) := (Md_in v1 (20 : Int32) (21 : Int32) σ).bind fun x1 => if x1 = (0 : Int32) then ((Md_isOne v1 (0 : Int32) σ).bind fun x15 => if x15 = (0 : Int32) then some ((-1 : Int32), σ) else (Md_most_b22 v1 σ)) else (Md_most_b22 v1 σ)
set_option maxRecDepth 20000 in
set_option maxHeartbeats 2000000 in
theorem t_Md_most0 (v1 : Int32)  (σ : MH) {o} (h : Md_most0 v1 σ = some o) : Go m_Md_most 8 (some 0, [some (.ref 166), some (.int v1), none], [], σ) ((none, [], [.int o.1], o.2)) := by
  unfold Md_most0 at h
  refine Go.t (Go_sg bk_Md_most 0 3 (c2 := (some 5, [some (.ref 166), some (.int v1), none], [.int (21 : Int32), .int (20 : Int32), .int v1], σ)) (ps := []) rfl trivial) ?_
  obtain ⟨x1, q3, h⟩ := bdS h
  refine Go.t (Go_callS bk_Md_most 3 rfl nk_Md_in tw1370 tw1371 (as := [.int v1, .int (20 : Int32), .int (21 : Int32)]) (S := []) rfl rfl rfl (Nat.le_of_ble_eq_true rfl) (Nat.le_of_ble_eq_true rfl) (ev_Md_in _ _ _ _ q3)) ?_
  refine Go_if_ne bk_Md_most 4 rfl (fun c19 => ?_) (fun c19 => ?_)
  · have h := ifF c19 h
    exact Go.t (Go.fg (LSub.cs (LSub.cs (LSub.cn (LSub.nil))))) (t_Md_most_b22 v1 σ h)
  · have h := ifT c19 h
    refine Go.t (Go_sg bk_Md_most 5 3 (c2 := (some 14, [some (.ref 166), some (.int v1), none], [.int (0 : Int32), .int v1, .ref 166], σ)) (ps := []) rfl trivial) ?_
    obtain ⟨x15, q17, h⟩ := bdS h
    refine Go.t (Go_callV bk_Md_most 8 rfl nk_Md_isOne tw1639 tw1641 tw90 (ci := 11) rfl (as := [.int v1, .int (0 : Int32)]) (S := []) rfl rfl rfl rfl (Nat.le_of_ble_eq_true rfl) (Nat.le_of_ble_eq_true rfl) (ev_Md_isOne _ _ _ q17)) ?_
    refine Go_if_ne bk_Md_most 9 rfl (fun c18 => ?_) (fun c18 => ?_)
    · have h := ifF c18 h
      exact Go.t (Go.fg (LSub.cs (LSub.cs (LSub.cn (LSub.nil))))) (t_Md_most_b22 v1 σ h)
    · have h := ifT c18 h
      have h := Option.some.inj h
      subst h
      refine Go.t (Go_sg bk_Md_most 10 1 (c2 := (some 21, [some (.ref 166), some (.int v1), none], [.int (-1 : Int32)], σ)) (ps := []) rfl trivial) ?_
      exact Go_reti bk_Md_most 11 rfl
def Md_most (v1 : Int32) (σ : MH) : Option (Int32 × MH) := Md_most0 v1 σ
set_option maxRecDepth 20000 in
set_option maxHeartbeats 2000000 in
theorem ev_Md_most (v1 : Int32)  (σ : MH) {o} (h : Md_most v1 σ = some o) : Ev m_Md_most 8 [.ref 166, .int v1] σ (some (.int o.1)) o.2 := Ev.of2 (by decide +kernel) rfl (Nat.le_of_ble_eq_true rfl) ⟨.int, rfl, rfl⟩ (t_Md_most0 v1 σ h)
def cH_Md_nextAsked_4 (v1 : Int32) (σ : MH) (s : Int32 × Int32) : MC := (some 4, [some (.ref 166), some (.int v1), some (.int s.1), some (.int s.2)], [], σ)
def cR_Md_nextAsked_4 (v1 : Int32) (σ : MH) : ((Int32)) → MC := (fun r : Int32 => ((none, [], [.int r], σ) : MC))
def Md_nextAsked_b97 (v1 : Int32) (v2 : Int32) (v3 : Int32) (σ : MH) : Option (((Int32 × Int32) ⊕ ((Int32)))) := some (.inl (v2, v3 + (1 : Int32)))
set_option maxRecDepth 20000 in
set_option maxHeartbeats 2000000 in
theorem t_Md_nextAsked_b97 (v1 : Int32) (v2 : Int32) (v3 : Int32)   (σ : MH) {o} (h : Md_nextAsked_b97 v1 v2 v3 σ = some o) : Go m_Md_nextAsked 2 (some 97, [some (.ref 166), some (.int v1), some (.int v2), some (.int v3)], [], σ) (cS (cH_Md_nextAsked_4 v1 σ) (cR_Md_nextAsked_4 v1 σ) o) := by
  unfold Md_nextAsked_b97 at h
  refine Go.t (Go_sg bk_Md_nextAsked 61 2 (c2 := (some 4, [some (.ref 166), some (.int v1), some (.int v2), some (.int (v3 + (1 : Int32)))], [], σ)) (ps := []) rfl trivial) ?_
  have h := Option.some.inj h
  subst h
  exact Go.fg (LSub.cs (LSub.cs (LSub.cs (LSub.cs (LSub.nil)))))
def Md_nextAsked_b95 (v1 : Int32) (v3 : Int32) (σ : MH) : Option (((Int32 × Int32) ⊕ ((Int32)))) := Md_nextAsked_b97 v1 v3 v3 σ
set_option maxRecDepth 20000 in
set_option maxHeartbeats 2000000 in
theorem t_Md_nextAsked_b95 (v1 : Int32) (v3 : Int32)   (σ : MH) {o} (h : Md_nextAsked_b95 v1 v3 σ = some o) : Go m_Md_nextAsked 2 (some 95, [some (.ref 166), some (.int v1), none, some (.int v3)], [], σ) (cS (cH_Md_nextAsked_4 v1 σ) (cR_Md_nextAsked_4 v1 σ) o) := by
  unfold Md_nextAsked_b95 at h
  refine Go.t (Go_sg bk_Md_nextAsked 59 2 (c2 := (some 97, [some (.ref 166), some (.int v1), some (.int v3), some (.int v3)], [], σ)) (ps := []) rfl trivial) ?_
  exact Go.t (Go.fg (LSub.cs (LSub.cs (LSub.cs (LSub.cs (LSub.nil)))))) (t_Md_nextAsked_b97 v1 v3 v3 σ h)
def Md_nextAsked_l4 (v1 : Int32) (v2 : Int32) (v3 : Int32) (σ : MH) : Option (((Int32 × Int32) ⊕ ((Int32)))) := if (12 : Int32) ≤ v3 then some (.inr (v2)) else (if inb v1 12 = true then (Md_has (σ.1 186 v1.toNatClampNeg) v3 σ).bind fun x2 => if x2 = (0 : Int32) then (Md_nextAsked_b97 v1 v2 v3 σ) else (if inb ((0 : Int32) + v3) 1936 = true then if σ.1 167 ((0 : Int32) + v3).toNatClampNeg = (1 : Int32) then ((Md_has (σ.1 190 v1.toNatClampNeg) v3 σ).bind fun x6 => if x6 = (0 : Int32) then (if inb (((12 : Int32) * v1) + v3) 144 = true then if σ.1 188 (((12 : Int32) * v1) + v3).toNatClampNeg = (0 : Int32) then (Md_nextAsked_b97 v1 v2 v3 σ) else (if v2 = (-1 : Int32) then (Md_nextAsked_b95 v1 v3 σ) else (if inb (((12 : Int32) * v1) + v2) 144 = true then if σ.1 188 (((12 : Int32) * v1) + v3).toNatClampNeg ≤ σ.1 188 (((12 : Int32) * v1) + v2).toNatClampNeg then (Md_nextAsked_b97 v1 v2 v3 σ) else (Md_nextAsked_b95 v1 v3 σ) else none)) else none) else (Md_nextAsked_b97 v1 v2 v3 σ)) else (Md_nextAsked_b97 v1 v2 v3 σ) else none) else none)
set_option maxRecDepth 20000 in
set_option maxHeartbeats 2000000 in
theorem t_Md_nextAsked_l4 (v1 : Int32) (v2 : Int32) (v3 : Int32)  (σ : MH) {o} (h : Md_nextAsked_l4 v1 v2 v3 σ = some o) : Go m_Md_nextAsked 2 (cH_Md_nextAsked_4 v1 σ (v2, v3)) (cS (cH_Md_nextAsked_4 v1 σ) (cR_Md_nextAsked_4 v1 σ) o) := by
  unfold Md_nextAsked_l4 at h
  unfold cH_Md_nextAsked_4
  refine Go.t (Go_sg bk_Md_nextAsked 4 2 (c2 := (some 7, [some (.ref 166), some (.int v1), some (.int v2), some (.int v3)], [.int (12 : Int32), .int v3], σ)) (ps := []) rfl trivial) ?_
  refine Go_icmp_ge bk_Md_nextAsked 6 rfl (fun c17 => ?_) (fun c17 => ?_)
  · have h := ifT c17 h
    have h := Option.some.inj h
    subst h
    refine Go.t (Go_sg bk_Md_nextAsked 63 1 (c2 := (some 104, [some (.ref 166), some (.int v1), some (.int v2), some (.int v3)], [.int v2], σ)) (ps := []) rfl trivial) ?_
    exact Go_reti bk_Md_nextAsked 64 rfl
  · have h := ifF c17 h
    obtain ⟨g1, h⟩ := gdS h
    refine Go.t (Go_sg bk_Md_nextAsked 7 5 (c2 := (some 17, [some (.ref 166), some (.int v1), some (.int v2), some (.int v3)], [.int v3, .int (σ.1 186 v1.toNatClampNeg)], σ)) (ps := [shk 166 = 11, IA 186 12 ∧ inb v1 12 = true]) rfl ⟨rfl, ⟨⟨rfl, rfl⟩, g1⟩, trivial⟩) ?_
    obtain ⟨x2, q4, h⟩ := bdS h
    refine Go.t (Go_callS bk_Md_nextAsked 12 rfl nk_Md_has tw1367 tw1368 (as := [.int (σ.1 186 v1.toNatClampNeg), .int v3]) (S := []) rfl rfl rfl (Nat.le_of_ble_eq_true rfl) (Nat.le_of_ble_eq_true rfl) (ev_Md_has _ _ _ q4)) ?_
    refine Go_if_eq bk_Md_nextAsked 13 rfl (fun c16 => ?_) (fun c16 => ?_)
    · have h := ifT c16 h
      exact Go.t (Go.fg (LSub.cs (LSub.cs (LSub.cs (LSub.cs (LSub.nil)))))) (t_Md_nextAsked_b97 v1 v2 v3 σ h)
    · have h := ifF c16 h
      obtain ⟨g5, h⟩ := gdS h
      refine Go.t (Go_sg bk_Md_nextAsked 14 7 (c2 := (some 32, [some (.ref 166), some (.int v1), some (.int v2), some (.int v3)], [.int (1 : Int32), .int (σ.1 167 ((0 : Int32) + v3).toNatClampNeg)], σ)) (ps := [shk 166 = 11, IA 167 1936 ∧ inb ((0 : Int32) + v3) 1936 = true]) rfl ⟨rfl, ⟨⟨rfl, rfl⟩, g5⟩, trivial⟩) ?_
      refine Go_icmp_ne bk_Md_nextAsked 21 rfl (fun c15 => ?_) (fun c15 => ?_)
      · have h := ifF c15 h
        exact Go.t (Go.fg (LSub.cs (LSub.cs (LSub.cs (LSub.cs (LSub.nil)))))) (t_Md_nextAsked_b97 v1 v2 v3 σ h)
      · have h := ifT c15 h
        refine Go.t (Go_sg bk_Md_nextAsked 22 5 (c2 := (some 42, [some (.ref 166), some (.int v1), some (.int v2), some (.int v3)], [.int v3, .int (σ.1 190 v1.toNatClampNeg)], σ)) (ps := [shk 166 = 11, IA 190 12 ∧ inb v1 12 = true]) rfl ⟨rfl, ⟨⟨rfl, rfl⟩, g1⟩, trivial⟩) ?_
        obtain ⟨x6, q8, h⟩ := bdS h
        refine Go.t (Go_callS bk_Md_nextAsked 27 rfl nk_Md_has tw1367 tw1368 (as := [.int (σ.1 190 v1.toNatClampNeg), .int v3]) (S := []) rfl rfl rfl (Nat.le_of_ble_eq_true rfl) (Nat.le_of_ble_eq_true rfl) (ev_Md_has _ _ _ q8)) ?_
        refine Go_if_ne bk_Md_nextAsked 28 rfl (fun c14 => ?_) (fun c14 => ?_)
        · have h := ifF c14 h
          exact Go.t (Go.fg (LSub.cs (LSub.cs (LSub.cs (LSub.cs (LSub.nil)))))) (t_Md_nextAsked_b97 v1 v2 v3 σ h)
        · have h := ifT c14 h
          obtain ⟨g9, h⟩ := gdS h
          refine Go.t (Go_sg bk_Md_nextAsked 29 8 (c2 := (some 59, [some (.ref 166), some (.int v1), some (.int v2), some (.int v3)], [.int (σ.1 188 (((12 : Int32) * v1) + v3).toNatClampNeg)], σ)) (ps := [shk 166 = 11, IA 188 144 ∧ inb (((12 : Int32) * v1) + v3) 144 = true]) rfl ⟨rfl, ⟨⟨rfl, rfl⟩, g9⟩, trivial⟩) ?_
          refine Go_if_ne bk_Md_nextAsked 37 rfl (fun c13 => ?_) (fun c13 => ?_)
          · have h := ifF c13 h
            refine Go.t (Go_sg bk_Md_nextAsked 39 2 (c2 := (some 67, [some (.ref 166), some (.int v1), some (.int v2), some (.int v3)], [.int (-1 : Int32), .int v2], σ)) (ps := []) rfl trivial) ?_
            refine Go_icmp_eq bk_Md_nextAsked 41 rfl (fun c12 => ?_) (fun c12 => ?_)
            · have h := ifT c12 h
              exact Go.t (Go.fg (LSub.cs (LSub.cs (LSub.cn (LSub.cs (LSub.nil)))))) (t_Md_nextAsked_b95 v1 v3 σ h)
            · have h := ifF c12 h
              obtain ⟨g10, h⟩ := gdS h
              refine Go.t (Go_sg bk_Md_nextAsked 42 16 (c2 := (some 92, [some (.ref 166), some (.int v1), some (.int v2), some (.int v3)], [.int (σ.1 188 (((12 : Int32) * v1) + v2).toNatClampNeg), .int (σ.1 188 (((12 : Int32) * v1) + v3).toNatClampNeg)], σ)) (ps := [shk 166 = 11, IA 188 144 ∧ inb (((12 : Int32) * v1) + v3) 144 = true, shk 166 = 11, IA 188 144 ∧ inb (((12 : Int32) * v1) + v2) 144 = true]) rfl ⟨rfl, ⟨⟨rfl, rfl⟩, g9⟩, rfl, ⟨⟨rfl, rfl⟩, g10⟩, trivial⟩) ?_
              refine Go_icmp_le bk_Md_nextAsked 58 rfl (fun c11 => ?_) (fun c11 => ?_)
              · have h := ifT c11 h
                exact Go.t (Go.fg (LSub.cs (LSub.cs (LSub.cs (LSub.cs (LSub.nil)))))) (t_Md_nextAsked_b97 v1 v2 v3 σ h)
              · have h := ifF c11 h
                exact Go.t (Go.fg (LSub.cs (LSub.cs (LSub.cn (LSub.cs (LSub.nil)))))) (t_Md_nextAsked_b95 v1 v3 σ h)
          · have h := ifT c13 h
            refine Go.t (Go_sg bk_Md_nextAsked 38 1 (c2 := (some 97, [some (.ref 166), some (.int v1), some (.int v2), some (.int v3)], [], σ)) (ps := []) rfl trivial) ?_
            exact Go.t (Go.fg (LSub.cs (LSub.cs (LSub.cs (LSub.cs (LSub.nil)))))) (t_Md_nextAsked_b97 v1 v2 v3 σ h)
def Md_nextAsked_L4 (v1 : Int32) (σ : MH) (s : Int32 × Int32) : Option ((Int32)) := itr (fun s : Int32 × Int32 => Md_nextAsked_l4 v1 s.1 s.2 σ) FU s
set_option maxRecDepth 20000 in
set_option maxHeartbeats 2000000 in
theorem t_Md_nextAsked_L4 (v1 : Int32)  (σ : MH) (s : Int32 × Int32) {r} (h : Md_nextAsked_L4 v1 σ s = some r) : Go m_Md_nextAsked 2 (cH_Md_nextAsked_4 v1 σ s) (cR_Md_nextAsked_4 v1 σ r) := Go_itr (fun s o ho => t_Md_nextAsked_l4 v1 s.1 s.2 σ ho) FU s r h
def Md_nextAsked0 (v1 : Int32) (σ : MH) : Option (Int32) := (Md_nextAsked_L4 v1 σ ((-1 : Int32), (0 : Int32))).bind fun z18 => some (z18)
set_option maxRecDepth 20000 in
set_option maxHeartbeats 2000000 in
theorem t_Md_nextAsked0 (v1 : Int32)  (σ : MH) {o} (h : Md_nextAsked0 v1 σ = some o) : Go m_Md_nextAsked 2 (some 0, [some (.ref 166), some (.int v1), none, none], [], σ) ((none, [], [.int o], σ)) := by
  unfold Md_nextAsked0 at h
  refine Go.t (Go_sg bk_Md_nextAsked 0 4 (c2 := (some 4, [some (.ref 166), some (.int v1), some (.int (-1 : Int32)), some (.int (0 : Int32))], [], σ)) (ps := []) rfl trivial) ?_
  obtain ⟨z18, q19, h⟩ := bdS h
  refine Go.t (Go.t (Go.fg (LSub.cs (LSub.cs (LSub.cs (LSub.cs (LSub.nil)))))) (t_Md_nextAsked_L4 v1 σ _ q19)) ?_
  have h := Option.some.inj h
  subst h
  exact Go.rf
def Md_nextAsked (v1 : Int32) (σ : MH) : Option (Int32) := Md_nextAsked0 v1 σ
set_option maxRecDepth 20000 in
set_option maxHeartbeats 2000000 in
theorem ev_Md_nextAsked (v1 : Int32)  (σ : MH) {o} (h : Md_nextAsked v1 σ = some o) : Ev m_Md_nextAsked 2 [.ref 166, .int v1] σ (some (.int o)) σ := Ev.of2 (by decide +kernel) rfl (Nat.le_of_ble_eq_true rfl) ⟨.int, rfl, rfl⟩ (t_Md_nextAsked0 v1 σ h)
def Md_keeps_b71  (σ : MH) : Option (Int32) := some ((1 : Int32))
set_option maxRecDepth 20000 in
set_option maxHeartbeats 2000000 in
theorem t_Md_keeps_b71    (σ : MH) {o} (h : Md_keeps_b71 σ = some o) : Go m_Md_keeps 1 (some 71, [none, none, none, none, none], [], σ) ((none, [], [.int o], σ)) := by
  unfold Md_keeps_b71 at h
  refine Go.t (Go_sg bk_Md_keeps 44 2 (c2 := (some 76, [none, none, none, none, none], [.int (1 : Int32)], σ)) (ps := []) rfl trivial) ?_
  have h := Option.some.inj h
  subst h
  exact Go_reti bk_Md_keeps 47 rfl
def Md_keeps0 (v1 : Int32) (v2 : Int32) (σ : MH) : Option (Int32) := if inb (((12 : Int32) * v1) + v2) 144 = true then if σ.1 188 (((12 : Int32) * v1) + v2).toNatClampNeg = (0 : Int32) then some ((0 : Int32)) else (if inb v1 12 = true then if σ.1 191 v1.toNatClampNeg = (-2 : Int32) then (Md_keeps_b71 σ) else (if inb (((12 : Int32) * v1) + (σ.1 191 v1.toNatClampNeg)) 144 = true then if σ.1 188 (((12 : Int32) * v1) + (σ.1 191 v1.toNatClampNeg)).toNatClampNeg < σ.1 188 (((12 : Int32) * v1) + v2).toNatClampNeg then (Md_keeps_b71 σ) else (if σ.1 188 (((12 : Int32) * v1) + v2).toNatClampNeg = σ.1 188 (((12 : Int32) * v1) + (σ.1 191 v1.toNatClampNeg)).toNatClampNeg then (if σ.1 191 v1.toNatClampNeg ≤ v2 then some ((0 : Int32)) else (Md_keeps_b71 σ)) else some ((0 : Int32))) else none) else none) else none
set_option maxRecDepth 20000 in
set_option maxHeartbeats 2000000 in
theorem t_Md_keeps0 (v1 : Int32) (v2 : Int32)  (σ : MH) {o} (h : Md_keeps0 v1 v2 σ = some o) : Go m_Md_keeps 1 (some 0, [some (.ref 166), some (.int v1), some (.int v2), none, none], [], σ) ((none, [], [.int o], σ)) := by
  unfold Md_keeps0 at h
  obtain ⟨g1, h⟩ := gdS h
  refine Go.t (Go_sg bk_Md_keeps 0 10 (c2 := (some 13, [some (.ref 166), some (.int v1), some (.int v2), some (.int (σ.1 188 (((12 : Int32) * v1) + v2).toNatClampNeg)), none], [.int (σ.1 188 (((12 : Int32) * v1) + v2).toNatClampNeg)], σ)) (ps := [shk 166 = 11, IA 188 144 ∧ inb (((12 : Int32) * v1) + v2) 144 = true]) rfl ⟨rfl, ⟨⟨rfl, rfl⟩, g1⟩, trivial⟩) ?_
  refine Go_if_ne bk_Md_keeps 10 rfl (fun c8 => ?_) (fun c8 => ?_)
  · have h := ifF c8 h
    obtain ⟨g2, h⟩ := gdS h
    refine Go.t (Go_sg bk_Md_keeps 13 7 (c2 := (some 30, [some (.ref 166), some (.int v1), some (.int v2), some (.int (σ.1 188 (((12 : Int32) * v1) + v2).toNatClampNeg)), some (.int (σ.1 191 v1.toNatClampNeg))], [.int (-2 : Int32), .int (σ.1 191 v1.toNatClampNeg)], σ)) (ps := [shk 166 = 11, IA 191 12 ∧ inb v1 12 = true]) rfl ⟨rfl, ⟨⟨rfl, rfl⟩, g2⟩, trivial⟩) ?_
    refine Go_icmp_eq bk_Md_keeps 20 rfl (fun c7 => ?_) (fun c7 => ?_)
    · have h := ifT c7 h
      exact Go.t (Go.fg (LSub.cn (LSub.cn (LSub.cn (LSub.cn (LSub.cn (LSub.nil))))))) (t_Md_keeps_b71 σ h)
    · have h := ifF c7 h
      obtain ⟨g3, h⟩ := gdS h
      refine Go.t (Go_sg bk_Md_keeps 21 9 (c2 := (some 46, [some (.ref 166), some (.int v1), some (.int v2), some (.int (σ.1 188 (((12 : Int32) * v1) + v2).toNatClampNeg)), some (.int (σ.1 191 v1.toNatClampNeg))], [.int (σ.1 188 (((12 : Int32) * v1) + (σ.1 191 v1.toNatClampNeg)).toNatClampNeg), .int (σ.1 188 (((12 : Int32) * v1) + v2).toNatClampNeg)], σ)) (ps := [shk 166 = 11, IA 188 144 ∧ inb (((12 : Int32) * v1) + (σ.1 191 v1.toNatClampNeg)) 144 = true]) rfl ⟨rfl, ⟨⟨rfl, rfl⟩, g3⟩, trivial⟩) ?_
      refine Go_icmp_gt bk_Md_keeps 30 rfl (fun c6 => ?_) (fun c6 => ?_)
      · have h := ifT c6 h
        exact Go.t (Go.fg (LSub.cn (LSub.cn (LSub.cn (LSub.cn (LSub.cn (LSub.nil))))))) (t_Md_keeps_b71 σ h)
      · have h := ifF c6 h
        refine Go.t (Go_sg bk_Md_keeps 31 9 (c2 := (some 62, [some (.ref 166), some (.int v1), some (.int v2), some (.int (σ.1 188 (((12 : Int32) * v1) + v2).toNatClampNeg)), some (.int (σ.1 191 v1.toNatClampNeg))], [.int (σ.1 188 (((12 : Int32) * v1) + (σ.1 191 v1.toNatClampNeg)).toNatClampNeg), .int (σ.1 188 (((12 : Int32) * v1) + v2).toNatClampNeg)], σ)) (ps := [shk 166 = 11, IA 188 144 ∧ inb (((12 : Int32) * v1) + (σ.1 191 v1.toNatClampNeg)) 144 = true]) rfl ⟨rfl, ⟨⟨rfl, rfl⟩, g3⟩, trivial⟩) ?_
        refine Go_icmp_ne bk_Md_keeps 40 rfl (fun c5 => ?_) (fun c5 => ?_)
        · have h := ifF c5 h
          have h := Option.some.inj h
          subst h
          refine Go.t (Go_sg bk_Md_keeps 46 1 (c2 := (some 76, [some (.ref 166), some (.int v1), some (.int v2), some (.int (σ.1 188 (((12 : Int32) * v1) + v2).toNatClampNeg)), some (.int (σ.1 191 v1.toNatClampNeg))], [.int (0 : Int32)], σ)) (ps := []) rfl trivial) ?_
          exact Go_reti bk_Md_keeps 47 rfl
        · have h := ifT c5 h
          refine Go.t (Go_sg bk_Md_keeps 41 2 (c2 := (some 68, [some (.ref 166), some (.int v1), some (.int v2), some (.int (σ.1 188 (((12 : Int32) * v1) + v2).toNatClampNeg)), some (.int (σ.1 191 v1.toNatClampNeg))], [.int (σ.1 191 v1.toNatClampNeg), .int v2], σ)) (ps := []) rfl trivial) ?_
          refine Go_icmp_ge bk_Md_keeps 43 rfl (fun c4 => ?_) (fun c4 => ?_)
          · have h := ifT c4 h
            have h := Option.some.inj h
            subst h
            refine Go.t (Go_sg bk_Md_keeps 46 1 (c2 := (some 76, [some (.ref 166), some (.int v1), some (.int v2), some (.int (σ.1 188 (((12 : Int32) * v1) + v2).toNatClampNeg)), some (.int (σ.1 191 v1.toNatClampNeg))], [.int (0 : Int32)], σ)) (ps := []) rfl trivial) ?_
            exact Go_reti bk_Md_keeps 47 rfl
          · have h := ifF c4 h
            exact Go.t (Go.fg (LSub.cn (LSub.cn (LSub.cn (LSub.cn (LSub.cn (LSub.nil))))))) (t_Md_keeps_b71 σ h)
  · have h := ifT c8 h
    have h := Option.some.inj h
    subst h
    refine Go.t (Go_sg bk_Md_keeps 11 1 (c2 := (some 17, [some (.ref 166), some (.int v1), some (.int v2), some (.int (σ.1 188 (((12 : Int32) * v1) + v2).toNatClampNeg)), none], [.int (0 : Int32)], σ)) (ps := []) rfl trivial) ?_
    exact Go_reti bk_Md_keeps 12 rfl
def Md_keeps (v1 : Int32) (v2 : Int32) (σ : MH) : Option (Int32) := bzp (Md_keeps0 v1 v2 σ)
set_option maxRecDepth 20000 in
set_option maxHeartbeats 2000000 in
theorem ev_Md_keeps (v1 : Int32) (v2 : Int32)  (σ : MH) {o} (h : Md_keeps v1 v2 σ = some o) : Ev m_Md_keeps 1 [.ref 166, .int v1, .int v2] σ (some (.int o)) σ := Ev.of2 (by decide +kernel) rfl (Nat.le_of_ble_eq_true rfl) ⟨.boolean, rfl, nrB (bzp2 h)⟩ (t_Md_keeps0 v1 v2 σ (bzp1 h))
def cH_Md_laysStable_2  (s : Int32 × MH) : MC := (some 2, [some (.ref 166), some (.int s.1), none, none], [], s.2)
def cR_Md_laysStable_2  : ((MH)) → MC := (fun r : MH => ((some 29, [some (.ref 166), none, none, none], [], r) : MC))
def Md_laysStable_l2 (v1 : Int32) (σ : MH) : Option (((Int32 × MH) ⊕ ((MH)))) := if (12 : Int32) ≤ v1 then some (.inr (σ)) else (if inb v1 12 = true then some (.inl (v1 + (1 : Int32), sI (sI σ 190 v1.toNatClampNeg (0 : Int32)) 191 v1.toNatClampNeg (-2 : Int32))) else none)
set_option maxRecDepth 20000 in
set_option maxHeartbeats 2000000 in
theorem t_Md_laysStable_l2 (v1 : Int32)  (σ : MH) {o} (h : Md_laysStable_l2 v1 σ = some o) : Go m_Md_laysStable 5 (cH_Md_laysStable_2  (v1, σ)) (cS (cH_Md_laysStable_2 ) (cR_Md_laysStable_2 ) o) := by
  unfold Md_laysStable_l2 at h
  unfold cH_Md_laysStable_2
  refine Go.t (Go_sg bk_Md_laysStable 2 2 (c2 := (some 5, [some (.ref 166), some (.int v1), none, none], [.int (12 : Int32), .int v1], σ)) (ps := []) rfl trivial) ?_
  refine Go_icmp_ge bk_Md_laysStable 4 rfl (fun c2 => ?_) (fun c2 => ?_)
  · have h := ifT c2 h
    have h := Option.some.inj h
    subst h
    exact Go.fg (LSub.cs (LSub.cn (LSub.cn (LSub.cn (LSub.nil)))))
  · have h := ifF c2 h
    obtain ⟨g1, h⟩ := gdS h
    refine Go.t (Go_sg bk_Md_laysStable 5 12 (c2 := (some 2, [some (.ref 166), some (.int (v1 + (1 : Int32))), none, none], [], sI (sI σ 190 v1.toNatClampNeg (0 : Int32)) 191 v1.toNatClampNeg (-2 : Int32))) (ps := [shk 166 = 11, IA 190 12 ∧ inb v1 12 = true, shk 166 = 11, IA 191 12 ∧ inb v1 12 = true]) rfl ⟨rfl, ⟨⟨rfl, rfl⟩, g1⟩, rfl, ⟨⟨rfl, rfl⟩, g1⟩, trivial⟩) ?_
    have h := Option.some.inj h
    subst h
    exact Go.fg (LSub.cs (LSub.cs (LSub.cn (LSub.cn (LSub.nil)))))
def Md_laysStable_L2  (s : Int32 × MH) : Option ((MH)) := itr (fun s : Int32 × MH => Md_laysStable_l2 s.1 s.2) FU s
set_option maxRecDepth 20000 in
set_option maxHeartbeats 2000000 in
theorem t_Md_laysStable_L2   (s : Int32 × MH) {r} (h : Md_laysStable_L2  s = some r) : Go m_Md_laysStable 5 (cH_Md_laysStable_2  s) (cR_Md_laysStable_2  r) := Go_itr (fun s o ho => t_Md_laysStable_l2 s.1 s.2 ho) FU s r h
def cH_Md_laysStable_31  (s : Int32 × MH) : MC := (some 31, [some (.ref 166), some (.int s.1), none, none], [], s.2)
def cR_Md_laysStable_31  : ((MH)) → MC := (fun r : MH => ((none, [], [], r) : MC))
def cH_Md_laysStable_39  (s : Int32 × Int32 × MH) : MC := (some 39, [some (.ref 166), some (.int s.1), some (.int s.2.1), none], [], s.2.2)
def cR_Md_laysStable_39  : ((Int32 × MH)) → MC := (fun r : Int32 × MH => ((some 156, [some (.ref 166), some (.int r.1), none, none], [], r.2) : MC))
def Md_laysStable_b150 (v1 : Int32) (v2 : Int32) (σ : MH) : Option (((Int32 × Int32 × MH) ⊕ ((Int32 × MH)))) := some (.inl (v1, v2 + (1 : Int32), σ))
set_option maxRecDepth 20000 in
set_option maxHeartbeats 2000000 in
theorem t_Md_laysStable_b150 (v1 : Int32) (v2 : Int32)   (σ : MH) {o} (h : Md_laysStable_b150 v1 v2 σ = some o) : Go m_Md_laysStable 5 (some 150, [some (.ref 166), some (.int v1), some (.int v2), none], [], σ) (cS (cH_Md_laysStable_39 ) (cR_Md_laysStable_39 ) o) := by
  unfold Md_laysStable_b150 at h
  refine Go.t (Go_sg bk_Md_laysStable 92 2 (c2 := (some 39, [some (.ref 166), some (.int v1), some (.int (v2 + (1 : Int32))), none], [], σ)) (ps := []) rfl trivial) ?_
  have h := Option.some.inj h
  subst h
  exact Go.fg (LSub.cs (LSub.cs (LSub.cs (LSub.cn (LSub.nil)))))
def Md_laysStable_b136 (v2 : Int32) (v3 : Int32) (σ : MH) : Option (((Int32 × Int32 × MH) ⊕ ((Int32 × MH)))) := if inb v2 12 = true then if inb v3 12 = true then Md_laysStable_b150 (1 : Int32) v2 (sI (sI σ 191 v2.toNatClampNeg v3) 191 v3.toNatClampNeg v2) else none else none
set_option maxRecDepth 20000 in
set_option maxHeartbeats 2000000 in
theorem t_Md_laysStable_b136 (v2 : Int32) (v3 : Int32)   (σ : MH) {o} (h : Md_laysStable_b136 v2 v3 σ = some o) : Go m_Md_laysStable 5 (some 136, [some (.ref 166), some (.int (1 : Int32)), some (.int v2), some (.int v3)], [], σ) (cS (cH_Md_laysStable_39 ) (cR_Md_laysStable_39 ) o) := by
  unfold Md_laysStable_b136 at h
  obtain ⟨g16, h⟩ := gdS h
  obtain ⟨g17, h⟩ := gdS h
  refine Go.t (Go_sg bk_Md_laysStable 82 10 (c2 := (some 150, [some (.ref 166), some (.int (1 : Int32)), some (.int v2), some (.int v3)], [], sI (sI σ 191 v2.toNatClampNeg v3) 191 v3.toNatClampNeg v2)) (ps := [shk 166 = 11, IA 191 12 ∧ inb v2 12 = true, shk 166 = 11, IA 191 12 ∧ inb v3 12 = true]) rfl ⟨rfl, ⟨⟨rfl, rfl⟩, g16⟩, rfl, ⟨⟨rfl, rfl⟩, g17⟩, trivial⟩) ?_
  exact Go.t (Go.fg (LSub.cs (LSub.cs (LSub.cs (LSub.cn (LSub.nil)))))) (t_Md_laysStable_b150 (1 : Int32) v2 (sI (sI σ 191 v2.toNatClampNeg v3) 191 v3.toNatClampNeg v2) h)
def Md_laysStable_l39 (v1 : Int32) (v2 : Int32) (σ : MH) : Option (((Int32 × Int32 × MH) ⊕ ((Int32 × MH)))) := if (12 : Int32) ≤ v2 then some (.inr (v1, σ)) else ((Md_isOne v2 (0 : Int32) σ).bind fun x5 => if x5 = (0 : Int32) then (Md_laysStable_b150 v1 v2 σ) else (if inb v2 12 = true then if σ.1 191 v2.toNatClampNeg = (-2 : Int32) then ((Md_nextAsked v2 σ).bind fun x9 => if x9 = (-1 : Int32) then (Md_laysStable_b150 v1 v2 σ) else ((Md_keeps x9 v2 (sI σ 190 v2.toNatClampNeg ((σ.1 190 v2.toNatClampNeg) ||| (jshl (1 : Int32) x9)))).bind fun x12 => if x12 = (0 : Int32) then (Md_laysStable_b150 (1 : Int32) v2 (sI σ 190 v2.toNatClampNeg ((σ.1 190 v2.toNatClampNeg) ||| (jshl (1 : Int32) x9)))) else (if inb x9 12 = true then if (sI σ 190 v2.toNatClampNeg ((σ.1 190 v2.toNatClampNeg) ||| (jshl (1 : Int32) x9))).1 191 x9.toNatClampNeg = (-2 : Int32) then Md_laysStable_b136 v2 x9 (sI σ 190 v2.toNatClampNeg ((σ.1 190 v2.toNatClampNeg) ||| (jshl (1 : Int32) x9))) else (if inb ((sI σ 190 v2.toNatClampNeg ((σ.1 190 v2.toNatClampNeg) ||| (jshl (1 : Int32) x9))).1 191 x9.toNatClampNeg) 12 = true then Md_laysStable_b136 v2 x9 (sI (sI σ 190 v2.toNatClampNeg ((σ.1 190 v2.toNatClampNeg) ||| (jshl (1 : Int32) x9))) 191 ((sI σ 190 v2.toNatClampNeg ((σ.1 190 v2.toNatClampNeg) ||| (jshl (1 : Int32) x9))).1 191 x9.toNatClampNeg).toNatClampNeg (-2 : Int32)) else none) else none))) else (Md_laysStable_b150 v1 v2 σ) else none))
set_option maxRecDepth 20000 in
set_option maxHeartbeats 2000000 in
theorem t_Md_laysStable_l39 (v1 : Int32) (v2 : Int32)  (σ : MH) {o} (h : Md_laysStable_l39 v1 v2 σ = some o) : Go m_Md_laysStable 5 (cH_Md_laysStable_39  (v1, v2, σ)) (cS (cH_Md_laysStable_39 ) (cR_Md_laysStable_39 ) o) := by
  unfold Md_laysStable_l39 at h
  unfold cH_Md_laysStable_39
  refine Go.t (Go_sg bk_Md_laysStable 25 2 (c2 := (some 42, [some (.ref 166), some (.int v1), some (.int v2), none], [.int (12 : Int32), .int v2], σ)) (ps := []) rfl trivial) ?_
  refine Go_icmp_ge bk_Md_laysStable 27 rfl (fun c24 => ?_) (fun c24 => ?_)
  · have h := ifT c24 h
    have h := Option.some.inj h
    subst h
    exact Go.fg (LSub.cs (LSub.cs (LSub.cn (LSub.cn (LSub.nil)))))
  · have h := ifF c24 h
    refine Go.t (Go_sg bk_Md_laysStable 28 3 (c2 := (some 48, [some (.ref 166), some (.int v1), some (.int v2), none], [.int (0 : Int32), .int v2, .ref 166], σ)) (ps := []) rfl trivial) ?_
    obtain ⟨x5, q7, h⟩ := bdS h
    refine Go.t (Go_callV bk_Md_laysStable 31 rfl nk_Md_isOne tw1639 tw1641 tw90 (ci := 11) rfl (as := [.int v2, .int (0 : Int32)]) (S := []) rfl rfl rfl rfl (Nat.le_of_ble_eq_true rfl) (Nat.le_of_ble_eq_true rfl) (ev_Md_isOne _ _ _ q7)) ?_
    refine Go_if_eq bk_Md_laysStable 32 rfl (fun c23 => ?_) (fun c23 => ?_)
    · have h := ifT c23 h
      exact Go.t (Go.fg (LSub.cs (LSub.cs (LSub.cs (LSub.cn (LSub.nil)))))) (t_Md_laysStable_b150 v1 v2 σ h)
    · have h := ifF c23 h
      obtain ⟨g8, h⟩ := gdS h
      refine Go.t (Go_sg bk_Md_laysStable 33 5 (c2 := (some 62, [some (.ref 166), some (.int v1), some (.int v2), none], [.int (-2 : Int32), .int (σ.1 191 v2.toNatClampNeg)], σ)) (ps := [shk 166 = 11, IA 191 12 ∧ inb v2 12 = true]) rfl ⟨rfl, ⟨⟨rfl, rfl⟩, g8⟩, trivial⟩) ?_
      refine Go_icmp_eq bk_Md_laysStable 38 rfl (fun c22 => ?_) (fun c22 => ?_)
      · have h := ifT c22 h
        refine Go.t (Go_sg bk_Md_laysStable 40 2 (c2 := (some 70, [some (.ref 166), some (.int v1), some (.int v2), none], [.int v2, .ref 166], σ)) (ps := []) rfl trivial) ?_
        obtain ⟨x9, q11, h⟩ := bdS h
        refine Go.t (Go_callV bk_Md_laysStable 42 rfl nk_Md_nextAsked tw1664 tw1666 tw95 (ci := 11) rfl (as := [.int v2]) (S := []) rfl rfl rfl rfl (Nat.le_of_ble_eq_true rfl) (Nat.le_of_ble_eq_true rfl) (ev_Md_nextAsked _ _ q11)) ?_
        refine Go.t (Go_sg bk_Md_laysStable 43 3 (c2 := (some 76, [some (.ref 166), some (.int v1), some (.int v2), some (.int x9)], [.int (-1 : Int32), .int x9], σ)) (ps := []) rfl trivial) ?_
        refine Go_icmp_ne bk_Md_laysStable 46 rfl (fun c21 => ?_) (fun c21 => ?_)
        · have h := ifF c21 h
          refine Go.t (Go_sg bk_Md_laysStable 48 17 (c2 := (some 103, [some (.ref 166), some (.int (1 : Int32)), some (.int v2), some (.int x9)], [.int v2, .int x9, .ref 166], sI σ 190 v2.toNatClampNeg ((σ.1 190 v2.toNatClampNeg) ||| (jshl (1 : Int32) x9)))) (ps := [shk 166 = 11, shk 166 = 11, IA 190 12 ∧ inb v2 12 = true, IA 190 12 ∧ inb v2 12 = true]) rfl ⟨rfl, rfl, ⟨⟨rfl, rfl⟩, g8⟩, ⟨⟨rfl, rfl⟩, g8⟩, trivial⟩) ?_
          obtain ⟨x12, q14, h⟩ := bdS h
          refine Go.t (Go_callV bk_Md_laysStable 65 rfl nk_Md_keeps tw1668 tw1670 tw96 (ci := 11) rfl (as := [.int x9, .int v2]) (S := []) rfl rfl rfl rfl (Nat.le_of_ble_eq_true rfl) (Nat.le_of_ble_eq_true rfl) (ev_Md_keeps _ _ _ q14)) ?_
          refine Go_if_ne bk_Md_laysStable 66 rfl (fun c20 => ?_) (fun c20 => ?_)
          · have h := ifF c20 h
            obtain ⟨g15, h⟩ := gdS h
            refine Go.t (Go_sg bk_Md_laysStable 68 5 (c2 := (some 120, [some (.ref 166), some (.int (1 : Int32)), some (.int v2), some (.int x9)], [.int (-2 : Int32), .int ((sI σ 190 v2.toNatClampNeg ((σ.1 190 v2.toNatClampNeg) ||| (jshl (1 : Int32) x9))).1 191 x9.toNatClampNeg)], sI σ 190 v2.toNatClampNeg ((σ.1 190 v2.toNatClampNeg) ||| (jshl (1 : Int32) x9)))) (ps := [shk 166 = 11, IA 191 12 ∧ inb x9 12 = true]) rfl ⟨rfl, ⟨⟨rfl, rfl⟩, g15⟩, trivial⟩) ?_
            refine Go_icmp_eq bk_Md_laysStable 73 rfl (fun c19 => ?_) (fun c19 => ?_)
            · have h := ifT c19 h
              exact Go.t (Go.fg (LSub.cs (LSub.cs (LSub.cs (LSub.cs (LSub.nil)))))) (t_Md_laysStable_b136 v2 x9 (sI σ 190 v2.toNatClampNeg ((σ.1 190 v2.toNatClampNeg) ||| (jshl (1 : Int32) x9))) h)
            · have h := ifF c19 h
              obtain ⟨g18, h⟩ := gdS h
              refine Go.t (Go_sg bk_Md_laysStable 74 8 (c2 := (some 136, [some (.ref 166), some (.int (1 : Int32)), some (.int v2), some (.int x9)], [], sI (sI σ 190 v2.toNatClampNeg ((σ.1 190 v2.toNatClampNeg) ||| (jshl (1 : Int32) x9))) 191 ((sI σ 190 v2.toNatClampNeg ((σ.1 190 v2.toNatClampNeg) ||| (jshl (1 : Int32) x9))).1 191 x9.toNatClampNeg).toNatClampNeg (-2 : Int32))) (ps := [shk 166 = 11, shk 166 = 11, IA 191 12 ∧ inb x9 12 = true, IA 191 12 ∧ inb ((sI σ 190 v2.toNatClampNeg ((σ.1 190 v2.toNatClampNeg) ||| (jshl (1 : Int32) x9))).1 191 x9.toNatClampNeg) 12 = true]) rfl ⟨rfl, rfl, ⟨⟨rfl, rfl⟩, g15⟩, ⟨⟨rfl, rfl⟩, g18⟩, trivial⟩) ?_
              exact Go.t (Go.fg (LSub.cs (LSub.cs (LSub.cs (LSub.cs (LSub.nil)))))) (t_Md_laysStable_b136 v2 x9 (sI (sI σ 190 v2.toNatClampNeg ((σ.1 190 v2.toNatClampNeg) ||| (jshl (1 : Int32) x9))) 191 ((sI σ 190 v2.toNatClampNeg ((σ.1 190 v2.toNatClampNeg) ||| (jshl (1 : Int32) x9))).1 191 x9.toNatClampNeg).toNatClampNeg (-2 : Int32)) h)
          · have h := ifT c20 h
            refine Go.t (Go_sg bk_Md_laysStable 67 1 (c2 := (some 150, [some (.ref 166), some (.int (1 : Int32)), some (.int v2), some (.int x9)], [], sI σ 190 v2.toNatClampNeg ((σ.1 190 v2.toNatClampNeg) ||| (jshl (1 : Int32) x9)))) (ps := []) rfl trivial) ?_
            exact Go.t (Go.fg (LSub.cs (LSub.cs (LSub.cs (LSub.cn (LSub.nil)))))) (t_Md_laysStable_b150 (1 : Int32) v2 (sI σ 190 v2.toNatClampNeg ((σ.1 190 v2.toNatClampNeg) ||| (jshl (1 : Int32) x9))) h)
        · have h := ifT c21 h
          refine Go.t (Go_sg bk_Md_laysStable 47 1 (c2 := (some 150, [some (.ref 166), some (.int v1), some (.int v2), some (.int x9)], [], σ)) (ps := []) rfl trivial) ?_
          exact Go.t (Go.fg (LSub.cs (LSub.cs (LSub.cs (LSub.cn (LSub.nil)))))) (t_Md_laysStable_b150 v1 v2 σ h)
      · have h := ifF c22 h
        refine Go.t (Go_sg bk_Md_laysStable 39 1 (c2 := (some 150, [some (.ref 166), some (.int v1), some (.int v2), none], [], σ)) (ps := []) rfl trivial) ?_
        exact Go.t (Go.fg (LSub.cs (LSub.cs (LSub.cs (LSub.cn (LSub.nil)))))) (t_Md_laysStable_b150 v1 v2 σ h)
def Md_laysStable_L39  (s : Int32 × Int32 × MH) : Option ((Int32 × MH)) := itr (fun s : Int32 × Int32 × MH => Md_laysStable_l39 s.1 s.2.1 s.2.2) FU s
set_option maxRecDepth 20000 in
set_option maxHeartbeats 2000000 in
theorem t_Md_laysStable_L39   (s : Int32 × Int32 × MH) {r} (h : Md_laysStable_L39  s = some r) : Go m_Md_laysStable 5 (cH_Md_laysStable_39  s) (cR_Md_laysStable_39  r) := Go_itr (fun s o ho => t_Md_laysStable_l39 s.1 s.2.1 s.2.2 ho) FU s r h
def Md_laysStable_l31 (v1 : Int32) (σ : MH) : Option (((Int32 × MH) ⊕ ((MH)))) := if v1 = (0 : Int32) then some (.inr (σ)) else ((Md_laysStable_L39 ((0 : Int32), (0 : Int32), σ)).bind fun z25 => some (.inl (z25.1, z25.2)))
set_option maxRecDepth 20000 in
set_option maxHeartbeats 2000000 in
theorem t_Md_laysStable_l31 (v1 : Int32)  (σ : MH) {o} (h : Md_laysStable_l31 v1 σ = some o) : Go m_Md_laysStable 5 (cH_Md_laysStable_31  (v1, σ)) (cS (cH_Md_laysStable_31 ) (cR_Md_laysStable_31 ) o) := by
  unfold Md_laysStable_l31 at h
  unfold cH_Md_laysStable_31
  refine Go.t (Go_sg bk_Md_laysStable 19 1 (c2 := (some 32, [some (.ref 166), some (.int v1), none, none], [.int v1], σ)) (ps := []) rfl trivial) ?_
  refine Go_if_eq bk_Md_laysStable 20 rfl (fun c27 => ?_) (fun c27 => ?_)
  · have h := ifT c27 h
    have h := Option.some.inj h
    subst h
    exact Go_ret0 bk_Md_laysStable 95 rfl
  · have h := ifF c27 h
    refine Go.t (Go_sg bk_Md_laysStable 21 4 (c2 := (some 39, [some (.ref 166), some (.int (0 : Int32)), some (.int (0 : Int32)), none], [], σ)) (ps := []) rfl trivial) ?_
    obtain ⟨z25, q26, h⟩ := bdS h
    refine Go.t (Go.t (Go.fg (LSub.cs (LSub.cs (LSub.cs (LSub.cn (LSub.nil)))))) (t_Md_laysStable_L39 _ q26)) ?_
    refine Go.t (Go_sg bk_Md_laysStable 94 1 (c2 := (some 31, [some (.ref 166), some (.int z25.1), none, none], [], z25.2)) (ps := []) rfl trivial) ?_
    have h := Option.some.inj h
    subst h
    exact Go.fg (LSub.cs (LSub.cs (LSub.cn (LSub.cn (LSub.nil)))))
def Md_laysStable_L31  (s : Int32 × MH) : Option ((MH)) := itr (fun s : Int32 × MH => Md_laysStable_l31 s.1 s.2) FU s
set_option maxRecDepth 20000 in
set_option maxHeartbeats 2000000 in
theorem t_Md_laysStable_L31   (s : Int32 × MH) {r} (h : Md_laysStable_L31  s = some r) : Go m_Md_laysStable 5 (cH_Md_laysStable_31  s) (cR_Md_laysStable_31  r) := Go_itr (fun s o ho => t_Md_laysStable_l31 s.1 s.2 ho) FU s r h
def Md_laysStable0  (σ : MH) : Option (MH) := (Md_laysStable_L2 ((0 : Int32), σ)).bind fun z3 => (Md_laysStable_L31 ((1 : Int32), z3)).bind fun z28 => some (z28)
set_option maxRecDepth 20000 in
set_option maxHeartbeats 2000000 in
theorem t_Md_laysStable0   (σ : MH) {o} (h : Md_laysStable0 σ = some o) : Go m_Md_laysStable 5 (some 0, [some (.ref 166), none, none, none], [], σ) ((none, [], [], o)) := by
  unfold Md_laysStable0 at h
  refine Go.t (Go_sg bk_Md_laysStable 0 2 (c2 := (some 2, [some (.ref 166), some (.int (0 : Int32)), none, none], [], σ)) (ps := []) rfl trivial) ?_
  obtain ⟨z3, q4, h⟩ := bdS h
  refine Go.t (Go.t (Go.fg (LSub.cs (LSub.cs (LSub.cn (LSub.cn (LSub.nil)))))) (t_Md_laysStable_L2 _ q4)) ?_
  refine Go.t (Go_sg bk_Md_laysStable 17 2 (c2 := (some 31, [some (.ref 166), some (.int (1 : Int32)), none, none], [], z3)) (ps := []) rfl trivial) ?_
  obtain ⟨z28, q29, h⟩ := bdS h
  refine Go.t (Go.t (Go.fg (LSub.cs (LSub.cs (LSub.cn (LSub.cn (LSub.nil)))))) (t_Md_laysStable_L31 _ q29)) ?_
  have h := Option.some.inj h
  subst h
  exact Go.rf
def Md_laysStable  (σ : MH) : Option (MH) := Md_laysStable0 σ
set_option maxRecDepth 20000 in
set_option maxHeartbeats 2000000 in
theorem ev_Md_laysStable   (σ : MH) {o} (h : Md_laysStable σ = some o) : Ev m_Md_laysStable 5 [.ref 166] σ none o := Ev.of2 (by decide +kernel) rfl (Nat.le_of_ble_eq_true rfl) rfl (t_Md_laysStable0 σ h)
def cH_Md_stable_41  (σ : MH) (s : Int32 × Int32) : MC := (some 41, [some (.ref 166), none, some (.int s.1), some (.int s.2)], [], σ)
def cR_Md_stable_41  (σ : MH) : ((Int32)) → MC := (fun r : Int32 => ((none, [], [.int r], σ) : MC))
def Md_stable_b63 (v3 : Int32) (s0 : Int32) (s1 : Int32) (σ : MH) : Option (((Int32 × Int32) ⊕ ((Int32)))) := some (.inl (s1 + s0, v3 + (1 : Int32)))
set_option maxRecDepth 20000 in
set_option maxHeartbeats 2000000 in
theorem t_Md_stable_b63 (v3 : Int32) (s0 : Int32) (s1 : Int32)   (σ : MH) {o} (h : Md_stable_b63 v3 s0 s1 σ = some o) : Go m_Md_stable 8 (some 63, [some (.ref 166), none, none, some (.int v3)], [.int s0, .int s1], σ) (cS (cH_Md_stable_41  σ) (cR_Md_stable_41  σ) o) := by
  unfold Md_stable_b63 at h
  refine Go.t (Go_sg bk_Md_stable 38 4 (c2 := (some 41, [some (.ref 166), none, some (.int (s1 + s0)), some (.int (v3 + (1 : Int32)))], [], σ)) (ps := []) rfl trivial) ?_
  have h := Option.some.inj h
  subst h
  exact Go.fg (LSub.cs (LSub.cn (LSub.cs (LSub.cs (LSub.nil)))))
def Md_stable_l41 (v2 : Int32) (v3 : Int32) (σ : MH) : Option (((Int32 × Int32) ⊕ ((Int32)))) := if (12 : Int32) ≤ v3 then some (.inr (v2)) else (if inb v3 12 = true then if σ.1 191 v3.toNatClampNeg ≤ v3 then (Md_stable_b63 v3 (0 : Int32) v2 σ) else (Md_stable_b63 v3 (1 : Int32) v2 σ) else none)
set_option maxRecDepth 20000 in
set_option maxHeartbeats 2000000 in
theorem t_Md_stable_l41 (v2 : Int32) (v3 : Int32)  (σ : MH) {o} (h : Md_stable_l41 v2 v3 σ = some o) : Go m_Md_stable 8 (cH_Md_stable_41 σ (v2, v3)) (cS (cH_Md_stable_41  σ) (cR_Md_stable_41  σ) o) := by
  unfold Md_stable_l41 at h
  unfold cH_Md_stable_41
  refine Go.t (Go_sg bk_Md_stable 25 2 (c2 := (some 44, [some (.ref 166), none, some (.int v2), some (.int v3)], [.int (12 : Int32), .int v3], σ)) (ps := []) rfl trivial) ?_
  refine Go_icmp_ge bk_Md_stable 27 rfl (fun c9 => ?_) (fun c9 => ?_)
  · have h := ifT c9 h
    have h := Option.some.inj h
    subst h
    refine Go.t (Go_sg bk_Md_stable 42 1 (c2 := (some 72, [some (.ref 166), none, some (.int v2), some (.int v3)], [.int v2], σ)) (ps := []) rfl trivial) ?_
    exact Go_reti bk_Md_stable 43 rfl
  · have h := ifF c9 h
    obtain ⟨g7, h⟩ := gdS h
    refine Go.t (Go_sg bk_Md_stable 28 6 (c2 := (some 55, [some (.ref 166), none, some (.int v2), some (.int v3)], [.int v3, .int (σ.1 191 v3.toNatClampNeg), .int v2], σ)) (ps := [shk 166 = 11, IA 191 12 ∧ inb v3 12 = true]) rfl ⟨rfl, ⟨⟨rfl, rfl⟩, g7⟩, trivial⟩) ?_
    refine Go_icmp_le bk_Md_stable 34 rfl (fun c8 => ?_) (fun c8 => ?_)
    · have h := ifT c8 h
      refine Go.t (Go_sg bk_Md_stable 37 1 (c2 := (some 63, [some (.ref 166), none, some (.int v2), some (.int v3)], [.int (0 : Int32), .int v2], σ)) (ps := []) rfl trivial) ?_
      exact Go.t (Go.fg (LSub.cs (LSub.cn (LSub.cn (LSub.cs (LSub.nil)))))) (t_Md_stable_b63 v3 (0 : Int32) v2 σ h)
    · have h := ifF c8 h
      refine Go.t (Go_sg bk_Md_stable 35 2 (c2 := (some 63, [some (.ref 166), none, some (.int v2), some (.int v3)], [.int (1 : Int32), .int v2], σ)) (ps := []) rfl trivial) ?_
      exact Go.t (Go.fg (LSub.cs (LSub.cn (LSub.cn (LSub.cs (LSub.nil)))))) (t_Md_stable_b63 v3 (1 : Int32) v2 σ h)
def Md_stable_L41  (σ : MH) (s : Int32 × Int32) : Option ((Int32)) := itr (fun s : Int32 × Int32 => Md_stable_l41 s.1 s.2 σ) FU s
set_option maxRecDepth 20000 in
set_option maxHeartbeats 2000000 in
theorem t_Md_stable_L41   (σ : MH) (s : Int32 × Int32) {r} (h : Md_stable_L41 σ s = some r) : Go m_Md_stable 8 (cH_Md_stable_41 σ s) (cR_Md_stable_41 σ r) := Go_itr (fun s o ho => t_Md_stable_l41 s.1 s.2 σ ho) FU s r h
def Md_stable_b16 (v1 : Int32) (σ : MH) : Option (Int32 × MH) := (Md_laysFits σ).bind fun σ2 => (Md_laysStable σ2).bind fun σ5 => if v1 = (20 : Int32) then ((Md_stable_L41 σ5 ((0 : Int32), (0 : Int32))).bind fun z10 => some (z10, σ5)) else (if inb v1 12 = true then some (σ5.1 191 v1.toNatClampNeg, σ5) else none)
set_option maxRecDepth 20000 in
set_option maxHeartbeats 2000000 in
theorem t_Md_stable_b16 (v1 : Int32)   (σ : MH) {o} (h : Md_stable_b16 v1 σ = some o) : Go m_Md_stable 8 (some 16, [some (.ref 166), some (.int v1), none, none], [], σ) ((none, [], [.int o.1], o.2)) := by
  unfold Md_stable_b16 at h
  refine Go.t (Go_sg bk_Md_stable 9 1 (c2 := (some 17, [some (.ref 166), some (.int v1), none, none], [.ref 166], σ)) (ps := []) rfl trivial) ?_
  obtain ⟨σ2, q3, h⟩ := bdS h
  refine Go.t (Go_callV bk_Md_stable 10 rfl nk_Md_laysFits tw1631 tw1633 tw89 (ci := 11) rfl (as := []) (S := []) rfl rfl rfl rfl (Nat.le_of_ble_eq_true rfl) (Nat.le_of_ble_eq_true rfl) (ev_Md_laysFits _ q3)) ?_
  refine Go.t (Go_sg bk_Md_stable 11 1 (c2 := (some 21, [some (.ref 166), some (.int v1), none, none], [.ref 166], σ2)) (ps := []) rfl trivial) ?_
  obtain ⟨σ5, q6, h⟩ := bdS h
  refine Go.t (Go_callV bk_Md_stable 12 rfl nk_Md_laysStable tw1660 tw1662 tw94 (ci := 11) rfl (as := []) (S := []) rfl rfl rfl rfl (Nat.le_of_ble_eq_true rfl) (Nat.le_of_ble_eq_true rfl) (ev_Md_laysStable _ q6)) ?_
  refine Go.t (Go_sg bk_Md_stable 13 2 (c2 := (some 27, [some (.ref 166), some (.int v1), none, none], [.int (20 : Int32), .int v1], σ5)) (ps := []) rfl trivial) ?_
  refine Go_icmp_eq bk_Md_stable 15 rfl (fun c13 => ?_) (fun c13 => ?_)
  · have h := ifT c13 h
    refine Go.t (Go_sg bk_Md_stable 21 4 (c2 := (some 41, [some (.ref 166), some (.int v1), some (.int (0 : Int32)), some (.int (0 : Int32))], [], σ5)) (ps := []) rfl trivial) ?_
    obtain ⟨z10, q11, h⟩ := bdS h
    refine Go.t (Go.t (Go.fg (LSub.cs (LSub.cn (LSub.cs (LSub.cs (LSub.nil)))))) (t_Md_stable_L41 σ5 _ q11)) ?_
    have h := Option.some.inj h
    subst h
    exact Go.rf
  · have h := ifF c13 h
    obtain ⟨g12, h⟩ := gdS h
    have h := Option.some.inj h
    subst h
    refine Go.t (Go_sg bk_Md_stable 16 4 (c2 := (some 36, [some (.ref 166), some (.int v1), none, none], [.int (σ5.1 191 v1.toNatClampNeg)], σ5)) (ps := [shk 166 = 11, IA 191 12 ∧ inb v1 12 = true]) rfl ⟨rfl, ⟨⟨rfl, rfl⟩, g12⟩, trivial⟩) ?_
    exact Go_reti bk_Md_stable 20 rfl
def Md_stable0 (v1 : Int32) (σ : MH) : Option (Int32 × MH) := if v1 = (20 : Int32) then (Md_stable_b16 v1 σ) else ((Md_lives v1 σ).bind fun x14 => if x14 = (0 : Int32) then some ((-1 : Int32), σ) else (Md_stable_b16 v1 σ))
set_option maxRecDepth 20000 in
set_option maxHeartbeats 2000000 in
theorem t_Md_stable0 (v1 : Int32)  (σ : MH) {o} (h : Md_stable0 v1 σ = some o) : Go m_Md_stable 8 (some 0, [some (.ref 166), some (.int v1), none, none], [], σ) ((none, [], [.int o.1], o.2)) := by
  unfold Md_stable0 at h
  refine Go.t (Go_sg bk_Md_stable 0 2 (c2 := (some 3, [some (.ref 166), some (.int v1), none, none], [.int (20 : Int32), .int v1], σ)) (ps := []) rfl trivial) ?_
  refine Go_icmp_eq bk_Md_stable 2 rfl (fun c18 => ?_) (fun c18 => ?_)
  · have h := ifT c18 h
    exact Go.t (Go.fg (LSub.cs (LSub.cs (LSub.cn (LSub.cn (LSub.nil)))))) (t_Md_stable_b16 v1 σ h)
  · have h := ifF c18 h
    refine Go.t (Go_sg bk_Md_stable 3 2 (c2 := (some 8, [some (.ref 166), some (.int v1), none, none], [.int v1, .ref 166], σ)) (ps := []) rfl trivial) ?_
    obtain ⟨x14, q16, h⟩ := bdS h
    refine Go.t (Go_callV bk_Md_stable 5 rfl nk_Md_lives tw1381 tw1383 tw45 (ci := 11) rfl (as := [.int v1]) (S := []) rfl rfl rfl rfl (Nat.le_of_ble_eq_true rfl) (Nat.le_of_ble_eq_true rfl) (ev_Md_lives _ _ q16)) ?_
    refine Go_if_ne bk_Md_stable 6 rfl (fun c17 => ?_) (fun c17 => ?_)
    · have h := ifF c17 h
      exact Go.t (Go.fg (LSub.cs (LSub.cs (LSub.cn (LSub.cn (LSub.nil)))))) (t_Md_stable_b16 v1 σ h)
    · have h := ifT c17 h
      have h := Option.some.inj h
      subst h
      refine Go.t (Go_sg bk_Md_stable 7 1 (c2 := (some 15, [some (.ref 166), some (.int v1), none, none], [.int (-1 : Int32)], σ)) (ps := []) rfl trivial) ?_
      exact Go_reti bk_Md_stable 8 rfl
def Md_stable (v1 : Int32) (σ : MH) : Option (Int32 × MH) := Md_stable0 v1 σ
set_option maxRecDepth 20000 in
set_option maxHeartbeats 2000000 in
theorem ev_Md_stable (v1 : Int32)  (σ : MH) {o} (h : Md_stable v1 σ = some o) : Ev m_Md_stable 8 [.ref 166, .int v1] σ (some (.int o.1)) o.2 := Ev.of2 (by decide +kernel) rfl (Nat.le_of_ble_eq_true rfl) ⟨.int, rfl, rfl⟩ (t_Md_stable0 v1 σ h)
def Md_likesWed0 (v1 : Int32) (σ : MH) : Option (Int32 × MH) := if inb ((24 : Int32) + v1) 1936 = true then if σ.1 167 ((24 : Int32) + v1).toNatClampNeg = (-2 : Int32) then some ((0 : Int32), σ) else ((Md_likes v1 (σ.1 167 ((24 : Int32) + v1).toNatClampNeg) σ).bind fun (x2, σ3) => some (x2, σ3)) else none
set_option maxRecDepth 20000 in
set_option maxHeartbeats 2000000 in
theorem t_Md_likesWed0 (v1 : Int32)  (σ : MH) {o} (h : Md_likesWed0 v1 σ = some o) : Go m_Md_likesWed 5 (some 0, [some (.ref 166), some (.int v1)], [], σ) ((none, [], [.int o.1], o.2)) := by
  unfold Md_likesWed0 at h
  obtain ⟨g1, h⟩ := gdS h
  refine Go.t (Go_sg bk_Md_likesWed 0 7 (c2 := (some 11, [some (.ref 166), some (.int v1)], [.int (-2 : Int32), .int (σ.1 167 ((24 : Int32) + v1).toNatClampNeg)], σ)) (ps := [shk 166 = 11, IA 167 1936 ∧ inb ((24 : Int32) + v1) 1936 = true]) rfl ⟨rfl, ⟨⟨rfl, rfl⟩, g1⟩, trivial⟩) ?_
  refine Go_icmp_ne bk_Md_likesWed 7 rfl (fun c5 => ?_) (fun c5 => ?_)
  · have h := ifF c5 h
    refine Go.t (Go_sg bk_Md_likesWed 10 8 (c2 := (some 29, [some (.ref 166), some (.int v1)], [.int (σ.1 167 ((24 : Int32) + v1).toNatClampNeg), .int v1, .ref 166], σ)) (ps := [shk 166 = 11, IA 167 1936 ∧ inb ((24 : Int32) + v1) 1936 = true]) rfl ⟨rfl, ⟨⟨rfl, rfl⟩, g1⟩, trivial⟩) ?_
    obtain ⟨⟨x2, σ3⟩, q4, h⟩ := bdS h
    dsimp only at h
    refine Go.t (Go_callV bk_Md_likesWed 18 rfl nk_Md_likes tw1623 tw1625 tw88 (ci := 11) rfl (as := [.int v1, .int (σ.1 167 ((24 : Int32) + v1).toNatClampNeg)]) (S := []) rfl rfl rfl rfl (Nat.le_of_ble_eq_true rfl) (Nat.le_of_ble_eq_true rfl) (ev_Md_likes _ _ _ q4)) ?_
    have h := Option.some.inj h
    subst h
    exact Go_reti bk_Md_likesWed 19 rfl
  · have h := ifT c5 h
    refine Go.t (Go_sg bk_Md_likesWed 8 2 (c2 := (some 32, [some (.ref 166), some (.int v1)], [.int (0 : Int32)], σ)) (ps := []) rfl trivial) ?_
    have h := Option.some.inj h
    subst h
    exact Go_reti bk_Md_likesWed 19 rfl
def Md_likesWed (v1 : Int32) (σ : MH) : Option (Int32 × MH) := Md_likesWed0 v1 σ
set_option maxRecDepth 20000 in
set_option maxHeartbeats 2000000 in
theorem ev_Md_likesWed (v1 : Int32)  (σ : MH) {o} (h : Md_likesWed v1 σ = some o) : Ev m_Md_likesWed 5 [.ref 166, .int v1] σ (some (.int o.1)) o.2 := Ev.of2 (by decide +kernel) rfl (Nat.le_of_ble_eq_true rfl) ⟨.int, rfl, rfl⟩ (t_Md_likesWed0 v1 σ h)
def cH_Md_unrest_22 (v1 : Int32) (s : Int32 × Int32 × Int32 × MH) : MC := (some 22, [some (.ref 166), some (.int v1), some (.int s.1), some (.int s.2.1), some (.int s.2.2.1), none], [], s.2.2.2)
def cR_Md_unrest_22 (v1 : Int32) : ((Int32 × Int32 × MH)) → MC := (fun r : Int32 × Int32 × MH => ((some 172, [none, some (.int v1), some (.int r.1), some (.int r.2.1), none, none], [], r.2.2) : MC))
def cH_Md_unrest_32 (v1 : Int32) (v4 : Int32) (s : Int32 × Int32 × Int32 × MH) : MC := (some 32, [some (.ref 166), some (.int v1), some (.int s.1), some (.int s.2.1), some (.int v4), some (.int s.2.2.1)], [], s.2.2.2)
def cR_Md_unrest_32 (v1 : Int32) (v4 : Int32) : ((Int32 × Int32 × MH)) → MC := (fun r : Int32 × Int32 × MH => ((some 166, [some (.ref 166), some (.int v1), some (.int r.1), some (.int r.2.1), some (.int v4), none], [], r.2.2) : MC))
def Md_unrest_b160 (v1 : Int32) (v2 : Int32) (v3 : Int32) (v4 : Int32) (v5 : Int32) (σ : MH) : Option (((Int32 × Int32 × Int32 × MH) ⊕ ((Int32 × Int32 × MH)))) := some (.inl (v2, v3, v5 + (1 : Int32), σ))
set_option maxRecDepth 20000 in
set_option maxHeartbeats 2000000 in
theorem t_Md_unrest_b160 (v1 : Int32) (v2 : Int32) (v3 : Int32) (v4 : Int32) (v5 : Int32)   (σ : MH) {o} (h : Md_unrest_b160 v1 v2 v3 v4 v5 σ = some o) : Go m_Md_unrest 8 (some 160, [some (.ref 166), some (.int v1), some (.int v2), some (.int v3), some (.int v4), some (.int v5)], [], σ) (cS (cH_Md_unrest_32 v1 v4) (cR_Md_unrest_32 v1 v4) o) := by
  unfold Md_unrest_b160 at h
  refine Go.t (Go_sg bk_Md_unrest 88 2 (c2 := (some 32, [some (.ref 166), some (.int v1), some (.int v2), some (.int v3), some (.int v4), some (.int (v5 + (1 : Int32)))], [], σ)) (ps := []) rfl trivial) ?_
  have h := Option.some.inj h
  subst h
  exact Go.fg (LSub.cs (LSub.cs (LSub.cs (LSub.cs (LSub.cs (LSub.cs (LSub.nil)))))))
def Md_unrest_b155 (v1 : Int32) (v2 : Int32) (v4 : Int32) (v5 : Int32) (s0 : Int32) (σ : MH) : Option (((Int32 × Int32 × Int32 × MH) ⊕ ((Int32 × Int32 × MH)))) := Md_unrest_b160 v1 (v2 + (1 : Int32)) s0 v4 v5 σ
set_option maxRecDepth 20000 in
set_option maxHeartbeats 2000000 in
theorem t_Md_unrest_b155 (v1 : Int32) (v2 : Int32) (v4 : Int32) (v5 : Int32) (s0 : Int32)   (σ : MH) {o} (h : Md_unrest_b155 v1 v2 v4 v5 s0 σ = some o) : Go m_Md_unrest 8 (some 155, [some (.ref 166), some (.int v1), some (.int v2), none, some (.int v4), some (.int v5)], [.int s0], σ) (cS (cH_Md_unrest_32 v1 v4) (cR_Md_unrest_32 v1 v4) o) := by
  unfold Md_unrest_b155 at h
  refine Go.t (Go_sg bk_Md_unrest 83 5 (c2 := (some 160, [some (.ref 166), some (.int v1), some (.int (v2 + (1 : Int32))), some (.int s0), some (.int v4), some (.int v5)], [], σ)) (ps := []) rfl trivial) ?_
  exact Go.t (Go.fg (LSub.cs (LSub.cs (LSub.cs (LSub.cs (LSub.cs (LSub.cs (LSub.nil)))))))) (t_Md_unrest_b160 v1 (v2 + (1 : Int32)) s0 v4 v5 σ h)
def Md_unrest_l32 (v1 : Int32) (v4 : Int32) (v2 : Int32) (v3 : Int32) (v5 : Int32) (σ : MH) : Option (((Int32 × Int32 × Int32 × MH) ⊕ ((Int32 × Int32 × MH)))) := if (12 : Int32) ≤ v5 then some (.inr (v2, v3, σ)) else ((Md_isOne v4 (0 : Int32) σ).bind fun x7 => if x7 = (0 : Int32) then (Md_unrest_b160 v1 v2 v3 v4 v5 σ) else ((Md_isOne v5 (1 : Int32) σ).bind fun x10 => if x10 = (0 : Int32) then (Md_unrest_b160 v1 v2 v3 v4 v5 σ) else (if inb v4 12 = true then (Md_has (σ.1 186 v4.toNatClampNeg) v5 σ).bind fun x14 => if x14 = (0 : Int32) then (Md_unrest_b160 v1 v2 v3 v4 v5 σ) else (if inb ((24 : Int32) + v4) 1936 = true then if σ.1 167 ((24 : Int32) + v4).toNatClampNeg = v5 then (Md_unrest_b160 v1 v2 v3 v4 v5 σ) else (if inb (((12 : Int32) * v4) + v5) 144 = true then (Md_likesWed v4 σ).bind fun (x19, σ20) => if σ.1 188 (((12 : Int32) * v4) + v5).toNatClampNeg ≤ x19 then (Md_unrest_b160 v1 v2 v3 v4 v5 σ20) else (if inb (((12 : Int32) * v5) + v4) 144 = true then (Md_likesWed v5 σ20).bind fun (x23, σ24) => if x23 < σ20.1 188 (((12 : Int32) * v5) + v4).toNatClampNeg then (if v2 = (0 : Int32) then (Md_unrest_b155 v1 v2 v4 v5 (((12 : Int32) * v4) + v5) σ24) else (Md_unrest_b155 v1 v2 v4 v5 v3 σ24)) else (Md_unrest_b160 v1 v2 v3 v4 v5 σ24) else none) else none) else none) else none)))
set_option maxRecDepth 20000 in
set_option maxHeartbeats 2000000 in
theorem t_Md_unrest_l32 (v1 : Int32) (v4 : Int32) (v2 : Int32) (v3 : Int32) (v5 : Int32)  (σ : MH) {o} (h : Md_unrest_l32 v1 v4 v2 v3 v5 σ = some o) : Go m_Md_unrest 8 (cH_Md_unrest_32 v1 v4 (v2, v3, v5, σ)) (cS (cH_Md_unrest_32 v1 v4) (cR_Md_unrest_32 v1 v4) o) := by
  unfold Md_unrest_l32 at h
  unfold cH_Md_unrest_32
  refine Go.t (Go_sg bk_Md_unrest 20 2 (c2 := (some 36, [some (.ref 166), some (.int v1), some (.int v2), some (.int v3), some (.int v4), some (.int v5)], [.int (12 : Int32), .int v5], σ)) (ps := []) rfl trivial) ?_
  refine Go_icmp_ge bk_Md_unrest 22 rfl (fun c33 => ?_) (fun c33 => ?_)
  · have h := ifT c33 h
    have h := Option.some.inj h
    subst h
    exact Go.fg (LSub.cs (LSub.cs (LSub.cs (LSub.cs (LSub.cs (LSub.cn (LSub.nil)))))))
  · have h := ifF c33 h
    refine Go.t (Go_sg bk_Md_unrest 23 3 (c2 := (some 43, [some (.ref 166), some (.int v1), some (.int v2), some (.int v3), some (.int v4), some (.int v5)], [.int (0 : Int32), .int v4, .ref 166], σ)) (ps := []) rfl trivial) ?_
    obtain ⟨x7, q9, h⟩ := bdS h
    refine Go.t (Go_callV bk_Md_unrest 26 rfl nk_Md_isOne tw1639 tw1641 tw90 (ci := 11) rfl (as := [.int v4, .int (0 : Int32)]) (S := []) rfl rfl rfl rfl (Nat.le_of_ble_eq_true rfl) (Nat.le_of_ble_eq_true rfl) (ev_Md_isOne _ _ _ q9)) ?_
    refine Go_if_eq bk_Md_unrest 27 rfl (fun c32 => ?_) (fun c32 => ?_)
    · have h := ifT c32 h
      exact Go.t (Go.fg (LSub.cs (LSub.cs (LSub.cs (LSub.cs (LSub.cs (LSub.cs (LSub.nil)))))))) (t_Md_unrest_b160 v1 v2 v3 v4 v5 σ h)
    · have h := ifF c32 h
      refine Go.t (Go_sg bk_Md_unrest 28 3 (c2 := (some 53, [some (.ref 166), some (.int v1), some (.int v2), some (.int v3), some (.int v4), some (.int v5)], [.int (1 : Int32), .int v5, .ref 166], σ)) (ps := []) rfl trivial) ?_
      obtain ⟨x10, q12, h⟩ := bdS h
      refine Go.t (Go_callV bk_Md_unrest 31 rfl nk_Md_isOne tw1639 tw1641 tw90 (ci := 11) rfl (as := [.int v5, .int (1 : Int32)]) (S := []) rfl rfl rfl rfl (Nat.le_of_ble_eq_true rfl) (Nat.le_of_ble_eq_true rfl) (ev_Md_isOne _ _ _ q12)) ?_
      refine Go_if_eq bk_Md_unrest 32 rfl (fun c31 => ?_) (fun c31 => ?_)
      · have h := ifT c31 h
        exact Go.t (Go.fg (LSub.cs (LSub.cs (LSub.cs (LSub.cs (LSub.cs (LSub.cs (LSub.nil)))))))) (t_Md_unrest_b160 v1 v2 v3 v4 v5 σ h)
      · have h := ifF c31 h
        obtain ⟨g13, h⟩ := gdS h
        refine Go.t (Go_sg bk_Md_unrest 33 5 (c2 := (some 68, [some (.ref 166), some (.int v1), some (.int v2), some (.int v3), some (.int v4), some (.int v5)], [.int v5, .int (σ.1 186 v4.toNatClampNeg)], σ)) (ps := [shk 166 = 11, IA 186 12 ∧ inb v4 12 = true]) rfl ⟨rfl, ⟨⟨rfl, rfl⟩, g13⟩, trivial⟩) ?_
        obtain ⟨x14, q16, h⟩ := bdS h
        refine Go.t (Go_callS bk_Md_unrest 38 rfl nk_Md_has tw1367 tw1368 (as := [.int (σ.1 186 v4.toNatClampNeg), .int v5]) (S := []) rfl rfl rfl (Nat.le_of_ble_eq_true rfl) (Nat.le_of_ble_eq_true rfl) (ev_Md_has _ _ _ q16)) ?_
        refine Go_if_eq bk_Md_unrest 39 rfl (fun c30 => ?_) (fun c30 => ?_)
        · have h := ifT c30 h
          exact Go.t (Go.fg (LSub.cs (LSub.cs (LSub.cs (LSub.cs (LSub.cs (LSub.cs (LSub.nil)))))))) (t_Md_unrest_b160 v1 v2 v3 v4 v5 σ h)
        · have h := ifF c30 h
          obtain ⟨g17, h⟩ := gdS h
          refine Go.t (Go_sg bk_Md_unrest 40 7 (c2 := (some 86, [some (.ref 166), some (.int v1), some (.int v2), some (.int v3), some (.int v4), some (.int v5)], [.int v5, .int (σ.1 167 ((24 : Int32) + v4).toNatClampNeg)], σ)) (ps := [shk 166 = 11, IA 167 1936 ∧ inb ((24 : Int32) + v4) 1936 = true]) rfl ⟨rfl, ⟨⟨rfl, rfl⟩, g17⟩, trivial⟩) ?_
          refine Go_icmp_ne bk_Md_unrest 47 rfl (fun c29 => ?_) (fun c29 => ?_)
          · have h := ifF c29 h
            obtain ⟨g18, h⟩ := gdS h
            refine Go.t (Go_sg bk_Md_unrest 49 10 (c2 := (some 108, [some (.ref 166), some (.int v1), some (.int v2), some (.int v3), some (.int v4), some (.int v5)], [.int v4, .ref 166, .int (σ.1 188 (((12 : Int32) * v4) + v5).toNatClampNeg)], σ)) (ps := [shk 166 = 11, IA 188 144 ∧ inb (((12 : Int32) * v4) + v5) 144 = true]) rfl ⟨rfl, ⟨⟨rfl, rfl⟩, g18⟩, trivial⟩) ?_
            obtain ⟨⟨x19, σ20⟩, q21, h⟩ := bdS h
            dsimp only at h
            refine Go.t (Go_callV bk_Md_unrest 59 rfl nk_Md_likesWed tw1676 tw1678 tw97 (ci := 11) rfl (as := [.int v4]) (S := [.int (σ.1 188 (((12 : Int32) * v4) + v5).toNatClampNeg)]) rfl rfl rfl rfl (Nat.le_of_ble_eq_true rfl) (Nat.le_of_ble_eq_true rfl) (ev_Md_likesWed _ _ q21)) ?_
            refine Go_icmp_le bk_Md_unrest 60 rfl (fun c28 => ?_) (fun c28 => ?_)
            · have h := ifT c28 h
              exact Go.t (Go.fg (LSub.cs (LSub.cs (LSub.cs (LSub.cs (LSub.cs (LSub.cs (LSub.nil)))))))) (t_Md_unrest_b160 v1 v2 v3 v4 v5 σ20 h)
            · have h := ifF c28 h
              obtain ⟨g22, h⟩ := gdS h
              refine Go.t (Go_sg bk_Md_unrest 61 10 (c2 := (some 130, [some (.ref 166), some (.int v1), some (.int v2), some (.int v3), some (.int v4), some (.int v5)], [.int v5, .ref 166, .int (σ20.1 188 (((12 : Int32) * v5) + v4).toNatClampNeg)], σ20)) (ps := [shk 166 = 11, IA 188 144 ∧ inb (((12 : Int32) * v5) + v4) 144 = true]) rfl ⟨rfl, ⟨⟨rfl, rfl⟩, g22⟩, trivial⟩) ?_
              obtain ⟨⟨x23, σ24⟩, q25, h⟩ := bdS h
              dsimp only at h
              refine Go.t (Go_callV bk_Md_unrest 71 rfl nk_Md_likesWed tw1676 tw1678 tw97 (ci := 11) rfl (as := [.int v5]) (S := [.int (σ20.1 188 (((12 : Int32) * v5) + v4).toNatClampNeg)]) rfl rfl rfl rfl (Nat.le_of_ble_eq_true rfl) (Nat.le_of_ble_eq_true rfl) (ev_Md_likesWed _ _ q25)) ?_
              refine Go_icmp_gt bk_Md_unrest 72 rfl (fun c27 => ?_) (fun c27 => ?_)
              · have h := ifT c27 h
                refine Go.t (Go_sg bk_Md_unrest 74 1 (c2 := (some 140, [some (.ref 166), some (.int v1), some (.int v2), some (.int v3), some (.int v4), some (.int v5)], [.int v2], σ24)) (ps := []) rfl trivial) ?_
                refine Go_if_ne bk_Md_unrest 75 rfl (fun c26 => ?_) (fun c26 => ?_)
                · have h := ifF c26 h
                  refine Go.t (Go_sg bk_Md_unrest 82 1 (c2 := (some 155, [some (.ref 166), some (.int v1), some (.int v2), some (.int v3), some (.int v4), some (.int v5)], [.int v3], σ24)) (ps := []) rfl trivial) ?_
                  exact Go.t (Go.fg (LSub.cs (LSub.cs (LSub.cs (LSub.cn (LSub.cs (LSub.cs (LSub.nil)))))))) (t_Md_unrest_b155 v1 v2 v4 v5 v3 σ24 h)
                · have h := ifT c26 h
                  refine Go.t (Go_sg bk_Md_unrest 76 6 (c2 := (some 155, [some (.ref 166), some (.int v1), some (.int v2), some (.int v3), some (.int v4), some (.int v5)], [.int (((12 : Int32) * v4) + v5)], σ24)) (ps := []) rfl trivial) ?_
                  exact Go.t (Go.fg (LSub.cs (LSub.cs (LSub.cs (LSub.cn (LSub.cs (LSub.cs (LSub.nil)))))))) (t_Md_unrest_b155 v1 v2 v4 v5 (((12 : Int32) * v4) + v5) σ24 h)
              · have h := ifF c27 h
                refine Go.t (Go_sg bk_Md_unrest 73 1 (c2 := (some 160, [some (.ref 166), some (.int v1), some (.int v2), some (.int v3), some (.int v4), some (.int v5)], [], σ24)) (ps := []) rfl trivial) ?_
                exact Go.t (Go.fg (LSub.cs (LSub.cs (LSub.cs (LSub.cs (LSub.cs (LSub.cs (LSub.nil)))))))) (t_Md_unrest_b160 v1 v2 v3 v4 v5 σ24 h)
          · have h := ifT c29 h
            refine Go.t (Go_sg bk_Md_unrest 48 1 (c2 := (some 160, [some (.ref 166), some (.int v1), some (.int v2), some (.int v3), some (.int v4), some (.int v5)], [], σ)) (ps := []) rfl trivial) ?_
            exact Go.t (Go.fg (LSub.cs (LSub.cs (LSub.cs (LSub.cs (LSub.cs (LSub.cs (LSub.nil)))))))) (t_Md_unrest_b160 v1 v2 v3 v4 v5 σ h)
def Md_unrest_L32 (v1 : Int32) (v4 : Int32) (s : Int32 × Int32 × Int32 × MH) : Option ((Int32 × Int32 × MH)) := itr (fun s : Int32 × Int32 × Int32 × MH => Md_unrest_l32 v1 v4 s.1 s.2.1 s.2.2.1 s.2.2.2) FU s
set_option maxRecDepth 20000 in
set_option maxHeartbeats 2000000 in
theorem t_Md_unrest_L32 (v1 : Int32) (v4 : Int32)  (s : Int32 × Int32 × Int32 × MH) {r} (h : Md_unrest_L32 v1 v4 s = some r) : Go m_Md_unrest 8 (cH_Md_unrest_32 v1 v4 s) (cR_Md_unrest_32 v1 v4 r) := Go_itr (fun s o ho => t_Md_unrest_l32 v1 v4 s.1 s.2.1 s.2.2.1 s.2.2.2 ho) FU s r h
def Md_unrest_l22 (v1 : Int32) (v2 : Int32) (v3 : Int32) (v4 : Int32) (σ : MH) : Option (((Int32 × Int32 × Int32 × MH) ⊕ ((Int32 × Int32 × MH)))) := if (12 : Int32) ≤ v4 then some (.inr (v2, v3, σ)) else ((Md_unrest_L32 v1 v4 (v2, v3, (0 : Int32), σ)).bind fun z34 => some (.inl (z34.1, z34.2.1, v4 + (1 : Int32), z34.2.2)))
set_option maxRecDepth 20000 in
set_option maxHeartbeats 2000000 in
theorem t_Md_unrest_l22 (v1 : Int32) (v2 : Int32) (v3 : Int32) (v4 : Int32)  (σ : MH) {o} (h : Md_unrest_l22 v1 v2 v3 v4 σ = some o) : Go m_Md_unrest 8 (cH_Md_unrest_22 v1 (v2, v3, v4, σ)) (cS (cH_Md_unrest_22 v1) (cR_Md_unrest_22 v1) o) := by
  unfold Md_unrest_l22 at h
  unfold cH_Md_unrest_22
  refine Go.t (Go_sg bk_Md_unrest 15 2 (c2 := (some 26, [some (.ref 166), some (.int v1), some (.int v2), some (.int v3), some (.int v4), none], [.int (12 : Int32), .int v4], σ)) (ps := []) rfl trivial) ?_
  refine Go_icmp_ge bk_Md_unrest 17 rfl (fun c36 => ?_) (fun c36 => ?_)
  · have h := ifT c36 h
    have h := Option.some.inj h
    subst h
    exact Go.fg (LSub.cn (LSub.cs (LSub.cs (LSub.cs (LSub.cn (LSub.cn (LSub.nil)))))))
  · have h := ifF c36 h
    refine Go.t (Go_sg bk_Md_unrest 18 2 (c2 := (some 32, [some (.ref 166), some (.int v1), some (.int v2), some (.int v3), some (.int v4), some (.int (0 : Int32))], [], σ)) (ps := []) rfl trivial) ?_
    obtain ⟨z34, q35, h⟩ := bdS h
    refine Go.t (Go.t (Go.fg (LSub.cs (LSub.cs (LSub.cs (LSub.cs (LSub.cs (LSub.cs (LSub.nil)))))))) (t_Md_unrest_L32 v1 v4 _ q35)) ?_
    refine Go.t (Go_sg bk_Md_unrest 90 2 (c2 := (some 22, [some (.ref 166), some (.int v1), some (.int z34.1), some (.int z34.2.1), some (.int (v4 + (1 : Int32))), none], [], z34.2.2)) (ps := []) rfl trivial) ?_
    have h := Option.some.inj h
    subst h
    exact Go.fg (LSub.cs (LSub.cs (LSub.cs (LSub.cs (LSub.cs (LSub.cn (LSub.nil)))))))
def Md_unrest_L22 (v1 : Int32) (s : Int32 × Int32 × Int32 × MH) : Option ((Int32 × Int32 × MH)) := itr (fun s : Int32 × Int32 × Int32 × MH => Md_unrest_l22 v1 s.1 s.2.1 s.2.2.1 s.2.2.2) FU s
set_option maxRecDepth 20000 in
set_option maxHeartbeats 2000000 in
theorem t_Md_unrest_L22 (v1 : Int32)  (s : Int32 × Int32 × Int32 × MH) {r} (h : Md_unrest_L22 v1 s = some r) : Go m_Md_unrest 8 (cH_Md_unrest_22 v1 s) (cR_Md_unrest_22 v1 r) := Go_itr (fun s o ho => t_Md_unrest_l22 v1 s.1 s.2.1 s.2.2.1 s.2.2.2 ho) FU s r h
def Md_unrest0 (v1 : Int32) (σ : MH) : Option (Int32 × MH) := (Md_in v1 (0 : Int32) (2 : Int32) σ).bind fun x1 => if x1 = (0 : Int32) then some ((-1 : Int32), σ) else ((Md_laysFits σ).bind fun σ5 => (Md_unrest_L22 v1 ((0 : Int32), (-1 : Int32), (0 : Int32), σ5)).bind fun z37 => if v1 = (0 : Int32) then some (z37.1, z37.2.2) else (if z37.2.1 = (-1 : Int32) then some ((-2 : Int32), z37.2.2) else (if v1 = (1 : Int32) then some (z37.2.1 / (12 : Int32), z37.2.2) else some (jrem z37.2.1 (12 : Int32), z37.2.2))))
set_option maxRecDepth 20000 in
set_option maxHeartbeats 2000000 in
theorem t_Md_unrest0 (v1 : Int32)  (σ : MH) {o} (h : Md_unrest0 v1 σ = some o) : Go m_Md_unrest 8 (some 0, [some (.ref 166), some (.int v1), none, none, none, none], [], σ) ((none, [], [.int o.1], o.2)) := by
  unfold Md_unrest0 at h
  refine Go.t (Go_sg bk_Md_unrest 0 3 (c2 := (some 3, [some (.ref 166), some (.int v1), none, none, none, none], [.int (2 : Int32), .int (0 : Int32), .int v1], σ)) (ps := []) rfl trivial) ?_
  obtain ⟨x1, q3, h⟩ := bdS h
  refine Go.t (Go_callS bk_Md_unrest 3 rfl nk_Md_in tw1370 tw1371 (as := [.int v1, .int (0 : Int32), .int (2 : Int32)]) (S := []) rfl rfl rfl (Nat.le_of_ble_eq_true rfl) (Nat.le_of_ble_eq_true rfl) (ev_Md_in _ _ _ _ q3)) ?_
  refine Go_if_ne bk_Md_unrest 4 rfl (fun c42 => ?_) (fun c42 => ?_)
  · have h := ifF c42 h
    refine Go.t (Go_sg bk_Md_unrest 7 1 (c2 := (some 12, [some (.ref 166), some (.int v1), none, none, none, none], [.ref 166], σ)) (ps := []) rfl trivial) ?_
    obtain ⟨σ5, q6, h⟩ := bdS h
    refine Go.t (Go_callV bk_Md_unrest 8 rfl nk_Md_laysFits tw1631 tw1633 tw89 (ci := 11) rfl (as := []) (S := []) rfl rfl rfl rfl (Nat.le_of_ble_eq_true rfl) (Nat.le_of_ble_eq_true rfl) (ev_Md_laysFits _ q6)) ?_
    refine Go.t (Go_sg bk_Md_unrest 9 6 (c2 := (some 22, [some (.ref 166), some (.int v1), some (.int (0 : Int32)), some (.int (-1 : Int32)), some (.int (0 : Int32)), none], [], σ5)) (ps := []) rfl trivial) ?_
    obtain ⟨z37, q38, h⟩ := bdS h
    refine Go.t (Go.t (Go.fg (LSub.cs (LSub.cs (LSub.cs (LSub.cs (LSub.cs (LSub.cn (LSub.nil)))))))) (t_Md_unrest_L22 v1 _ q38)) ?_
    refine Go.t (Go_sg bk_Md_unrest 92 1 (c2 := (some 173, [none, some (.int v1), some (.int z37.1), some (.int z37.2.1), none, none], [.int v1], z37.2.2)) (ps := []) rfl trivial) ?_
    refine Go_if_ne bk_Md_unrest 93 rfl (fun c41 => ?_) (fun c41 => ?_)
    · have h := ifF c41 h
      refine Go.t (Go_sg bk_Md_unrest 96 2 (c2 := (some 182, [none, some (.int v1), some (.int z37.1), some (.int z37.2.1), none, none], [.int (-1 : Int32), .int z37.2.1], z37.2.2)) (ps := []) rfl trivial) ?_
      refine Go_icmp_ne bk_Md_unrest 98 rfl (fun c40 => ?_) (fun c40 => ?_)
      · have h := ifF c40 h
        refine Go.t (Go_sg bk_Md_unrest 101 2 (c2 := (some 192, [none, some (.int v1), some (.int z37.1), some (.int z37.2.1), none, none], [.int (1 : Int32), .int v1], z37.2.2)) (ps := []) rfl trivial) ?_
        refine Go_icmp_ne bk_Md_unrest 103 rfl (fun c39 => ?_) (fun c39 => ?_)
        · have h := ifF c39 h
          have h := Option.some.inj h
          subst h
          refine Go.t (Go_sg bk_Md_unrest 108 3 (c2 := (some 206, [none, some (.int v1), some (.int z37.1), some (.int z37.2.1), none, none], [.int (jrem z37.2.1 (12 : Int32))], z37.2.2)) (ps := [(12 : Int32) ≠ 0]) rfl ⟨(by decide), trivial⟩) ?_
          exact Go_reti bk_Md_unrest 111 rfl
        · have h := ifT c39 h
          refine Go.t (Go_sg bk_Md_unrest 104 4 (c2 := (some 206, [none, some (.int v1), some (.int z37.1), some (.int z37.2.1), none, none], [.int (z37.2.1 / (12 : Int32))], z37.2.2)) (ps := [(12 : Int32) ≠ 0]) rfl ⟨(by decide), trivial⟩) ?_
          have h := Option.some.inj h
          subst h
          exact Go_reti bk_Md_unrest 111 rfl
      · have h := ifT c40 h
        refine Go.t (Go_sg bk_Md_unrest 99 2 (c2 := (some 206, [none, some (.int v1), some (.int z37.1), some (.int z37.2.1), none, none], [.int (-2 : Int32)], z37.2.2)) (ps := []) rfl trivial) ?_
        have h := Option.some.inj h
        subst h
        exact Go_reti bk_Md_unrest 111 rfl
    · have h := ifT c41 h
      refine Go.t (Go_sg bk_Md_unrest 94 2 (c2 := (some 206, [none, some (.int v1), some (.int z37.1), some (.int z37.2.1), none, none], [.int z37.1], z37.2.2)) (ps := []) rfl trivial) ?_
      have h := Option.some.inj h
      subst h
      exact Go_reti bk_Md_unrest 111 rfl
  · have h := ifT c42 h
    have h := Option.some.inj h
    subst h
    refine Go.t (Go_sg bk_Md_unrest 5 1 (c2 := (some 10, [some (.ref 166), some (.int v1), none, none, none, none], [.int (-1 : Int32)], σ)) (ps := []) rfl trivial) ?_
    exact Go_reti bk_Md_unrest 6 rfl
def Md_unrest (v1 : Int32) (σ : MH) : Option (Int32 × MH) := Md_unrest0 v1 σ
set_option maxRecDepth 20000 in
set_option maxHeartbeats 2000000 in
theorem ev_Md_unrest (v1 : Int32)  (σ : MH) {o} (h : Md_unrest v1 σ = some o) : Ev m_Md_unrest 8 [.ref 166, .int v1] σ (some (.int o.1)) o.2 := Ev.of2 (by decide +kernel) rfl (Nat.le_of_ble_eq_true rfl) ⟨.int, rfl, rfl⟩ (t_Md_unrest0 v1 σ h)
def cH_Md_areBounds_4 (v1 : Int32) (σ : MH) (s : Int32 × Int32) : MC := (some 4, [some (.ref 166), some (.int v1), some (.int s.1), some (.int s.2), none], [], σ)
def cR_Md_areBounds_4 (v1 : Int32) (σ : MH) : ((Int32) ⊕ (Int32)) → MC := (cS (fun r : Int32 => ((some 41, [some (.ref 166), some (.int v1), some (.int r), none, none], [], σ) : MC)) (fun r : Int32 => ((none, [], [.int r], σ) : MC)))
def Md_areBounds_l4 (v1 : Int32) (v2 : Int32) (v3 : Int32) (σ : MH) : Option (((Int32 × Int32) ⊕ ((Int32) ⊕ (Int32)))) := if v1 ≤ v3 then some (.inr (.inl (v2))) else (if inb v3 260 = true then (Md_in (σ.1 170 v3.toNatClampNeg) (0 : Int32) (99 : Int32) σ).bind fun x2 => if x2 = (0 : Int32) then some (.inr (.inr ((0 : Int32)))) else some (.inl (v2 + (σ.1 170 v3.toNatClampNeg), v3 + (1 : Int32))) else none)
set_option maxRecDepth 20000 in
set_option maxHeartbeats 2000000 in
theorem t_Md_areBounds_l4 (v1 : Int32) (v2 : Int32) (v3 : Int32)  (σ : MH) {o} (h : Md_areBounds_l4 v1 v2 v3 σ = some o) : Go m_Md_areBounds 2 (cH_Md_areBounds_4 v1 σ (v2, v3)) (cS (cH_Md_areBounds_4 v1 σ) (cR_Md_areBounds_4 v1 σ) o) := by
  unfold Md_areBounds_l4 at h
  unfold cH_Md_areBounds_4
  refine Go.t (Go_sg bk_Md_areBounds 4 2 (c2 := (some 6, [some (.ref 166), some (.int v1), some (.int v2), some (.int v3), none], [.int v1, .int v3], σ)) (ps := []) rfl trivial) ?_
  refine Go_icmp_ge bk_Md_areBounds 6 rfl (fun c6 => ?_) (fun c6 => ?_)
  · have h := ifT c6 h
    have h := Option.some.inj h
    subst h
    exact Go.fg (LSub.cs (LSub.cs (LSub.cs (LSub.cn (LSub.cn (LSub.nil))))))
  · have h := ifF c6 h
    obtain ⟨g1, h⟩ := gdS h
    refine Go.t (Go_sg bk_Md_areBounds 7 6 (c2 := (some 18, [some (.ref 166), some (.int v1), some (.int v2), some (.int v3), none], [.int (99 : Int32), .int (0 : Int32), .int (σ.1 170 v3.toNatClampNeg)], σ)) (ps := [shk 166 = 11, IB 170 260 ∧ inb v3 260 = true]) rfl ⟨rfl, ⟨⟨rfl, rfl⟩, g1⟩, trivial⟩) ?_
    obtain ⟨x2, q4, h⟩ := bdS h
    refine Go.t (Go_callS bk_Md_areBounds 13 rfl nk_Md_in tw1370 tw1371 (as := [.int (σ.1 170 v3.toNatClampNeg), .int (0 : Int32), .int (99 : Int32)]) (S := []) rfl rfl rfl (Nat.le_of_ble_eq_true rfl) (Nat.le_of_ble_eq_true rfl) (ev_Md_in _ _ _ _ q4)) ?_
    refine Go_if_ne bk_Md_areBounds 14 rfl (fun c5 => ?_) (fun c5 => ?_)
    · have h := ifF c5 h
      refine Go.t (Go_sg bk_Md_areBounds 17 9 (c2 := (some 4, [some (.ref 166), some (.int v1), some (.int (v2 + (σ.1 170 v3.toNatClampNeg))), some (.int (v3 + (1 : Int32))), none], [], σ)) (ps := [shk 166 = 11, IB 170 260 ∧ inb v3 260 = true]) rfl ⟨rfl, ⟨⟨rfl, rfl⟩, g1⟩, trivial⟩) ?_
      have h := Option.some.inj h
      subst h
      exact Go.fg (LSub.cs (LSub.cs (LSub.cs (LSub.cs (LSub.cn (LSub.nil))))))
    · have h := ifT c5 h
      have h := Option.some.inj h
      subst h
      refine Go.t (Go_sg bk_Md_areBounds 15 1 (c2 := (some 25, [some (.ref 166), some (.int v1), some (.int v2), some (.int v3), none], [.int (0 : Int32)], σ)) (ps := []) rfl trivial) ?_
      exact Go_reti bk_Md_areBounds 16 rfl
def Md_areBounds_L4 (v1 : Int32) (σ : MH) (s : Int32 × Int32) : Option ((Int32) ⊕ (Int32)) := itr (fun s : Int32 × Int32 => Md_areBounds_l4 v1 s.1 s.2 σ) FU s
set_option maxRecDepth 20000 in
set_option maxHeartbeats 2000000 in
theorem t_Md_areBounds_L4 (v1 : Int32)  (σ : MH) (s : Int32 × Int32) {r} (h : Md_areBounds_L4 v1 σ s = some r) : Go m_Md_areBounds 2 (cH_Md_areBounds_4 v1 σ s) (cR_Md_areBounds_4 v1 σ r) := Go_itr (fun s o ho => t_Md_areBounds_l4 v1 s.1 s.2 σ ho) FU s r h
def cH_Md_areBounds_43 (v1 : Int32) (v2 : Int32) (σ : MH) (s : Int32) : MC := (some 43, [some (.ref 166), some (.int v1), some (.int v2), some (.int s), none], [], σ)
def cR_Md_areBounds_43 (v1 : Int32) (v2 : Int32) (σ : MH) : ((Unit) ⊕ (Int32)) → MC := (cS (fun r : Unit => ((some 99, [none, none, some (.int v2), none, none], [], σ) : MC)) (fun r : Int32 => ((none, [], [.int r], σ) : MC)))
def cH_Md_areBounds_51 (v1 : Int32) (v2 : Int32) (v3 : Int32) (σ : MH) (s : Int32) : MC := (some 51, [some (.ref 166), some (.int v1), some (.int v2), some (.int v3), some (.int s)], [], σ)
def cR_Md_areBounds_51 (v1 : Int32) (v2 : Int32) (v3 : Int32) (σ : MH) : ((Unit) ⊕ (Int32)) → MC := (cS (fun r : Unit => ((some 93, [some (.ref 166), some (.int v1), some (.int v2), some (.int v3), none], [], σ) : MC)) (fun r : Int32 => ((none, [], [.int r], σ) : MC)))
def Md_areBounds_b87 (v1 : Int32) (v2 : Int32) (v3 : Int32) (v4 : Int32) (σ : MH) : Option (((Int32) ⊕ ((Unit) ⊕ (Int32)))) := some (.inl (v4 + (1 : Int32)))
set_option maxRecDepth 20000 in
set_option maxHeartbeats 2000000 in
theorem t_Md_areBounds_b87 (v1 : Int32) (v2 : Int32) (v3 : Int32) (v4 : Int32)   (σ : MH) {o} (h : Md_areBounds_b87 v1 v2 v3 v4 σ = some o) : Go m_Md_areBounds 2 (some 87, [some (.ref 166), some (.int v1), some (.int v2), some (.int v3), some (.int v4)], [], σ) (cS (cH_Md_areBounds_51 v1 v2 v3 σ) (cR_Md_areBounds_51 v1 v2 v3 σ) o) := by
  unfold Md_areBounds_b87 at h
  refine Go.t (Go_sg bk_Md_areBounds 55 2 (c2 := (some 51, [some (.ref 166), some (.int v1), some (.int v2), some (.int v3), some (.int (v4 + (1 : Int32)))], [], σ)) (ps := []) rfl trivial) ?_
  have h := Option.some.inj h
  subst h
  exact Go.fg (LSub.cs (LSub.cs (LSub.cs (LSub.cs (LSub.cs (LSub.nil))))))
def Md_areBounds_l51 (v1 : Int32) (v2 : Int32) (v3 : Int32) (v4 : Int32) (σ : MH) : Option (((Int32) ⊕ ((Unit) ⊕ (Int32)))) := if v1 ≤ v4 then some (.inr (.inl ())) else (if v3 = v4 then (Md_areBounds_b87 v1 v2 v3 v4 σ) else (if inb ((v1 + (v1 * v3)) + v4) 260 = true then (Md_in (σ.1 170 ((v1 + (v1 * v3)) + v4).toNatClampNeg) (1 : Int32) (20 : Int32) σ).bind fun x10 => if x10 = (0 : Int32) then some (.inr (.inr ((0 : Int32)))) else (Md_areBounds_b87 v1 v2 v3 v4 σ) else none))
set_option maxRecDepth 20000 in
set_option maxHeartbeats 2000000 in
theorem t_Md_areBounds_l51 (v1 : Int32) (v2 : Int32) (v3 : Int32) (v4 : Int32)  (σ : MH) {o} (h : Md_areBounds_l51 v1 v2 v3 v4 σ = some o) : Go m_Md_areBounds 2 (cH_Md_areBounds_51 v1 v2 v3 σ (v4)) (cS (cH_Md_areBounds_51 v1 v2 v3 σ) (cR_Md_areBounds_51 v1 v2 v3 σ) o) := by
  unfold Md_areBounds_l51 at h
  unfold cH_Md_areBounds_51
  refine Go.t (Go_sg bk_Md_areBounds 33 2 (c2 := (some 54, [some (.ref 166), some (.int v1), some (.int v2), some (.int v3), some (.int v4)], [.int v1, .int v4], σ)) (ps := []) rfl trivial) ?_
  refine Go_icmp_ge bk_Md_areBounds 35 rfl (fun c15 => ?_) (fun c15 => ?_)
  · have h := ifT c15 h
    have h := Option.some.inj h
    subst h
    exact Go.fg (LSub.cs (LSub.cs (LSub.cs (LSub.cs (LSub.cn (LSub.nil))))))
  · have h := ifF c15 h
    refine Go.t (Go_sg bk_Md_areBounds 36 2 (c2 := (some 60, [some (.ref 166), some (.int v1), some (.int v2), some (.int v3), some (.int v4)], [.int v4, .int v3], σ)) (ps := []) rfl trivial) ?_
    refine Go_icmp_eq bk_Md_areBounds 38 rfl (fun c14 => ?_) (fun c14 => ?_)
    · have h := ifT c14 h
      exact Go.t (Go.fg (LSub.cs (LSub.cs (LSub.cs (LSub.cs (LSub.cs (LSub.nil))))))) (t_Md_areBounds_b87 v1 v2 v3 v4 σ h)
    · have h := ifF c14 h
      obtain ⟨g9, h⟩ := gdS h
      refine Go.t (Go_sg bk_Md_areBounds 39 12 (c2 := (some 79, [some (.ref 166), some (.int v1), some (.int v2), some (.int v3), some (.int v4)], [.int (20 : Int32), .int (1 : Int32), .int (σ.1 170 ((v1 + (v1 * v3)) + v4).toNatClampNeg)], σ)) (ps := [shk 166 = 11, IB 170 260 ∧ inb ((v1 + (v1 * v3)) + v4) 260 = true]) rfl ⟨rfl, ⟨⟨rfl, rfl⟩, g9⟩, trivial⟩) ?_
      obtain ⟨x10, q12, h⟩ := bdS h
      refine Go.t (Go_callS bk_Md_areBounds 51 rfl nk_Md_in tw1370 tw1371 (as := [.int (σ.1 170 ((v1 + (v1 * v3)) + v4).toNatClampNeg), .int (1 : Int32), .int (20 : Int32)]) (S := []) rfl rfl rfl (Nat.le_of_ble_eq_true rfl) (Nat.le_of_ble_eq_true rfl) (ev_Md_in _ _ _ _ q12)) ?_
      refine Go_if_ne bk_Md_areBounds 52 rfl (fun c13 => ?_) (fun c13 => ?_)
      · have h := ifF c13 h
        exact Go.t (Go.fg (LSub.cs (LSub.cs (LSub.cs (LSub.cs (LSub.cs (LSub.nil))))))) (t_Md_areBounds_b87 v1 v2 v3 v4 σ h)
      · have h := ifT c13 h
        have h := Option.some.inj h
        subst h
        refine Go.t (Go_sg bk_Md_areBounds 53 1 (c2 := (some 86, [some (.ref 166), some (.int v1), some (.int v2), some (.int v3), some (.int v4)], [.int (0 : Int32)], σ)) (ps := []) rfl trivial) ?_
        exact Go_reti bk_Md_areBounds 54 rfl
def Md_areBounds_L51 (v1 : Int32) (v2 : Int32) (v3 : Int32) (σ : MH) (s : Int32) : Option ((Unit) ⊕ (Int32)) := itr (fun s : Int32 => Md_areBounds_l51 v1 v2 v3 s σ) FU s
set_option maxRecDepth 20000 in
set_option maxHeartbeats 2000000 in
theorem t_Md_areBounds_L51 (v1 : Int32) (v2 : Int32) (v3 : Int32)  (σ : MH) (s : Int32) {r} (h : Md_areBounds_L51 v1 v2 v3 σ s = some r) : Go m_Md_areBounds 2 (cH_Md_areBounds_51 v1 v2 v3 σ s) (cR_Md_areBounds_51 v1 v2 v3 σ r) := Go_itr (fun s o ho => t_Md_areBounds_l51 v1 v2 v3 s σ ho) FU s r h
def Md_areBounds_l43 (v1 : Int32) (v2 : Int32) (v3 : Int32) (σ : MH) : Option (((Int32) ⊕ ((Unit) ⊕ (Int32)))) := if v1 ≤ v3 then some (.inr (.inl ())) else ((Md_areBounds_L51 v1 v2 v3 σ ((0 : Int32))).bind fun z16 => (match z16 with | .inl z16a => some (.inl (v3 + (1 : Int32))) | .inr z16b => some (.inr (.inr (z16b)))))
set_option maxRecDepth 20000 in
set_option maxHeartbeats 2000000 in
theorem t_Md_areBounds_l43 (v1 : Int32) (v2 : Int32) (v3 : Int32)  (σ : MH) {o} (h : Md_areBounds_l43 v1 v2 v3 σ = some o) : Go m_Md_areBounds 2 (cH_Md_areBounds_43 v1 v2 σ (v3)) (cS (cH_Md_areBounds_43 v1 v2 σ) (cR_Md_areBounds_43 v1 v2 σ) o) := by
  unfold Md_areBounds_l43 at h
  unfold cH_Md_areBounds_43
  refine Go.t (Go_sg bk_Md_areBounds 28 2 (c2 := (some 45, [some (.ref 166), some (.int v1), some (.int v2), some (.int v3), none], [.int v1, .int v3], σ)) (ps := []) rfl trivial) ?_
  refine Go_icmp_ge bk_Md_areBounds 30 rfl (fun c18 => ?_) (fun c18 => ?_)
  · have h := ifT c18 h
    have h := Option.some.inj h
    subst h
    exact Go.fg (LSub.cn (LSub.cn (LSub.cs (LSub.cn (LSub.cn (LSub.nil))))))
  · have h := ifF c18 h
    refine Go.t (Go_sg bk_Md_areBounds 31 2 (c2 := (some 51, [some (.ref 166), some (.int v1), some (.int v2), some (.int v3), some (.int (0 : Int32))], [], σ)) (ps := []) rfl trivial) ?_
    obtain ⟨z16, q17, h⟩ := bdS h
    refine Go.t (Go.t (Go.fg (LSub.cs (LSub.cs (LSub.cs (LSub.cs (LSub.cs (LSub.nil))))))) (t_Md_areBounds_L51 v1 v2 v3 σ _ q17)) ?_
    rcases z16 with z16a | z16b
    · dsimp only at h
      refine Go.t (Go_sg bk_Md_areBounds 57 2 (c2 := (some 43, [some (.ref 166), some (.int v1), some (.int v2), some (.int (v3 + (1 : Int32))), none], [], σ)) (ps := []) rfl trivial) ?_
      have h := Option.some.inj h
      subst h
      exact Go.fg (LSub.cs (LSub.cs (LSub.cs (LSub.cs (LSub.cn (LSub.nil))))))
    · dsimp only at h
      have h := Option.some.inj h
      subst h
      exact Go.rf
def Md_areBounds_L43 (v1 : Int32) (v2 : Int32) (σ : MH) (s : Int32) : Option ((Unit) ⊕ (Int32)) := itr (fun s : Int32 => Md_areBounds_l43 v1 v2 s σ) FU s
set_option maxRecDepth 20000 in
set_option maxHeartbeats 2000000 in
theorem t_Md_areBounds_L43 (v1 : Int32) (v2 : Int32)  (σ : MH) (s : Int32) {r} (h : Md_areBounds_L43 v1 v2 σ s = some r) : Go m_Md_areBounds 2 (cH_Md_areBounds_43 v1 v2 σ s) (cR_Md_areBounds_43 v1 v2 σ r) := Go_itr (fun s o ho => t_Md_areBounds_l43 v1 v2 s σ ho) FU s r h
def Md_areBounds0 (v1 : Int32) (σ : MH) : Option (Int32) := (Md_areBounds_L4 v1 σ ((0 : Int32), (0 : Int32))).bind fun z7 => (match z7 with | .inl z7a => (Md_areBounds_L43 v1 z7a σ ((0 : Int32))).bind fun z19 => (match z19 with | .inl z19a => if z7a ≤ (0 : Int32) then some ((0 : Int32)) else some ((1 : Int32)) | .inr z19b => some (z19b)) | .inr z7b => some (z7b))
set_option maxRecDepth 20000 in
set_option maxHeartbeats 2000000 in
theorem t_Md_areBounds0 (v1 : Int32)  (σ : MH) {o} (h : Md_areBounds0 v1 σ = some o) : Go m_Md_areBounds 2 (some 0, [some (.ref 166), some (.int v1), none, none, none], [], σ) ((none, [], [.int o], σ)) := by
  unfold Md_areBounds0 at h
  refine Go.t (Go_sg bk_Md_areBounds 0 4 (c2 := (some 4, [some (.ref 166), some (.int v1), some (.int (0 : Int32)), some (.int (0 : Int32)), none], [], σ)) (ps := []) rfl trivial) ?_
  obtain ⟨z7, q8, h⟩ := bdS h
  refine Go.t (Go.t (Go.fg (LSub.cs (LSub.cs (LSub.cs (LSub.cs (LSub.cn (LSub.nil))))))) (t_Md_areBounds_L4 v1 σ _ q8)) ?_
  rcases z7 with z7a | z7b
  · dsimp only at h
    refine Go.t (Go_sg bk_Md_areBounds 26 2 (c2 := (some 43, [some (.ref 166), some (.int v1), some (.int z7a), some (.int (0 : Int32)), none], [], σ)) (ps := []) rfl trivial) ?_
    obtain ⟨z19, q20, h⟩ := bdS h
    refine Go.t (Go.t (Go.fg (LSub.cs (LSub.cs (LSub.cs (LSub.cs (LSub.cn (LSub.nil))))))) (t_Md_areBounds_L43 v1 z7a σ _ q20)) ?_
    rcases z19 with z19a | z19b
    · dsimp only at h
      refine Go.t (Go_sg bk_Md_areBounds 59 1 (c2 := (some 100, [none, none, some (.int z7a), none, none], [.int z7a], σ)) (ps := []) rfl trivial) ?_
      refine Go_if_le bk_Md_areBounds 60 rfl (fun c21 => ?_) (fun c21 => ?_)
      · have h := ifT c21 h
        have h := Option.some.inj h
        subst h
        refine Go.t (Go_sg bk_Md_areBounds 63 1 (c2 := (some 108, [none, none, some (.int z7a), none, none], [.int (0 : Int32)], σ)) (ps := []) rfl trivial) ?_
        exact Go_reti bk_Md_areBounds 64 rfl
      · have h := ifF c21 h
        refine Go.t (Go_sg bk_Md_areBounds 61 2 (c2 := (some 108, [none, none, some (.int z7a), none, none], [.int (1 : Int32)], σ)) (ps := []) rfl trivial) ?_
        have h := Option.some.inj h
        subst h
        exact Go_reti bk_Md_areBounds 64 rfl
    · dsimp only at h
      have h := Option.some.inj h
      subst h
      exact Go.rf
  · dsimp only at h
    have h := Option.some.inj h
    subst h
    exact Go.rf
def Md_areBounds (v1 : Int32) (σ : MH) : Option (Int32) := bzp (Md_areBounds0 v1 σ)
set_option maxRecDepth 20000 in
set_option maxHeartbeats 2000000 in
theorem ev_Md_areBounds (v1 : Int32)  (σ : MH) {o} (h : Md_areBounds v1 σ = some o) : Ev m_Md_areBounds 2 [.ref 166, .int v1] σ (some (.int o)) σ := Ev.of2 (by decide +kernel) rfl (Nat.le_of_ble_eq_true rfl) ⟨.boolean, rfl, nrB (bzp2 h)⟩ (t_Md_areBounds0 v1 σ (bzp1 h))
def cH_Md_readsRow_17 (v1 : Int32) (s : Int32 × Int32 × Int32 × MH) : MC := (some 17, [some (.ref 166), some (.int v1), none, some (.int s.1), some (.int s.2.1), some (.int s.2.2.1)], [], s.2.2.2)
def cR_Md_readsRow_17 (v1 : Int32) : ((Int32 × MH)) → MC := (fun r : Int32 × MH => ((none, [], [.int r.1], r.2) : MC))
def Md_readsRow_l17 (v1 : Int32) (v3 : Int32) (v4 : Int32) (v5 : Int32) (σ : MH) : Option (((Int32 × Int32 × Int32 × MH) ⊕ ((Int32 × MH)))) := if v5 ≤ (0 : Int32) then some (.inr ((1 : Int32), σ)) else (if (v1 != 0) = true then if inb v5 6 = true then (Md_has v4 ((sI σ 192 v5.toNatClampNeg (jrem v3 v1)).1 192 v5.toNatClampNeg) (sI σ 192 v5.toNatClampNeg (jrem v3 v1))).bind fun x3 => if x3 = (0 : Int32) then some (.inl (v3 / v1, v4 ||| (jshl (1 : Int32) ((sI σ 192 v5.toNatClampNeg (jrem v3 v1)).1 192 v5.toNatClampNeg)), v5 + (-1 : Int32), sI σ 192 v5.toNatClampNeg (jrem v3 v1))) else some (.inr ((0 : Int32), sI σ 192 v5.toNatClampNeg (jrem v3 v1))) else none else none)
set_option maxRecDepth 20000 in
set_option maxHeartbeats 2000000 in
theorem t_Md_readsRow_l17 (v1 : Int32) (v3 : Int32) (v4 : Int32) (v5 : Int32)  (σ : MH) {o} (h : Md_readsRow_l17 v1 v3 v4 v5 σ = some o) : Go m_Md_readsRow 2 (cH_Md_readsRow_17 v1 (v3, v4, v5, σ)) (cS (cH_Md_readsRow_17 v1) (cR_Md_readsRow_17 v1) o) := by
  unfold Md_readsRow_l17 at h
  unfold cH_Md_readsRow_17
  refine Go.t (Go_sg bk_Md_readsRow 13 1 (c2 := (some 19, [some (.ref 166), some (.int v1), none, some (.int v3), some (.int v4), some (.int v5)], [.int v5], σ)) (ps := []) rfl trivial) ?_
  refine Go_if_le bk_Md_readsRow 14 rfl (fun c7 => ?_) (fun c7 => ?_)
  · have h := ifT c7 h
    have h := Option.some.inj h
    subst h
    refine Go.t (Go_sg bk_Md_readsRow 46 1 (c2 := (some 74, [some (.ref 166), some (.int v1), none, some (.int v3), some (.int v4), some (.int v5)], [.int (1 : Int32)], σ)) (ps := []) rfl trivial) ?_
    exact Go_reti bk_Md_readsRow 47 rfl
  · have h := ifF c7 h
    obtain ⟨g1, h⟩ := gdS h
    obtain ⟨g2, h⟩ := gdS h
    refine Go.t (Go_sg bk_Md_readsRow 15 16 (c2 := (some 45, [some (.ref 166), some (.int v1), none, some (.int (v3 / v1)), some (.int v4), some (.int v5)], [.int ((sI σ 192 v5.toNatClampNeg (jrem v3 v1)).1 192 v5.toNatClampNeg), .int v4], sI σ 192 v5.toNatClampNeg (jrem v3 v1))) (ps := [shk 166 = 11, v1 ≠ 0, IA 192 6 ∧ inb v5 6 = true, v1 ≠ 0, shk 166 = 11, IA 192 6 ∧ inb v5 6 = true]) rfl ⟨rfl, (nzB g1), ⟨⟨rfl, rfl⟩, g2⟩, (nzB g1), rfl, ⟨⟨rfl, rfl⟩, g2⟩, trivial⟩) ?_
    obtain ⟨x3, q5, h⟩ := bdS h
    refine Go.t (Go_callS bk_Md_readsRow 31 rfl nk_Md_has tw1367 tw1368 (as := [.int v4, .int ((sI σ 192 v5.toNatClampNeg (jrem v3 v1)).1 192 v5.toNatClampNeg)]) (S := []) rfl rfl rfl (Nat.le_of_ble_eq_true rfl) (Nat.le_of_ble_eq_true rfl) (ev_Md_has _ _ _ q5)) ?_
    refine Go_if_eq bk_Md_readsRow 32 rfl (fun c6 => ?_) (fun c6 => ?_)
    · have h := ifT c6 h
      refine Go.t (Go_sg bk_Md_readsRow 35 11 (c2 := (some 17, [some (.ref 166), some (.int v1), none, some (.int (v3 / v1)), some (.int (v4 ||| (jshl (1 : Int32) ((sI σ 192 v5.toNatClampNeg (jrem v3 v1)).1 192 v5.toNatClampNeg)))), some (.int (v5 + (-1 : Int32)))], [], sI σ 192 v5.toNatClampNeg (jrem v3 v1))) (ps := [shk 166 = 11, IA 192 6 ∧ inb v5 6 = true]) rfl ⟨rfl, ⟨⟨rfl, rfl⟩, g2⟩, trivial⟩) ?_
      have h := Option.some.inj h
      subst h
      exact Go.fg (LSub.cs (LSub.cs (LSub.cn (LSub.cs (LSub.cs (LSub.cs (LSub.nil)))))))
    · have h := ifF c6 h
      have h := Option.some.inj h
      subst h
      refine Go.t (Go_sg bk_Md_readsRow 33 1 (c2 := (some 52, [some (.ref 166), some (.int v1), none, some (.int (v3 / v1)), some (.int v4), some (.int v5)], [.int (0 : Int32)], sI σ 192 v5.toNatClampNeg (jrem v3 v1))) (ps := []) rfl trivial) ?_
      exact Go_reti bk_Md_readsRow 34 rfl
def Md_readsRow_L17 (v1 : Int32) (s : Int32 × Int32 × Int32 × MH) : Option ((Int32 × MH)) := itr (fun s : Int32 × Int32 × Int32 × MH => Md_readsRow_l17 v1 s.1 s.2.1 s.2.2.1 s.2.2.2) FU s
set_option maxRecDepth 20000 in
set_option maxHeartbeats 2000000 in
theorem t_Md_readsRow_L17 (v1 : Int32)  (s : Int32 × Int32 × Int32 × MH) {r} (h : Md_readsRow_L17 v1 s = some r) : Go m_Md_readsRow 2 (cH_Md_readsRow_17 v1 s) (cR_Md_readsRow_17 v1 r) := Go_itr (fun s o ho => t_Md_readsRow_l17 v1 s.1 s.2.1 s.2.2.1 s.2.2.2 ho) FU s r h
def Md_readsRow0 (v1 : Int32) (v2 : Int32) (σ : MH) : Option (Int32 × MH) := (Md_readsRow_L17 v1 (v2, (1 : Int32), v1 - (1 : Int32), sI σ 192 0 (0 : Int32))).bind fun z8 => some (z8.1, z8.2)
set_option maxRecDepth 20000 in
set_option maxHeartbeats 2000000 in
theorem t_Md_readsRow0 (v1 : Int32) (v2 : Int32)  (σ : MH) {o} (h : Md_readsRow0 v1 v2 σ = some o) : Go m_Md_readsRow 2 (some 0, [some (.ref 166), some (.int v1), some (.int v2), none, none, none], [], σ) ((none, [], [.int o.1], o.2)) := by
  unfold Md_readsRow0 at h
  refine Go.t (Go_sg bk_Md_readsRow 0 13 (c2 := (some 17, [some (.ref 166), some (.int v1), some (.int v2), some (.int v2), some (.int (1 : Int32)), some (.int (v1 - (1 : Int32)))], [], sI σ 192 0 (0 : Int32))) (ps := [shk 166 = 11, IA 192 6 ∧ inb (0 : Int32) 6 = true]) rfl ⟨rfl, ⟨⟨rfl, rfl⟩, (inbN 0 6 rfl)⟩, trivial⟩) ?_
  obtain ⟨z8, q9, h⟩ := bdS h
  refine Go.t (Go.t (Go.fg (LSub.cs (LSub.cs (LSub.cn (LSub.cs (LSub.cs (LSub.cs (LSub.nil)))))))) (t_Md_readsRow_L17 v1 _ q9)) ?_
  have h := Option.some.inj h
  subst h
  exact Go.rf
def Md_readsRow (v1 : Int32) (v2 : Int32) (σ : MH) : Option (Int32 × MH) := bzo (Md_readsRow0 v1 v2 σ)
set_option maxRecDepth 20000 in
set_option maxHeartbeats 2000000 in
theorem ev_Md_readsRow (v1 : Int32) (v2 : Int32)  (σ : MH) {o} (h : Md_readsRow v1 v2 σ = some o) : Ev m_Md_readsRow 2 [.ref 166, .int v1, .int v2] σ (some (.int o.1)) o.2 := Ev.of2 (by decide +kernel) rfl (Nat.le_of_ble_eq_true rfl) ⟨.boolean, rfl, nrB (bzo2 h)⟩ (t_Md_readsRow0 v1 v2 σ (bzo1 h))
def cH_Md_sumBy_7 (v1 : Int32) (σ : MH) (s : Int32 × Int32 × Int32) : MC := (some 7, [some (.ref 166), some (.int v1), some (.int s.1), some (.int s.2.1), some (.int s.2.2)], [], σ)
def cR_Md_sumBy_7 (v1 : Int32) (σ : MH) : ((Int32)) → MC := (fun r : Int32 => ((none, [], [.int r], σ) : MC))
def Md_sumBy_l7 (v1 : Int32) (v2 : Int32) (v3 : Int32) (v4 : Int32) (σ : MH) : Option (((Int32 × Int32 × Int32) ⊕ ((Int32)))) := if v1 ≤ v4 then some (.inr (v3)) else (if inb (v4 - (1 : Int32)) 6 = true then if inb v4 6 = true then if inb ((v1 + (v1 * (σ.1 192 (v4 - (1 : Int32)).toNatClampNeg))) + (σ.1 192 v4.toNatClampNeg)) 260 = true then if inb (σ.1 192 v4.toNatClampNeg) 260 = true then some (.inl (v2 + (σ.1 170 ((v1 + (v1 * (σ.1 192 (v4 - (1 : Int32)).toNatClampNeg))) + (σ.1 192 v4.toNatClampNeg)).toNatClampNeg), v3 + ((v2 + (σ.1 170 ((v1 + (v1 * (σ.1 192 (v4 - (1 : Int32)).toNatClampNeg))) + (σ.1 192 v4.toNatClampNeg)).toNatClampNeg)) * (σ.1 170 (σ.1 192 v4.toNatClampNeg).toNatClampNeg)), v4 + (1 : Int32))) else none else none else none else none)
set_option maxRecDepth 20000 in
set_option maxHeartbeats 2000000 in
theorem t_Md_sumBy_l7 (v1 : Int32) (v2 : Int32) (v3 : Int32) (v4 : Int32)  (σ : MH) {o} (h : Md_sumBy_l7 v1 v2 v3 v4 σ = some o) : Go m_Md_sumBy 1 (cH_Md_sumBy_7 v1 σ (v2, v3, v4)) (cS (cH_Md_sumBy_7 v1 σ) (cR_Md_sumBy_7 v1 σ) o) := by
  unfold Md_sumBy_l7 at h
  unfold cH_Md_sumBy_7
  refine Go.t (Go_sg bk_Md_sumBy 6 2 (c2 := (some 10, [some (.ref 166), some (.int v1), some (.int v2), some (.int v3), some (.int v4)], [.int v1, .int v4], σ)) (ps := []) rfl trivial) ?_
  refine Go_icmp_ge bk_Md_sumBy 8 rfl (fun c5 => ?_) (fun c5 => ?_)
  · have h := ifT c5 h
    have h := Option.some.inj h
    subst h
    refine Go.t (Go_sg bk_Md_sumBy 44 1 (c2 := (some 66, [some (.ref 166), some (.int v1), some (.int v2), some (.int v3), some (.int v4)], [.int v3], σ)) (ps := []) rfl trivial) ?_
    exact Go_reti bk_Md_sumBy 45 rfl
  · have h := ifF c5 h
    obtain ⟨g1, h⟩ := gdS h
    obtain ⟨g2, h⟩ := gdS h
    obtain ⟨g3, h⟩ := gdS h
    obtain ⟨g4, h⟩ := gdS h
    refine Go.t (Go_sg bk_Md_sumBy 9 35 (c2 := (some 7, [some (.ref 166), some (.int v1), some (.int (v2 + (σ.1 170 ((v1 + (v1 * (σ.1 192 (v4 - (1 : Int32)).toNatClampNeg))) + (σ.1 192 v4.toNatClampNeg)).toNatClampNeg))), some (.int (v3 + ((v2 + (σ.1 170 ((v1 + (v1 * (σ.1 192 (v4 - (1 : Int32)).toNatClampNeg))) + (σ.1 192 v4.toNatClampNeg)).toNatClampNeg)) * (σ.1 170 (σ.1 192 v4.toNatClampNeg).toNatClampNeg)))), some (.int (v4 + (1 : Int32)))], [], σ)) (ps := [shk 166 = 11, shk 166 = 11, IA 192 6 ∧ inb (v4 - (1 : Int32)) 6 = true, shk 166 = 11, IA 192 6 ∧ inb v4 6 = true, IB 170 260 ∧ inb ((v1 + (v1 * (σ.1 192 (v4 - (1 : Int32)).toNatClampNeg))) + (σ.1 192 v4.toNatClampNeg)) 260 = true, shk 166 = 11, shk 166 = 11, IA 192 6 ∧ inb v4 6 = true, IB 170 260 ∧ inb (σ.1 192 v4.toNatClampNeg) 260 = true]) rfl ⟨rfl, rfl, ⟨⟨rfl, rfl⟩, g1⟩, rfl, ⟨⟨rfl, rfl⟩, g2⟩, ⟨⟨rfl, rfl⟩, g3⟩, rfl, rfl, ⟨⟨rfl, rfl⟩, g2⟩, ⟨⟨rfl, rfl⟩, g4⟩, trivial⟩) ?_
    have h := Option.some.inj h
    subst h
    exact Go.fg (LSub.cs (LSub.cs (LSub.cs (LSub.cs (LSub.cs (LSub.nil))))))
def Md_sumBy_L7 (v1 : Int32) (σ : MH) (s : Int32 × Int32 × Int32) : Option ((Int32)) := itr (fun s : Int32 × Int32 × Int32 => Md_sumBy_l7 v1 s.1 s.2.1 s.2.2 σ) FU s
set_option maxRecDepth 20000 in
set_option maxHeartbeats 2000000 in
theorem t_Md_sumBy_L7 (v1 : Int32)  (σ : MH) (s : Int32 × Int32 × Int32) {r} (h : Md_sumBy_L7 v1 σ s = some r) : Go m_Md_sumBy 1 (cH_Md_sumBy_7 v1 σ s) (cR_Md_sumBy_7 v1 σ r) := Go_itr (fun s o ho => t_Md_sumBy_l7 v1 s.1 s.2.1 s.2.2 σ ho) FU s r h
def Md_sumBy0 (v1 : Int32) (σ : MH) : Option (Int32) := (Md_sumBy_L7 v1 σ ((0 : Int32), (0 : Int32), (1 : Int32))).bind fun z6 => some (z6)
set_option maxRecDepth 20000 in
set_option maxHeartbeats 2000000 in
theorem t_Md_sumBy0 (v1 : Int32)  (σ : MH) {o} (h : Md_sumBy0 v1 σ = some o) : Go m_Md_sumBy 1 (some 0, [some (.ref 166), some (.int v1), none, none, none], [], σ) ((none, [], [.int o], σ)) := by
  unfold Md_sumBy0 at h
  refine Go.t (Go_sg bk_Md_sumBy 0 6 (c2 := (some 7, [some (.ref 166), some (.int v1), some (.int (0 : Int32)), some (.int (0 : Int32)), some (.int (1 : Int32))], [], σ)) (ps := []) rfl trivial) ?_
  obtain ⟨z6, q7, h⟩ := bdS h
  refine Go.t (Go.t (Go.fg (LSub.cs (LSub.cs (LSub.cs (LSub.cs (LSub.cs (LSub.nil))))))) (t_Md_sumBy_L7 v1 σ _ q7)) ?_
  have h := Option.some.inj h
  subst h
  exact Go.rf
def Md_sumBy (v1 : Int32) (σ : MH) : Option (Int32) := Md_sumBy0 v1 σ
set_option maxRecDepth 20000 in
set_option maxHeartbeats 2000000 in
theorem ev_Md_sumBy (v1 : Int32)  (σ : MH) {o} (h : Md_sumBy v1 σ = some o) : Ev m_Md_sumBy 1 [.ref 166, .int v1] σ (some (.int o)) σ := Ev.of2 (by decide +kernel) rfl (Nat.le_of_ble_eq_true rfl) ⟨.int, rfl, rfl⟩ (t_Md_sumBy0 v1 σ h)
def cH_Md_gcd_4  (σ : MH) (s : Int32 × Int32) : MC := (some 4, [none, none, some (.int s.1), some (.int s.2), none], [], σ)
def cR_Md_gcd_4  (σ : MH) : ((Int32)) → MC := (fun r : Int32 => ((none, [], [.int r], σ) : MC))
def Md_gcd_l4 (v2 : Int32) (v3 : Int32) (σ : MH) : Option (((Int32 × Int32) ⊕ ((Int32)))) := if v3 = (0 : Int32) then some (.inr (v2)) else (if (v3 != 0) = true then some (.inl (v3, jrem v2 v3)) else none)
set_option maxRecDepth 20000 in
set_option maxHeartbeats 2000000 in
theorem t_Md_gcd_l4 (v2 : Int32) (v3 : Int32)  (σ : MH) {o} (h : Md_gcd_l4 v2 v3 σ = some o) : Go m_Md_gcd 1 (cH_Md_gcd_4 σ (v2, v3)) (cS (cH_Md_gcd_4  σ) (cR_Md_gcd_4  σ) o) := by
  unfold Md_gcd_l4 at h
  unfold cH_Md_gcd_4
  refine Go.t (Go_sg bk_Md_gcd 4 1 (c2 := (some 5, [none, none, some (.int v2), some (.int v3), none], [.int v3], σ)) (ps := []) rfl trivial) ?_
  refine Go_if_eq bk_Md_gcd 5 rfl (fun c2 => ?_) (fun c2 => ?_)
  · have h := ifT c2 h
    have h := Option.some.inj h
    subst h
    refine Go.t (Go_sg bk_Md_gcd 15 1 (c2 := (some 22, [none, none, some (.int v2), some (.int v3), none], [.int v2], σ)) (ps := []) rfl trivial) ?_
    exact Go_reti bk_Md_gcd 16 rfl
  · have h := ifF c2 h
    obtain ⟨g1, h⟩ := gdS h
    refine Go.t (Go_sg bk_Md_gcd 6 9 (c2 := (some 4, [none, none, some (.int v3), some (.int (jrem v2 v3)), some (.int (jrem v2 v3))], [], σ)) (ps := [v3 ≠ 0]) rfl ⟨(nzB g1), trivial⟩) ?_
    have h := Option.some.inj h
    subst h
    exact Go.fg (LSub.cn (LSub.cn (LSub.cs (LSub.cs (LSub.cn (LSub.nil))))))
def Md_gcd_L4  (σ : MH) (s : Int32 × Int32) : Option ((Int32)) := itr (fun s : Int32 × Int32 => Md_gcd_l4 s.1 s.2 σ) FU s
set_option maxRecDepth 20000 in
set_option maxHeartbeats 2000000 in
theorem t_Md_gcd_L4   (σ : MH) (s : Int32 × Int32) {r} (h : Md_gcd_L4 σ s = some r) : Go m_Md_gcd 1 (cH_Md_gcd_4 σ s) (cR_Md_gcd_4 σ r) := Go_itr (fun s o ho => t_Md_gcd_l4 s.1 s.2 σ ho) FU s r h
def Md_gcd0 (v0 : Int32) (v1 : Int32) (σ : MH) : Option (Int32) := (Md_gcd_L4 σ (v0, v1)).bind fun z3 => some (z3)
set_option maxRecDepth 20000 in
set_option maxHeartbeats 2000000 in
theorem t_Md_gcd0 (v0 : Int32) (v1 : Int32)  (σ : MH) {o} (h : Md_gcd0 v0 v1 σ = some o) : Go m_Md_gcd 1 (some 0, [some (.int v0), some (.int v1), none, none, none], [], σ) ((none, [], [.int o], σ)) := by
  unfold Md_gcd0 at h
  refine Go.t (Go_sg bk_Md_gcd 0 4 (c2 := (some 4, [some (.int v0), some (.int v1), some (.int v0), some (.int v1), none], [], σ)) (ps := []) rfl trivial) ?_
  obtain ⟨z3, q4, h⟩ := bdS h
  refine Go.t (Go.t (Go.fg (LSub.cn (LSub.cn (LSub.cs (LSub.cs (LSub.cn (LSub.nil))))))) (t_Md_gcd_L4 σ _ q4)) ?_
  have h := Option.some.inj h
  subst h
  exact Go.rf
def Md_gcd (v0 : Int32) (v1 : Int32) (σ : MH) : Option (Int32) := Md_gcd0 v0 v1 σ
set_option maxRecDepth 20000 in
set_option maxHeartbeats 2000000 in
theorem ev_Md_gcd (v0 : Int32) (v1 : Int32)  (σ : MH) {o} (h : Md_gcd v0 v1 σ = some o) : Ev m_Md_gcd 1 [.int v0, .int v1] σ (some (.int o)) σ := Ev.of2 (by decide +kernel) rfl (Nat.le_of_ble_eq_true rfl) ⟨.int, rfl, rfl⟩ (t_Md_gcd0 v0 v1 σ h)
def cH_Md_search_70 (v1 : Int32) (v2 : Int32) (σ : MH) (s : Int32 × Int32) : MC := (some 70, [some (.ref 166), some (.int v1), some (.int v2), some (.int s.1), some (.int s.2), none, none, none], [], σ)
def cR_Md_search_70 (v1 : Int32) (v2 : Int32) (σ : MH) : ((Int32)) → MC := (fun r : Int32 => ((some 86, [some (.ref 166), some (.int v1), some (.int v2), some (.int r), none, none, none, none], [], σ) : MC))
def Md_search_l70 (v1 : Int32) (v2 : Int32) (v3 : Int32) (v4 : Int32) (σ : MH) : Option (((Int32 × Int32) ⊕ ((Int32)))) := if v1 ≤ v4 then some (.inr (v3)) else some (.inl (v3 * v1, v4 + (1 : Int32)))
set_option maxRecDepth 20000 in
set_option maxHeartbeats 2000000 in
theorem t_Md_search_l70 (v1 : Int32) (v2 : Int32) (v3 : Int32) (v4 : Int32)  (σ : MH) {o} (h : Md_search_l70 v1 v2 v3 v4 σ = some o) : Go m_Md_search 3 (cH_Md_search_70 v1 v2 σ (v3, v4)) (cS (cH_Md_search_70 v1 v2 σ) (cR_Md_search_70 v1 v2 σ) o) := by
  unfold Md_search_l70 at h
  unfold cH_Md_search_70
  refine Go.t (Go_sg bk_Md_search 42 2 (c2 := (some 73, [some (.ref 166), some (.int v1), some (.int v2), some (.int v3), some (.int v4), none, none, none], [.int v1, .int v4], σ)) (ps := []) rfl trivial) ?_
  refine Go_icmp_ge bk_Md_search 44 rfl (fun c10 => ?_) (fun c10 => ?_)
  · have h := ifT c10 h
    have h := Option.some.inj h
    subst h
    exact Go.fg (LSub.cs (LSub.cs (LSub.cs (LSub.cs (LSub.cn (LSub.cn (LSub.cn (LSub.cn (LSub.nil)))))))))
  · have h := ifF c10 h
    refine Go.t (Go_sg bk_Md_search 45 6 (c2 := (some 70, [some (.ref 166), some (.int v1), some (.int v2), some (.int (v3 * v1)), some (.int (v4 + (1 : Int32))), none, none, none], [], σ)) (ps := []) rfl trivial) ?_
    have h := Option.some.inj h
    subst h
    exact Go.fg (LSub.cs (LSub.cs (LSub.cs (LSub.cs (LSub.cs (LSub.cn (LSub.cn (LSub.cn (LSub.nil)))))))))
def Md_search_L70 (v1 : Int32) (v2 : Int32) (σ : MH) (s : Int32 × Int32) : Option ((Int32)) := itr (fun s : Int32 × Int32 => Md_search_l70 v1 v2 s.1 s.2 σ) FU s
set_option maxRecDepth 20000 in
set_option maxHeartbeats 2000000 in
theorem t_Md_search_L70 (v1 : Int32) (v2 : Int32)  (σ : MH) (s : Int32 × Int32) {r} (h : Md_search_L70 v1 v2 σ s = some r) : Go m_Md_search 3 (cH_Md_search_70 v1 v2 σ s) (cR_Md_search_70 v1 v2 σ r) := Go_itr (fun s o ho => t_Md_search_l70 v1 v2 s.1 s.2 σ ho) FU s r h
def cH_Md_search_96 (v1 : Int32) (v2 : Int32) (v3 : Int32) (s : Int32 × Int32 × Int32 × MH) : MC := (some 96, [some (.ref 166), some (.int v1), some (.int v2), some (.int v3), some (.int s.1), some (.int s.2.1), some (.int s.2.2.1), none], [], s.2.2.2)
def cR_Md_search_96 (v1 : Int32) (v2 : Int32) (v3 : Int32) : ((Int32 × Int32 × MH)) → MC := (fun r : Int32 × Int32 × MH => ((some 142, [some (.ref 166), some (.int v1), some (.int v2), none, some (.int r.1), some (.int r.2.1), none, none], [], r.2.2) : MC))
def Md_search_b136 (v1 : Int32) (v2 : Int32) (v3 : Int32) (v4 : Int32) (v5 : Int32) (v6 : Int32) (σ : MH) : Option (((Int32 × Int32 × Int32 × MH) ⊕ ((Int32 × Int32 × MH)))) := some (.inl (v4, v5, v6 + (1 : Int32), σ))
set_option maxRecDepth 20000 in
set_option maxHeartbeats 2000000 in
theorem t_Md_search_b136 (v1 : Int32) (v2 : Int32) (v3 : Int32) (v4 : Int32) (v5 : Int32) (v6 : Int32)   (σ : MH) {o} (h : Md_search_b136 v1 v2 v3 v4 v5 v6 σ = some o) : Go m_Md_search 3 (some 136, [some (.ref 166), some (.int v1), some (.int v2), some (.int v3), some (.int v4), some (.int v5), some (.int v6), none], [], σ) (cS (cH_Md_search_96 v1 v2 v3) (cR_Md_search_96 v1 v2 v3) o) := by
  unfold Md_search_b136 at h
  refine Go.t (Go_sg bk_Md_search 77 2 (c2 := (some 96, [some (.ref 166), some (.int v1), some (.int v2), some (.int v3), some (.int v4), some (.int v5), some (.int (v6 + (1 : Int32))), none], [], σ)) (ps := []) rfl trivial) ?_
  have h := Option.some.inj h
  subst h
  exact Go.fg (LSub.cs (LSub.cs (LSub.cs (LSub.cs (LSub.cs (LSub.cs (LSub.cs (LSub.cn (LSub.nil)))))))))
def Md_search_l96 (v1 : Int32) (v2 : Int32) (v3 : Int32) (v4 : Int32) (v5 : Int32) (v6 : Int32) (σ : MH) : Option (((Int32 × Int32 × Int32 × MH) ⊕ ((Int32 × Int32 × MH)))) := if v3 ≤ v6 then some (.inr (v4, v5, σ)) else ((Md_readsRow v1 v6 σ).bind fun (x13, σ14) => if x13 = (0 : Int32) then (Md_search_b136 v1 v2 v3 v4 v5 v6 σ14) else ((Md_sumBy v1 σ14).bind fun x16 => if x16 < v5 then ((Md_sumBy v1 σ14).bind fun x19 => Md_search_b136 v1 v2 v3 v6 x19 v6 σ14) else (Md_search_b136 v1 v2 v3 v4 v5 v6 σ14)))
set_option maxRecDepth 20000 in
set_option maxHeartbeats 2000000 in
theorem t_Md_search_l96 (v1 : Int32) (v2 : Int32) (v3 : Int32) (v4 : Int32) (v5 : Int32) (v6 : Int32)  (σ : MH) {o} (h : Md_search_l96 v1 v2 v3 v4 v5 v6 σ = some o) : Go m_Md_search 3 (cH_Md_search_96 v1 v2 v3 (v4, v5, v6, σ)) (cS (cH_Md_search_96 v1 v2 v3) (cR_Md_search_96 v1 v2 v3) o) := by
  unfold Md_search_l96 at h
  unfold cH_Md_search_96
  refine Go.t (Go_sg bk_Md_search 57 2 (c2 := (some 99, [some (.ref 166), some (.int v1), some (.int v2), some (.int v3), some (.int v4), some (.int v5), some (.int v6), none], [.int v3, .int v6], σ)) (ps := []) rfl trivial) ?_
  refine Go_icmp_ge bk_Md_search 59 rfl (fun c24 => ?_) (fun c24 => ?_)
  · have h := ifT c24 h
    have h := Option.some.inj h
    subst h
    exact Go.fg (LSub.cs (LSub.cs (LSub.cs (LSub.cn (LSub.cs (LSub.cs (LSub.cn (LSub.cn (LSub.nil)))))))))
  · have h := ifF c24 h
    refine Go.t (Go_sg bk_Md_search 60 3 (c2 := (some 106, [some (.ref 166), some (.int v1), some (.int v2), some (.int v3), some (.int v4), some (.int v5), some (.int v6), none], [.int v6, .int v1, .ref 166], σ)) (ps := []) rfl trivial) ?_
    obtain ⟨⟨x13, σ14⟩, q15, h⟩ := bdS h
    dsimp only at h
    refine Go.t (Go_callV bk_Md_search 63 rfl nk_Md_readsRow tw1688 tw1690 tw99 (ci := 11) rfl (as := [.int v1, .int v6]) (S := []) rfl rfl rfl rfl (Nat.le_of_ble_eq_true rfl) (Nat.le_of_ble_eq_true rfl) (ev_Md_readsRow _ _ _ q15)) ?_
    refine Go_if_eq bk_Md_search 64 rfl (fun c23 => ?_) (fun c23 => ?_)
    · have h := ifT c23 h
      exact Go.t (Go.fg (LSub.cs (LSub.cs (LSub.cs (LSub.cs (LSub.cs (LSub.cs (LSub.cs (LSub.cn (LSub.nil)))))))))) (t_Md_search_b136 v1 v2 v3 v4 v5 v6 σ14 h)
    · have h := ifF c23 h
      refine Go.t (Go_sg bk_Md_search 65 2 (c2 := (some 114, [some (.ref 166), some (.int v1), some (.int v2), some (.int v3), some (.int v4), some (.int v5), some (.int v6), none], [.int v1, .ref 166], σ14)) (ps := []) rfl trivial) ?_
      obtain ⟨x16, q18, h⟩ := bdS h
      refine Go.t (Go_callV bk_Md_search 67 rfl nk_Md_sumBy tw1692 tw1694 tw100 (ci := 11) rfl (as := [.int v1]) (S := []) rfl rfl rfl rfl (Nat.le_of_ble_eq_true rfl) (Nat.le_of_ble_eq_true rfl) (ev_Md_sumBy _ _ q18)) ?_
      refine Go.t (Go_sg bk_Md_search 68 1 (c2 := (some 119, [some (.ref 166), some (.int v1), some (.int v2), some (.int v3), some (.int v4), some (.int v5), some (.int v6), none], [.int v5, .int x16], σ14)) (ps := []) rfl trivial) ?_
      refine Go_icmp_lt bk_Md_search 69 rfl (fun c22 => ?_) (fun c22 => ?_)
      · have h := ifT c22 h
        refine Go.t (Go_sg bk_Md_search 71 2 (c2 := (some 127, [some (.ref 166), some (.int v1), some (.int v2), some (.int v3), some (.int v4), some (.int v5), some (.int v6), none], [.int v1, .ref 166], σ14)) (ps := []) rfl trivial) ?_
        obtain ⟨x19, q21, h⟩ := bdS h
        refine Go.t (Go_callV bk_Md_search 73 rfl nk_Md_sumBy tw1692 tw1694 tw100 (ci := 11) rfl (as := [.int v1]) (S := []) rfl rfl rfl rfl (Nat.le_of_ble_eq_true rfl) (Nat.le_of_ble_eq_true rfl) (ev_Md_sumBy _ _ q21)) ?_
        refine Go.t (Go_sg bk_Md_search 74 3 (c2 := (some 136, [some (.ref 166), some (.int v1), some (.int v2), some (.int v3), some (.int v6), some (.int x19), some (.int v6), none], [], σ14)) (ps := []) rfl trivial) ?_
        exact Go.t (Go.fg (LSub.cs (LSub.cs (LSub.cs (LSub.cs (LSub.cs (LSub.cs (LSub.cs (LSub.cn (LSub.nil)))))))))) (t_Md_search_b136 v1 v2 v3 v6 x19 v6 σ14 h)
      · have h := ifF c22 h
        refine Go.t (Go_sg bk_Md_search 70 1 (c2 := (some 136, [some (.ref 166), some (.int v1), some (.int v2), some (.int v3), some (.int v4), some (.int v5), some (.int v6), none], [], σ14)) (ps := []) rfl trivial) ?_
        exact Go.t (Go.fg (LSub.cs (LSub.cs (LSub.cs (LSub.cs (LSub.cs (LSub.cs (LSub.cs (LSub.cn (LSub.nil)))))))))) (t_Md_search_b136 v1 v2 v3 v4 v5 v6 σ14 h)
def Md_search_L96 (v1 : Int32) (v2 : Int32) (v3 : Int32) (s : Int32 × Int32 × Int32 × MH) : Option ((Int32 × Int32 × MH)) := itr (fun s : Int32 × Int32 × Int32 × MH => Md_search_l96 v1 v2 v3 s.1 s.2.1 s.2.2.1 s.2.2.2) FU s
set_option maxRecDepth 20000 in
set_option maxHeartbeats 2000000 in
theorem t_Md_search_L96 (v1 : Int32) (v2 : Int32) (v3 : Int32)  (s : Int32 × Int32 × Int32 × MH) {r} (h : Md_search_L96 v1 v2 v3 s = some r) : Go m_Md_search 3 (cH_Md_search_96 v1 v2 v3 s) (cR_Md_search_96 v1 v2 v3 r) := Go_itr (fun s o ho => t_Md_search_l96 v1 v2 v3 s.1 s.2.1 s.2.2.1 s.2.2.2 ho) FU s r h
def cH_Md_search_169 (v1 : Int32) (v2 : Int32) (v5 : Int32) (σ : MH) (s : Int32 × Int32) : MC := (some 169, [some (.ref 166), some (.int v1), some (.int v2), none, none, some (.int v5), some (.int s.1), some (.int s.2)], [], σ)
def cR_Md_search_169 (v1 : Int32) (v2 : Int32) (v5 : Int32) (σ : MH) : ((Int32)) → MC := (fun r : Int32 => ((some 193, [none, none, some (.int v2), none, none, some (.int v5), some (.int r), none], [], σ) : MC))
def Md_search_l169 (v1 : Int32) (v2 : Int32) (v5 : Int32) (v6 : Int32) (v7 : Int32) (σ : MH) : Option (((Int32 × Int32) ⊕ ((Int32)))) := if v1 ≤ v7 then some (.inr (v6)) else (if inb v7 260 = true then some (.inl (v6 + (σ.1 170 v7.toNatClampNeg), v7 + (1 : Int32))) else none)
set_option maxRecDepth 20000 in
set_option maxHeartbeats 2000000 in
theorem t_Md_search_l169 (v1 : Int32) (v2 : Int32) (v5 : Int32) (v6 : Int32) (v7 : Int32)  (σ : MH) {o} (h : Md_search_l169 v1 v2 v5 v6 v7 σ = some o) : Go m_Md_search 3 (cH_Md_search_169 v1 v2 v5 σ (v6, v7)) (cS (cH_Md_search_169 v1 v2 v5 σ) (cR_Md_search_169 v1 v2 v5 σ) o) := by
  unfold Md_search_l169 at h
  unfold cH_Md_search_169
  refine Go.t (Go_sg bk_Md_search 96 2 (c2 := (some 172, [some (.ref 166), some (.int v1), some (.int v2), none, none, some (.int v5), some (.int v6), some (.int v7)], [.int v1, .int v7], σ)) (ps := []) rfl trivial) ?_
  refine Go_icmp_ge bk_Md_search 98 rfl (fun c31 => ?_) (fun c31 => ?_)
  · have h := ifT c31 h
    have h := Option.some.inj h
    subst h
    exact Go.fg (LSub.cn (LSub.cn (LSub.cs (LSub.cn (LSub.cn (LSub.cs (LSub.cs (LSub.cn (LSub.nil)))))))))
  · have h := ifF c31 h
    obtain ⟨g30, h⟩ := gdS h
    refine Go.t (Go_sg bk_Md_search 99 9 (c2 := (some 169, [some (.ref 166), some (.int v1), some (.int v2), none, none, some (.int v5), some (.int (v6 + (σ.1 170 v7.toNatClampNeg))), some (.int (v7 + (1 : Int32)))], [], σ)) (ps := [shk 166 = 11, IB 170 260 ∧ inb v7 260 = true]) rfl ⟨rfl, ⟨⟨rfl, rfl⟩, g30⟩, trivial⟩) ?_
    have h := Option.some.inj h
    subst h
    exact Go.fg (LSub.cs (LSub.cs (LSub.cs (LSub.cn (LSub.cn (LSub.cs (LSub.cs (LSub.cs (LSub.nil)))))))))
def Md_search_L169 (v1 : Int32) (v2 : Int32) (v5 : Int32) (σ : MH) (s : Int32 × Int32) : Option ((Int32)) := itr (fun s : Int32 × Int32 => Md_search_l169 v1 v2 v5 s.1 s.2 σ) FU s
set_option maxRecDepth 20000 in
set_option maxHeartbeats 2000000 in
theorem t_Md_search_L169 (v1 : Int32) (v2 : Int32) (v5 : Int32)  (σ : MH) (s : Int32 × Int32) {r} (h : Md_search_L169 v1 v2 v5 σ s = some r) : Go m_Md_search 3 (cH_Md_search_169 v1 v2 v5 σ s) (cR_Md_search_169 v1 v2 v5 σ r) := Go_itr (fun s o ho => t_Md_search_l169 v1 v2 v5 s.1 s.2 σ ho) FU s r h
def Md_search_b65 (v1 : Int32) (v2 : Int32) (σ : MH) : Option (Int32 × MH) := (Md_search_L70 v1 v2 σ ((1 : Int32), (1 : Int32))).bind fun z11 => (Md_search_L96 v1 v2 z11 ((-1 : Int32), (1000000000 : Int32), (0 : Int32), σ)).bind fun z25 => (Md_readsRow v1 z25.1 z25.2.2).bind fun (x27, σ28) => if (20 : Int32) ≤ v2 then ((Md_search_L169 v1 v2 z25.2.1 σ28 ((0 : Int32), (0 : Int32))).bind fun z32 => (Md_gcd z25.2.1 z32 σ28).bind fun x34 => if v2 = (20 : Int32) then (if (x34 != 0) = true then some (z25.2.1 / x34, σ28) else none) else (if (x34 != 0) = true then some (z32 / x34, σ28) else none)) else (if inb v2 6 = true then some (σ28.1 192 v2.toNatClampNeg, σ28) else none)
set_option maxRecDepth 20000 in
set_option maxHeartbeats 2000000 in
theorem t_Md_search_b65 (v1 : Int32) (v2 : Int32)   (σ : MH) {o} (h : Md_search_b65 v1 v2 σ = some o) : Go m_Md_search 3 (some 65, [some (.ref 166), some (.int v1), some (.int v2), none, none, none, none, none], [], σ) ((none, [], [.int o.1], o.2)) := by
  unfold Md_search_b65 at h
  refine Go.t (Go_sg bk_Md_search 38 4 (c2 := (some 70, [some (.ref 166), some (.int v1), some (.int v2), some (.int (1 : Int32)), some (.int (1 : Int32)), none, none, none], [], σ)) (ps := []) rfl trivial) ?_
  obtain ⟨z11, q12, h⟩ := bdS h
  refine Go.t (Go.t (Go.fg (LSub.cs (LSub.cs (LSub.cs (LSub.cs (LSub.cs (LSub.cn (LSub.cn (LSub.cn (LSub.nil)))))))))) (t_Md_search_L70 v1 v2 σ _ q12)) ?_
  refine Go.t (Go_sg bk_Md_search 51 6 (c2 := (some 96, [some (.ref 166), some (.int v1), some (.int v2), some (.int z11), some (.int (-1 : Int32)), some (.int (1000000000 : Int32)), some (.int (0 : Int32)), none], [], σ)) (ps := []) rfl trivial) ?_
  obtain ⟨z25, q26, h⟩ := bdS h
  refine Go.t (Go.t (Go.fg (LSub.cs (LSub.cs (LSub.cs (LSub.cs (LSub.cs (LSub.cs (LSub.cs (LSub.cn (LSub.nil)))))))))) (t_Md_search_L96 v1 v2 z11 _ q26)) ?_
  refine Go.t (Go_sg bk_Md_search 79 3 (c2 := (some 146, [some (.ref 166), some (.int v1), some (.int v2), none, some (.int z25.1), some (.int z25.2.1), none, none], [.int z25.1, .int v1, .ref 166], z25.2.2)) (ps := []) rfl trivial) ?_
  obtain ⟨⟨x27, σ28⟩, q29, h⟩ := bdS h
  dsimp only at h
  refine Go.t (Go_callV bk_Md_search 82 rfl nk_Md_readsRow tw1688 tw1690 tw99 (ci := 11) rfl (as := [.int v1, .int z25.1]) (S := []) rfl rfl rfl rfl (Nat.le_of_ble_eq_true rfl) (Nat.le_of_ble_eq_true rfl) (ev_Md_readsRow _ _ _ q29)) ?_
  refine Go.t (Go_sg bk_Md_search 83 3 (c2 := (some 153, [some (.ref 166), some (.int v1), some (.int v2), none, some (.int z25.1), some (.int z25.2.1), none, none], [.int (20 : Int32), .int v2], σ28)) (ps := []) rfl trivial) ?_
  refine Go_icmp_ge bk_Md_search 86 rfl (fun c41 => ?_) (fun c41 => ?_)
  · have h := ifT c41 h
    refine Go.t (Go_sg bk_Md_search 92 4 (c2 := (some 169, [some (.ref 166), some (.int v1), some (.int v2), none, some (.int z25.1), some (.int z25.2.1), some (.int (0 : Int32)), some (.int (0 : Int32))], [], σ28)) (ps := []) rfl trivial) ?_
    obtain ⟨z32, q33, h⟩ := bdS h
    refine Go.t (Go.t (Go.fg (LSub.cs (LSub.cs (LSub.cs (LSub.cn (LSub.cn (LSub.cs (LSub.cs (LSub.cs (LSub.nil)))))))))) (t_Md_search_L169 v1 v2 z25.2.1 σ28 _ q33)) ?_
    refine Go.t (Go_sg bk_Md_search 108 2 (c2 := (some 197, [none, none, some (.int v2), none, none, some (.int z25.2.1), some (.int z32), none], [.int z32, .int z25.2.1], σ28)) (ps := []) rfl trivial) ?_
    obtain ⟨x34, q36, h⟩ := bdS h
    refine Go.t (Go_callS bk_Md_search 110 rfl nk_Md_gcd tw1696 tw1697 (as := [.int z25.2.1, .int z32]) (S := []) rfl rfl rfl (Nat.le_of_ble_eq_true rfl) (Nat.le_of_ble_eq_true rfl) (ev_Md_gcd _ _ _ q36)) ?_
    refine Go.t (Go_sg bk_Md_search 111 3 (c2 := (some 205, [none, none, some (.int v2), none, none, some (.int z25.2.1), some (.int z32), some (.int x34)], [.int (20 : Int32), .int v2], σ28)) (ps := []) rfl trivial) ?_
    refine Go_icmp_ne bk_Md_search 114 rfl (fun c39 => ?_) (fun c39 => ?_)
    · have h := ifF c39 h
      obtain ⟨g37, h⟩ := gdS h
      have h := Option.some.inj h
      subst h
      refine Go.t (Go_sg bk_Md_search 119 3 (c2 := (some 221, [none, none, some (.int v2), none, none, some (.int z25.2.1), some (.int z32), some (.int x34)], [.int (z32 / x34)], σ28)) (ps := [x34 ≠ 0]) rfl ⟨(nzB g37), trivial⟩) ?_
      exact Go_reti bk_Md_search 122 rfl
    · have h := ifT c39 h
      obtain ⟨g38, h⟩ := gdS h
      refine Go.t (Go_sg bk_Md_search 115 4 (c2 := (some 221, [none, none, some (.int v2), none, none, some (.int z25.2.1), some (.int z32), some (.int x34)], [.int (z25.2.1 / x34)], σ28)) (ps := [x34 ≠ 0]) rfl ⟨(nzB g38), trivial⟩) ?_
      have h := Option.some.inj h
      subst h
      exact Go_reti bk_Md_search 122 rfl
  · have h := ifF c41 h
    obtain ⟨g40, h⟩ := gdS h
    have h := Option.some.inj h
    subst h
    refine Go.t (Go_sg bk_Md_search 87 4 (c2 := (some 162, [some (.ref 166), some (.int v1), some (.int v2), none, some (.int z25.1), some (.int z25.2.1), none, none], [.int (σ28.1 192 v2.toNatClampNeg)], σ28)) (ps := [shk 166 = 11, IA 192 6 ∧ inb v2 6 = true]) rfl ⟨rfl, ⟨⟨rfl, rfl⟩, g40⟩, trivial⟩) ?_
    exact Go_reti bk_Md_search 91 rfl
def Md_search0 (v1 : Int32) (v2 : Int32) (σ : MH) : Option (Int32 × MH) := (Md_in v1 (2 : Int32) (6 : Int32) σ).bind fun x1 => if x1 = (0 : Int32) then some ((-1 : Int32), σ) else (if v1 + (v1 * v1) ≤ σ.1 166 4 then ((Md_areBounds v1 (sI σ 166 4 (0 : Int32))).bind fun x4 => if x4 = (0 : Int32) then some ((-2 : Int32), sI σ 166 4 (0 : Int32)) else ((Md_in v2 (20 : Int32) (21 : Int32) (sI σ 166 4 (0 : Int32))).bind fun x7 => if x7 = (0 : Int32) then ((Md_in v2 (0 : Int32) (v1 - (1 : Int32)) (sI σ 166 4 (0 : Int32))).bind fun x42 => if x42 = (0 : Int32) then some ((-3 : Int32), sI σ 166 4 (0 : Int32)) else Md_search_b65 v1 v2 (sI σ 166 4 (0 : Int32))) else Md_search_b65 v1 v2 (sI σ 166 4 (0 : Int32)))) else some ((-1 : Int32), σ))
set_option maxRecDepth 20000 in
set_option maxHeartbeats 2000000 in
theorem t_Md_search0 (v1 : Int32) (v2 : Int32)  (σ : MH) {o} (h : Md_search0 v1 v2 σ = some o) : Go m_Md_search 3 (some 0, [some (.ref 166), some (.int v1), some (.int v2), none, none, none, none, none], [], σ) ((none, [], [.int o.1], o.2)) := by
  unfold Md_search0 at h
  refine Go.t (Go_sg bk_Md_search 0 3 (c2 := (some 4, [some (.ref 166), some (.int v1), some (.int v2), none, none, none, none, none], [.int (6 : Int32), .int (2 : Int32), .int v1], σ)) (ps := []) rfl trivial) ?_
  obtain ⟨x1, q3, h⟩ := bdS h
  refine Go.t (Go_callS bk_Md_search 3 rfl nk_Md_in tw1370 tw1371 (as := [.int v1, .int (2 : Int32), .int (6 : Int32)]) (S := []) rfl rfl rfl (Nat.le_of_ble_eq_true rfl) (Nat.le_of_ble_eq_true rfl) (ev_Md_in _ _ _ _ q3)) ?_
  refine Go_if_eq bk_Md_search 4 rfl (fun c49 => ?_) (fun c49 => ?_)
  · have h := ifT c49 h
    have h := Option.some.inj h
    subst h
    refine Go.t (Go_sg bk_Md_search 13 1 (c2 := (some 23, [some (.ref 166), some (.int v1), some (.int v2), none, none, none, none, none], [.int (-1 : Int32)], σ)) (ps := []) rfl trivial) ?_
    exact Go_reti bk_Md_search 14 rfl
  · have h := ifF c49 h
    refine Go.t (Go_sg bk_Md_search 5 7 (c2 := (some 19, [some (.ref 166), some (.int v1), some (.int v2), none, none, none, none, none], [.int (σ.1 166 4), .int (v1 + (v1 * v1))], σ)) (ps := [shk 166 = 11]) rfl ⟨rfl, trivial⟩) ?_
    refine Go_icmp_le bk_Md_search 12 rfl (fun c48 => ?_) (fun c48 => ?_)
    · have h := ifT c48 h
      refine Go.t (Go_sg bk_Md_search 15 5 (c2 := (some 31, [some (.ref 166), some (.int v1), some (.int v2), none, none, none, none, none], [.int v1, .ref 166], sI σ 166 4 (0 : Int32))) (ps := [shk 166 = 11]) rfl ⟨rfl, trivial⟩) ?_
      obtain ⟨x4, q6, h⟩ := bdS h
      refine Go.t (Go_callV bk_Md_search 20 rfl nk_Md_areBounds tw1684 tw1686 tw98 (ci := 11) rfl (as := [.int v1]) (S := []) rfl rfl rfl rfl (Nat.le_of_ble_eq_true rfl) (Nat.le_of_ble_eq_true rfl) (ev_Md_areBounds _ _ q6)) ?_
      refine Go_if_ne bk_Md_search 21 rfl (fun c47 => ?_) (fun c47 => ?_)
      · have h := ifF c47 h
        refine Go.t (Go_sg bk_Md_search 24 3 (c2 := (some 45, [some (.ref 166), some (.int v1), some (.int v2), none, none, none, none, none], [.int (21 : Int32), .int (20 : Int32), .int v2], sI σ 166 4 (0 : Int32))) (ps := []) rfl trivial) ?_
        obtain ⟨x7, q9, h⟩ := bdS h
        refine Go.t (Go_callS bk_Md_search 27 rfl nk_Md_in tw1370 tw1371 (as := [.int v2, .int (20 : Int32), .int (21 : Int32)]) (S := []) rfl rfl rfl (Nat.le_of_ble_eq_true rfl) (Nat.le_of_ble_eq_true rfl) (ev_Md_in _ _ _ _ q9)) ?_
        refine Go_if_ne bk_Md_search 28 rfl (fun c46 => ?_) (fun c46 => ?_)
        · have h := ifF c46 h
          exact Go.t (Go.fg (LSub.cs (LSub.cs (LSub.cs (LSub.cn (LSub.cn (LSub.cn (LSub.cn (LSub.cn (LSub.nil)))))))))) (t_Md_search_b65 v1 v2 (sI σ 166 4 (0 : Int32)) h)
        · have h := ifT c46 h
          refine Go.t (Go_sg bk_Md_search 29 5 (c2 := (some 56, [some (.ref 166), some (.int v1), some (.int v2), none, none, none, none, none], [.int (v1 - (1 : Int32)), .int (0 : Int32), .int v2], sI σ 166 4 (0 : Int32))) (ps := []) rfl trivial) ?_
          obtain ⟨x42, q44, h⟩ := bdS h
          refine Go.t (Go_callS bk_Md_search 34 rfl nk_Md_in tw1370 tw1371 (as := [.int v2, .int (0 : Int32), .int (v1 - (1 : Int32))]) (S := []) rfl rfl rfl (Nat.le_of_ble_eq_true rfl) (Nat.le_of_ble_eq_true rfl) (ev_Md_in _ _ _ _ q44)) ?_
          refine Go_if_ne bk_Md_search 35 rfl (fun c45 => ?_) (fun c45 => ?_)
          · have h := ifF c45 h
            exact Go.t (Go.fg (LSub.cs (LSub.cs (LSub.cs (LSub.cn (LSub.cn (LSub.cn (LSub.cn (LSub.cn (LSub.nil)))))))))) (t_Md_search_b65 v1 v2 (sI σ 166 4 (0 : Int32)) h)
          · have h := ifT c45 h
            have h := Option.some.inj h
            subst h
            refine Go.t (Go_sg bk_Md_search 36 1 (c2 := (some 64, [some (.ref 166), some (.int v1), some (.int v2), none, none, none, none, none], [.int (-3 : Int32)], sI σ 166 4 (0 : Int32))) (ps := []) rfl trivial) ?_
            exact Go_reti bk_Md_search 37 rfl
      · have h := ifT c47 h
        have h := Option.some.inj h
        subst h
        refine Go.t (Go_sg bk_Md_search 22 1 (c2 := (some 39, [some (.ref 166), some (.int v1), some (.int v2), none, none, none, none, none], [.int (-2 : Int32)], sI σ 166 4 (0 : Int32))) (ps := []) rfl trivial) ?_
        exact Go_reti bk_Md_search 23 rfl
    · have h := ifF c48 h
      have h := Option.some.inj h
      subst h
      refine Go.t (Go_sg bk_Md_search 13 1 (c2 := (some 23, [some (.ref 166), some (.int v1), some (.int v2), none, none, none, none, none], [.int (-1 : Int32)], σ)) (ps := []) rfl trivial) ?_
      exact Go_reti bk_Md_search 14 rfl
def Md_search (v1 : Int32) (v2 : Int32) (σ : MH) : Option (Int32 × MH) := Md_search0 v1 v2 σ
set_option maxRecDepth 20000 in
set_option maxHeartbeats 2000000 in
theorem ev_Md_search (v1 : Int32) (v2 : Int32)  (σ : MH) {o} (h : Md_search v1 v2 σ = some o) : Ev m_Md_search 3 [.ref 166, .int v1, .int v2] σ (some (.int o.1)) o.2 := Ev.of2 (by decide +kernel) rfl (Nat.le_of_ble_eq_true rfl) ⟨.int, rfl, rfl⟩ (t_Md_search0 v1 v2 σ h)
