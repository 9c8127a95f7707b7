/-! FUNCTIONS: Search_swap Search_nextOrder Search_find Search_commonDivisor Search_above Search_below Pz_search Pz_canSand Arrays_fill_ll Sander_weigh Sander_leastOf Sander_bestHere Sander_read Sander_sand Pz_fitOthers Arrays_fill_ii_2 Sander_sand_n Pz_sanding Sander_steam -/
def Search_swap0 (v1 : Int32) (v2 : Int32) (σ : MH) : Option (MH) := if v1 < (0 : Int32) then some (σ) else (if (6 : Int32) ≤ v1 then some (σ) else (if v2 < (0 : Int32) then some (σ) else (if (6 : Int32) ≤ v2 then some (σ) else (if inb v1 6 = true then if inb v2 6 = true then some (sI (sI σ 157 v1.toNatClampNeg (σ.1 157 v2.toNatClampNeg)) 157 v2.toNatClampNeg (σ.1 157 v1.toNatClampNeg)) else none else none))))
set_option maxRecDepth 20000 in
set_option maxHeartbeats 2000000 in
theorem t_Search_swap0 (v1 : Int32) (v2 : Int32)  (σ : MH) {o} (h : Search_swap0 v1 v2 σ = some o) : Go m_Search_swap 1 (some 0, [some (.ref 148), some (.int v1), some (.int v2), none], [], σ) ((none, [], [], o)) := by
  unfold Search_swap0 at h
  refine Go.t (Go_sg bk_Search_swap 0 1 (c2 := (some 1, [some (.ref 148), some (.int v1), some (.int v2), none], [.int v1], σ)) (ps := []) rfl trivial) ?_
  refine Go_if_lt bk_Search_swap 1 rfl (fun c6 => ?_) (fun c6 => ?_)
  · have h := ifT c6 h
    have h := Option.some.inj h
    subst h
    exact Go_ret0 bk_Search_swap 28 rfl
  · have h := ifF c6 h
    refine Go.t (Go_sg bk_Search_swap 2 2 (c2 := (some 7, [some (.ref 148), some (.int v1), some (.int v2), none], [.int (6 : Int32), .int v1], σ)) (ps := []) rfl trivial) ?_
    refine Go_icmp_ge bk_Search_swap 4 rfl (fun c5 => ?_) (fun c5 => ?_)
    · have h := ifT c5 h
      have h := Option.some.inj h
      subst h
      exact Go_ret0 bk_Search_swap 28 rfl
    · have h := ifF c5 h
      refine Go.t (Go_sg bk_Search_swap 5 1 (c2 := (some 11, [some (.ref 148), some (.int v1), some (.int v2), none], [.int v2], σ)) (ps := []) rfl trivial) ?_
      refine Go_if_lt bk_Search_swap 6 rfl (fun c4 => ?_) (fun c4 => ?_)
      · have h := ifT c4 h
        have h := Option.some.inj h
        subst h
        exact Go_ret0 bk_Search_swap 28 rfl
      · have h := ifF c4 h
        refine Go.t (Go_sg bk_Search_swap 7 2 (c2 := (some 17, [some (.ref 148), some (.int v1), some (.int v2), none], [.int (6 : Int32), .int v2], σ)) (ps := []) rfl trivial) ?_
        refine Go_icmp_ge bk_Search_swap 9 rfl (fun c3 => ?_) (fun c3 => ?_)
        · have h := ifT c3 h
          have h := Option.some.inj h
          subst h
          exact Go_ret0 bk_Search_swap 28 rfl
        · have h := ifF c3 h
          obtain ⟨g1, h⟩ := gdS h
          obtain ⟨g2, h⟩ := gdS h
          have h := Option.some.inj h
          subst h
          refine Go.t (Go_sg bk_Search_swap 10 18 (c2 := (some 46, [some (.ref 148), some (.int v1), some (.int v2), some (.int (σ.1 157 v1.toNatClampNeg))], [], sI (sI σ 157 v1.toNatClampNeg (σ.1 157 v2.toNatClampNeg)) 157 v2.toNatClampNeg (σ.1 157 v1.toNatClampNeg))) (ps := [shk 148 = 8, IA 157 6 ∧ inb v1 6 = true, shk 148 = 8, shk 148 = 8, IA 157 6 ∧ inb v2 6 = true, IA 157 6 ∧ inb v1 6 = true, shk 148 = 8, IA 157 6 ∧ inb v2 6 = true]) rfl ⟨rfl, ⟨⟨rfl, rfl⟩, g1⟩, rfl, rfl, ⟨⟨rfl, rfl⟩, g2⟩, ⟨⟨rfl, rfl⟩, g1⟩, rfl, ⟨⟨rfl, rfl⟩, g2⟩, trivial⟩) ?_
          exact Go_ret0 bk_Search_swap 28 rfl
def Search_swap (v1 : Int32) (v2 : Int32) (σ : MH) : Option (MH) := Search_swap0 v1 v2 σ
set_option maxRecDepth 20000 in
set_option maxHeartbeats 2000000 in
theorem ev_Search_swap (v1 : Int32) (v2 : Int32)  (σ : MH) {o} (h : Search_swap v1 v2 σ = some o) : Ev m_Search_swap 1 [.ref 148, .int v1, .int v2] σ none o := Ev.of2 (by decide +kernel) rfl (Nat.le_of_ble_eq_true rfl) rfl (t_Search_swap0 v1 v2 σ h)
def cH_Search_nextOrder_4  (σ : MH) (s : Int32 × Int32) : MC := (some 4, [some (.ref 148), some (.int s.1), some (.int s.2), none, none], [], σ)
def cR_Search_nextOrder_4  (σ : MH) : ((Int32)) → MC := (fun r : Int32 => ((some 43, [some (.ref 148), some (.int r), none, none, none], [], σ) : MC))
def Search_nextOrder_b36 (v2 : Int32) (s0 : Int32) (σ : MH) : Option (((Int32 × Int32) ⊕ ((Int32)))) := some (.inl (s0, v2 + (1 : Int32)))
set_option maxRecDepth 20000 in
set_option maxHeartbeats 2000000 in
theorem t_Search_nextOrder_b36 (v2 : Int32) (s0 : Int32)   (σ : MH) {o} (h : Search_nextOrder_b36 v2 s0 σ = some o) : Go m_Search_nextOrder 2 (some 36, [some (.ref 148), none, some (.int v2), none, none], [.int s0], σ) (cS (cH_Search_nextOrder_4  σ) (cR_Search_nextOrder_4  σ) o) := by
  unfold Search_nextOrder_b36 at h
  refine Go.t (Go_sg bk_Search_nextOrder 24 3 (c2 := (some 4, [some (.ref 148), some (.int s0), some (.int (v2 + (1 : Int32))), none, none], [], σ)) (ps := []) rfl trivial) ?_
  have h := Option.some.inj h
  subst h
  exact Go.fg (LSub.cs (LSub.cs (LSub.cs (LSub.cn (LSub.cn (LSub.nil))))))
def Search_nextOrder_l4 (v1 : Int32) (v2 : Int32) (σ : MH) : Option (((Int32 × Int32) ⊕ ((Int32)))) := if σ.1 148 1 ≤ v2 + (1 : Int32) then some (.inr (v1)) else (if inb v2 6 = true then if inb (v2 + (1 : Int32)) 6 = true then if σ.1 157 (v2 + (1 : Int32)).toNatClampNeg ≤ σ.1 157 v2.toNatClampNeg then (Search_nextOrder_b36 v2 v1 σ) else (Search_nextOrder_b36 v2 v2 σ) else none else none)
set_option maxRecDepth 20000 in
set_option maxHeartbeats 2000000 in
theorem t_Search_nextOrder_l4 (v1 : Int32) (v2 : Int32)  (σ : MH) {o} (h : Search_nextOrder_l4 v1 v2 σ = some o) : Go m_Search_nextOrder 2 (cH_Search_nextOrder_4 σ (v1, v2)) (cS (cH_Search_nextOrder_4  σ) (cR_Search_nextOrder_4  σ) o) := by
  unfold Search_nextOrder_l4 at h
  unfold cH_Search_nextOrder_4
  refine Go.t (Go_sg bk_Search_nextOrder 4 5 (c2 := (some 11, [some (.ref 148), some (.int v1), some (.int v2), none, none], [.int (σ.1 148 1), .int (v2 + (1 : Int32))], σ)) (ps := [shk 148 = 8]) rfl ⟨rfl, trivial⟩) ?_
  refine Go_icmp_ge bk_Search_nextOrder 9 rfl (fun c4 => ?_) (fun c4 => ?_)
  · have h := ifT c4 h
    have h := Option.some.inj h
    subst h
    exact Go.fg (LSub.cs (LSub.cs (LSub.cn (LSub.cn (LSub.cn (LSub.nil))))))
  · have h := ifF c4 h
    obtain ⟨g1, h⟩ := gdS h
    obtain ⟨g2, h⟩ := gdS h
    refine Go.t (Go_sg bk_Search_nextOrder 10 10 (c2 := (some 28, [some (.ref 148), some (.int v1), some (.int v2), none, none], [.int (σ.1 157 (v2 + (1 : Int32)).toNatClampNeg), .int (σ.1 157 v2.toNatClampNeg)], σ)) (ps := [shk 148 = 8, IA 157 6 ∧ inb v2 6 = true, shk 148 = 8, IA 157 6 ∧ inb (v2 + (1 : Int32)) 6 = true]) rfl ⟨rfl, ⟨⟨rfl, rfl⟩, g1⟩, rfl, ⟨⟨rfl, rfl⟩, g2⟩, trivial⟩) ?_
    refine Go_icmp_ge bk_Search_nextOrder 20 rfl (fun c3 => ?_) (fun c3 => ?_)
    · have h := ifT c3 h
      refine Go.t (Go_sg bk_Search_nextOrder 23 1 (c2 := (some 36, [some (.ref 148), some (.int v1), some (.int v2), none, none], [.int v1], σ)) (ps := []) rfl trivial) ?_
      exact Go.t (Go.fg (LSub.cs (LSub.cn (LSub.cs (LSub.cn (LSub.cn (LSub.nil))))))) (t_Search_nextOrder_b36 v2 v1 σ h)
    · have h := ifF c3 h
      refine Go.t (Go_sg bk_Search_nextOrder 21 2 (c2 := (some 36, [some (.ref 148), some (.int v1), some (.int v2), none, none], [.int v2], σ)) (ps := []) rfl trivial) ?_
      exact Go.t (Go.fg (LSub.cs (LSub.cn (LSub.cs (LSub.cn (LSub.cn (LSub.nil))))))) (t_Search_nextOrder_b36 v2 v2 σ h)
def Search_nextOrder_L4  (σ : MH) (s : Int32 × Int32) : Option ((Int32)) := itr (fun s : Int32 × Int32 => Search_nextOrder_l4 s.1 s.2 σ) FU s
set_option maxRecDepth 20000 in
set_option maxHeartbeats 2000000 in
theorem t_Search_nextOrder_L4   (σ : MH) (s : Int32 × Int32) {r} (h : Search_nextOrder_L4 σ s = some r) : Go m_Search_nextOrder 2 (cH_Search_nextOrder_4 σ s) (cR_Search_nextOrder_4 σ r) := Go_itr (fun s o ho => t_Search_nextOrder_l4 s.1 s.2 σ ho) FU s r h
def cH_Search_nextOrder_55 (v1 : Int32) (σ : MH) (s : Int32 × Int32) : MC := (some 55, [some (.ref 148), some (.int v1), some (.int s.1), some (.int s.2), none], [], σ)
def cR_Search_nextOrder_55 (v1 : Int32) (σ : MH) : ((Int32)) → MC := (fun r : Int32 => ((some 90, [some (.ref 148), some (.int v1), some (.int r), none, none], [], σ) : MC))
def Search_nextOrder_b83 (v1 : Int32) (v3 : Int32) (s0 : Int32) (σ : MH) : Option (((Int32 × Int32) ⊕ ((Int32)))) := some (.inl (s0, v3 + (1 : Int32)))
set_option maxRecDepth 20000 in
set_option maxHeartbeats 2000000 in
theorem t_Search_nextOrder_b83 (v1 : Int32) (v3 : Int32) (s0 : Int32)   (σ : MH) {o} (h : Search_nextOrder_b83 v1 v3 s0 σ = some o) : Go m_Search_nextOrder 2 (some 83, [some (.ref 148), some (.int v1), none, some (.int v3), none], [.int s0], σ) (cS (cH_Search_nextOrder_55 v1 σ) (cR_Search_nextOrder_55 v1 σ) o) := by
  unfold Search_nextOrder_b83 at h
  refine Go.t (Go_sg bk_Search_nextOrder 53 3 (c2 := (some 55, [some (.ref 148), some (.int v1), some (.int s0), some (.int (v3 + (1 : Int32))), none], [], σ)) (ps := []) rfl trivial) ?_
  have h := Option.some.inj h
  subst h
  exact Go.fg (LSub.cs (LSub.cs (LSub.cs (LSub.cs (LSub.cn (LSub.nil))))))
def Search_nextOrder_l55 (v1 : Int32) (v2 : Int32) (v3 : Int32) (σ : MH) : Option (((Int32 × Int32) ⊕ ((Int32)))) := if σ.1 148 1 ≤ v3 then some (.inr (v2)) else (if inb v3 6 = true then if inb v1 6 = true then if σ.1 157 v3.toNatClampNeg ≤ σ.1 157 v1.toNatClampNeg then (Search_nextOrder_b83 v1 v3 v2 σ) else (Search_nextOrder_b83 v1 v3 v3 σ) else none else none)
set_option maxRecDepth 20000 in
set_option maxHeartbeats 2000000 in
theorem t_Search_nextOrder_l55 (v1 : Int32) (v2 : Int32) (v3 : Int32)  (σ : MH) {o} (h : Search_nextOrder_l55 v1 v2 v3 σ = some o) : Go m_Search_nextOrder 2 (cH_Search_nextOrder_55 v1 σ (v2, v3)) (cS (cH_Search_nextOrder_55 v1 σ) (cR_Search_nextOrder_55 v1 σ) o) := by
  unfold Search_nextOrder_l55 at h
  unfold cH_Search_nextOrder_55
  refine Go.t (Go_sg bk_Search_nextOrder 37 3 (c2 := (some 60, [some (.ref 148), some (.int v1), some (.int v2), some (.int v3), none], [.int (σ.1 148 1), .int v3], σ)) (ps := [shk 148 = 8]) rfl ⟨rfl, trivial⟩) ?_
  refine Go_icmp_ge bk_Search_nextOrder 40 rfl (fun c10 => ?_) (fun c10 => ?_)
  · have h := ifT c10 h
    have h := Option.some.inj h
    subst h
    exact Go.fg (LSub.cs (LSub.cs (LSub.cs (LSub.cn (LSub.cn (LSub.nil))))))
  · have h := ifF c10 h
    obtain ⟨g7, h⟩ := gdS h
    obtain ⟨g8, h⟩ := gdS h
    refine Go.t (Go_sg bk_Search_nextOrder 41 8 (c2 := (some 75, [some (.ref 148), some (.int v1), some (.int v2), some (.int v3), none], [.int (σ.1 157 v1.toNatClampNeg), .int (σ.1 157 v3.toNatClampNeg)], σ)) (ps := [shk 148 = 8, IA 157 6 ∧ inb v3 6 = true, shk 148 = 8, IA 157 6 ∧ inb v1 6 = true]) rfl ⟨rfl, ⟨⟨rfl, rfl⟩, g7⟩, rfl, ⟨⟨rfl, rfl⟩, g8⟩, trivial⟩) ?_
    refine Go_icmp_le bk_Search_nextOrder 49 rfl (fun c9 => ?_) (fun c9 => ?_)
    · have h := ifT c9 h
      refine Go.t (Go_sg bk_Search_nextOrder 52 1 (c2 := (some 83, [some (.ref 148), some (.int v1), some (.int v2), some (.int v3), none], [.int v2], σ)) (ps := []) rfl trivial) ?_
      exact Go.t (Go.fg (LSub.cs (LSub.cs (LSub.cn (LSub.cs (LSub.cn (LSub.nil))))))) (t_Search_nextOrder_b83 v1 v3 v2 σ h)
    · have h := ifF c9 h
      refine Go.t (Go_sg bk_Search_nextOrder 50 2 (c2 := (some 83, [some (.ref 148), some (.int v1), some (.int v2), some (.int v3), none], [.int v3], σ)) (ps := []) rfl trivial) ?_
      exact Go.t (Go.fg (LSub.cs (LSub.cs (LSub.cn (LSub.cs (LSub.cn (LSub.nil))))))) (t_Search_nextOrder_b83 v1 v3 v3 σ h)
def Search_nextOrder_L55 (v1 : Int32) (σ : MH) (s : Int32 × Int32) : Option ((Int32)) := itr (fun s : Int32 × Int32 => Search_nextOrder_l55 v1 s.1 s.2 σ) FU s
set_option maxRecDepth 20000 in
set_option maxHeartbeats 2000000 in
theorem t_Search_nextOrder_L55 (v1 : Int32)  (σ : MH) (s : Int32 × Int32) {r} (h : Search_nextOrder_L55 v1 σ s = some r) : Go m_Search_nextOrder 2 (cH_Search_nextOrder_55 v1 σ s) (cR_Search_nextOrder_55 v1 σ r) := Go_itr (fun s o ho => t_Search_nextOrder_l55 v1 s.1 s.2 σ ho) FU s r h
def cH_Search_nextOrder_108  (s : Int32 × Int32 × MH) : MC := (some 108, [some (.ref 148), none, none, some (.int s.1), some (.int s.2.1)], [], s.2.2)
def cR_Search_nextOrder_108  : ((Int32 × MH)) → MC := (fun r : Int32 × MH => ((none, [], [.int r.1], r.2) : MC))
def Search_nextOrder_l108 (v3 : Int32) (v4 : Int32) (σ : MH) : Option (((Int32 × Int32 × MH) ⊕ ((Int32 × MH)))) := if v3 ≤ v4 then some (.inr ((1 : Int32), σ)) else ((Search_swap v4 v3 σ).bind fun σ17 => some (.inl (v3 + (-1 : Int32), v4 + (1 : Int32), σ17)))
set_option maxRecDepth 20000 in
set_option maxHeartbeats 2000000 in
theorem t_Search_nextOrder_l108 (v3 : Int32) (v4 : Int32)  (σ : MH) {o} (h : Search_nextOrder_l108 v3 v4 σ = some o) : Go m_Search_nextOrder 2 (cH_Search_nextOrder_108  (v3, v4, σ)) (cS (cH_Search_nextOrder_108 ) (cR_Search_nextOrder_108 ) o) := by
  unfold Search_nextOrder_l108 at h
  unfold cH_Search_nextOrder_108
  refine Go.t (Go_sg bk_Search_nextOrder 69 2 (c2 := (some 111, [some (.ref 148), none, none, some (.int v3), some (.int v4)], [.int v3, .int v4], σ)) (ps := []) rfl trivial) ?_
  refine Go_icmp_ge bk_Search_nextOrder 71 rfl (fun c19 => ?_) (fun c19 => ?_)
  · have h := ifT c19 h
    have h := Option.some.inj h
    subst h
    refine Go.t (Go_sg bk_Search_nextOrder 79 1 (c2 := (some 131, [some (.ref 148), none, none, some (.int v3), some (.int v4)], [.int (1 : Int32)], σ)) (ps := []) rfl trivial) ?_
    exact Go_reti bk_Search_nextOrder 80 rfl
  · have h := ifF c19 h
    refine Go.t (Go_sg bk_Search_nextOrder 72 3 (c2 := (some 118, [some (.ref 148), none, none, some (.int v3), some (.int v4)], [.int v3, .int v4, .ref 148], σ)) (ps := []) rfl trivial) ?_
    obtain ⟨σ17, q18, h⟩ := bdS h
    refine Go.t (Go_callV bk_Search_nextOrder 75 rfl nk_Search_swap tw1076 tw1078 tw33 (ci := 8) rfl (as := [.int v4, .int v3]) (S := []) rfl rfl rfl rfl (Nat.le_of_ble_eq_true rfl) (Nat.le_of_ble_eq_true rfl) (ev_Search_swap _ _ _ q18)) ?_
    refine Go.t (Go_sg bk_Search_nextOrder 76 3 (c2 := (some 108, [some (.ref 148), none, none, some (.int (v3 + (-1 : Int32))), some (.int (v4 + (1 : Int32)))], [], σ17)) (ps := []) rfl trivial) ?_
    have h := Option.some.inj h
    subst h
    exact Go.fg (LSub.cs (LSub.cn (LSub.cn (LSub.cs (LSub.cs (LSub.nil))))))
def Search_nextOrder_L108  (s : Int32 × Int32 × MH) : Option ((Int32 × MH)) := itr (fun s : Int32 × Int32 × MH => Search_nextOrder_l108 s.1 s.2.1 s.2.2) FU s
set_option maxRecDepth 20000 in
set_option maxHeartbeats 2000000 in
theorem t_Search_nextOrder_L108   (s : Int32 × Int32 × MH) {r} (h : Search_nextOrder_L108  s = some r) : Go m_Search_nextOrder 2 (cH_Search_nextOrder_108  s) (cR_Search_nextOrder_108  r) := Go_itr (fun s o ho => t_Search_nextOrder_l108 s.1 s.2.1 s.2.2 ho) FU s r h
def Search_nextOrder0  (σ : MH) : Option (Int32 × MH) := (Search_nextOrder_L4 σ ((0 : Int32), (1 : Int32))).bind fun z5 => if z5 = (0 : Int32) then some ((0 : Int32), σ) else ((Search_nextOrder_L55 z5 σ (z5, z5 + (1 : Int32))).bind fun z11 => (Search_swap z5 z11 σ).bind fun σ14 => (Search_nextOrder_L108 ((σ14.1 148 1) - (1 : Int32), z5 + (1 : Int32), σ14)).bind fun z20 => some (z20.1, z20.2))
set_option maxRecDepth 20000 in
set_option maxHeartbeats 2000000 in
theorem t_Search_nextOrder0   (σ : MH) {o} (h : Search_nextOrder0 σ = some o) : Go m_Search_nextOrder 2 (some 0, [some (.ref 148), none, none, none, none], [], σ) ((none, [], [.int o.1], o.2)) := by
  unfold Search_nextOrder0 at h
  refine Go.t (Go_sg bk_Search_nextOrder 0 4 (c2 := (some 4, [some (.ref 148), some (.int (0 : Int32)), some (.int (1 : Int32)), none, none], [], σ)) (ps := []) rfl trivial) ?_
  obtain ⟨z5, q6, h⟩ := bdS h
  refine Go.t (Go.t (Go.fg (LSub.cs (LSub.cs (LSub.cs (LSub.cn (LSub.cn (LSub.nil))))))) (t_Search_nextOrder_L4 σ _ q6)) ?_
  refine Go.t (Go_sg bk_Search_nextOrder 27 1 (c2 := (some 44, [some (.ref 148), some (.int z5), none, none, none], [.int z5], σ)) (ps := []) rfl trivial) ?_
  refine Go_if_ne bk_Search_nextOrder 28 rfl (fun c22 => ?_) (fun c22 => ?_)
  · have h := ifF c22 h
    refine Go.t (Go_sg bk_Search_nextOrder 31 6 (c2 := (some 55, [some (.ref 148), some (.int z5), some (.int z5), some (.int (z5 + (1 : Int32))), none], [], σ)) (ps := []) rfl trivial) ?_
    obtain ⟨z11, q12, h⟩ := bdS h
    refine Go.t (Go.t (Go.fg (LSub.cs (LSub.cs (LSub.cs (LSub.cs (LSub.cn (LSub.nil))))))) (t_Search_nextOrder_L55 z5 σ _ q12)) ?_
    refine Go.t (Go_sg bk_Search_nextOrder 56 3 (c2 := (some 93, [some (.ref 148), some (.int z5), some (.int z11), none, none], [.int z11, .int z5, .ref 148], σ)) (ps := []) rfl trivial) ?_
    obtain ⟨σ14, q15, h⟩ := bdS h
    refine Go.t (Go_callV bk_Search_nextOrder 59 rfl nk_Search_swap tw1076 tw1078 tw33 (ci := 8) rfl (as := [.int z5, .int z11]) (S := []) rfl rfl rfl rfl (Nat.le_of_ble_eq_true rfl) (Nat.le_of_ble_eq_true rfl) (ev_Search_swap _ _ _ q15)) ?_
    refine Go.t (Go_sg bk_Search_nextOrder 60 9 (c2 := (some 108, [some (.ref 148), some (.int z5), some (.int z11), some (.int ((σ14.1 148 1) - (1 : Int32))), some (.int (z5 + (1 : Int32)))], [], σ14)) (ps := [shk 148 = 8]) rfl ⟨rfl, trivial⟩) ?_
    obtain ⟨z20, q21, h⟩ := bdS h
    refine Go.t (Go.t (Go.fg (LSub.cs (LSub.cn (LSub.cn (LSub.cs (LSub.cs (LSub.nil))))))) (t_Search_nextOrder_L108 _ q21)) ?_
    have h := Option.some.inj h
    subst h
    exact Go.rf
  · have h := ifT c22 h
    have h := Option.some.inj h
    subst h
    refine Go.t (Go_sg bk_Search_nextOrder 29 1 (c2 := (some 48, [some (.ref 148), some (.int z5), none, none, none], [.int (0 : Int32)], σ)) (ps := []) rfl trivial) ?_
    exact Go_reti bk_Search_nextOrder 30 rfl
def Search_nextOrder  (σ : MH) : Option (Int32 × MH) := bzo (Search_nextOrder0 σ)
set_option maxRecDepth 20000 in
set_option maxHeartbeats 2000000 in
theorem ev_Search_nextOrder   (σ : MH) {o} (h : Search_nextOrder σ = some o) : Ev m_Search_nextOrder 2 [.ref 148] σ (some (.int o.1)) o.2 := Ev.of2 (by decide +kernel) rfl (Nat.le_of_ble_eq_true rfl) ⟨.boolean, rfl, nrB (bzo2 h)⟩ (t_Search_nextOrder0 σ (bzo1 h))
def cH_Search_find_2  (s : Int32 × MH) : MC := (some 2, [some (.ref 148), some (.int s.1), none], [], s.2)
def cR_Search_find_2  : ((MH)) → MC := (fun r : MH => ((some 21, [some (.ref 148), none, none], [], r) : MC))
def Search_find_l2 (v1 : Int32) (σ : MH) : Option (((Int32 × MH) ⊕ ((MH)))) := if (6 : Int32) ≤ v1 then some (.inr (σ)) else (if inb v1 6 = true then some (.inl (v1 + (1 : Int32), sI σ 157 v1.toNatClampNeg v1)) else none)
set_option maxRecDepth 20000 in
set_option maxHeartbeats 2000000 in
theorem t_Search_find_l2 (v1 : Int32)  (σ : MH) {o} (h : Search_find_l2 v1 σ = some o) : Go m_Search_find 3 (cH_Search_find_2  (v1, σ)) (cS (cH_Search_find_2 ) (cR_Search_find_2 ) o) := by
  unfold Search_find_l2 at h
  unfold cH_Search_find_2
  refine Go.t (Go_sg bk_Search_find 2 2 (c2 := (some 5, [some (.ref 148), some (.int v1), none], [.int (6 : Int32), .int v1], σ)) (ps := []) rfl trivial) ?_
  refine Go_icmp_ge bk_Search_find 4 rfl (fun c2 => ?_) (fun c2 => ?_)
  · have h := ifT c2 h
    have h := Option.some.inj h
    subst h
    exact Go.fg (LSub.cs (LSub.cn (LSub.cn (LSub.nil))))
  · have h := ifF c2 h
    obtain ⟨g1, h⟩ := gdS h
    refine Go.t (Go_sg bk_Search_find 5 7 (c2 := (some 2, [some (.ref 148), some (.int (v1 + (1 : Int32))), none], [], sI σ 157 v1.toNatClampNeg v1)) (ps := [shk 148 = 8, IA 157 6 ∧ inb v1 6 = true]) rfl ⟨rfl, ⟨⟨rfl, rfl⟩, g1⟩, trivial⟩) ?_
    have h := Option.some.inj h
    subst h
    exact Go.fg (LSub.cs (LSub.cs (LSub.cn (LSub.nil))))
def Search_find_L2  (s : Int32 × MH) : Option ((MH)) := itr (fun s : Int32 × MH => Search_find_l2 s.1 s.2) FU s
set_option maxRecDepth 20000 in
set_option maxHeartbeats 2000000 in
theorem t_Search_find_L2   (s : Int32 × MH) {r} (h : Search_find_L2  s = some r) : Go m_Search_find 3 (cH_Search_find_2  s) (cR_Search_find_2  r) := Go_itr (fun s o ho => t_Search_find_l2 s.1 s.2 ho) FU s r h
def cH_Search_find_30  (s : Int32 × Int32 × MH) : MC := (some 30, [some (.ref 148), some (.int s.1), some (.int s.2.1)], [], s.2.2)
def cR_Search_find_30  : ((MH)) → MC := (fun r : MH => ((none, [], [], r) : MC))
def Search_find_l30 (v1 : Int32) (v2 : Int32) (σ : MH) : Option (((Int32 × Int32 × MH) ⊕ ((MH)))) := if v1 = (0 : Int32) then some (.inr (σ)) else (if (120 : Int32) ≤ v2 then some (.inr (σ)) else ((Search_weigh σ).bind fun σ6 => (Search_nextOrder σ6).bind fun (x8, σ9) => some (.inl (x8, v2 + (1 : Int32), σ9))))
set_option maxRecDepth 20000 in
set_option maxHeartbeats 2000000 in
theorem t_Search_find_l30 (v1 : Int32) (v2 : Int32)  (σ : MH) {o} (h : Search_find_l30 v1 v2 σ = some o) : Go m_Search_find 3 (cH_Search_find_30  (v1, v2, σ)) (cS (cH_Search_find_30 ) (cR_Search_find_30 ) o) := by
  unfold Search_find_l30 at h
  unfold cH_Search_find_30
  refine Go.t (Go_sg bk_Search_find 19 1 (c2 := (some 31, [some (.ref 148), some (.int v1), some (.int v2)], [.int v1], σ)) (ps := []) rfl trivial) ?_
  refine Go_if_eq bk_Search_find 20 rfl (fun c12 => ?_) (fun c12 => ?_)
  · have h := ifT c12 h
    have h := Option.some.inj h
    subst h
    exact Go_ret0 bk_Search_find 31 rfl
  · have h := ifF c12 h
    refine Go.t (Go_sg bk_Search_find 21 2 (c2 := (some 37, [some (.ref 148), some (.int v1), some (.int v2)], [.int (120 : Int32), .int v2], σ)) (ps := []) rfl trivial) ?_
    refine Go_icmp_ge bk_Search_find 23 rfl (fun c11 => ?_) (fun c11 => ?_)
    · have h := ifT c11 h
      have h := Option.some.inj h
      subst h
      exact Go_ret0 bk_Search_find 31 rfl
    · have h := ifF c11 h
      refine Go.t (Go_sg bk_Search_find 24 1 (c2 := (some 41, [some (.ref 148), some (.int v1), some (.int v2)], [.ref 148], σ)) (ps := []) rfl trivial) ?_
      obtain ⟨σ6, q7, h⟩ := bdS h
      refine Go.t (Go_callV bk_Search_find 25 rfl nk_Search_weigh tw1067 tw1069 tw31 (ci := 8) rfl (as := []) (S := []) rfl rfl rfl rfl (Nat.le_of_ble_eq_true rfl) (Nat.le_of_ble_eq_true rfl) (ev_Search_weigh _ q7)) ?_
      refine Go.t (Go_sg bk_Search_find 26 1 (c2 := (some 45, [some (.ref 148), some (.int v1), some (.int v2)], [.ref 148], σ6)) (ps := []) rfl trivial) ?_
      obtain ⟨⟨x8, σ9⟩, q10, h⟩ := bdS h
      dsimp only at h
      refine Go.t (Go_callV bk_Search_find 27 rfl nk_Search_nextOrder tw1072 tw1074 tw32 (ci := 8) rfl (as := []) (S := []) rfl rfl rfl rfl (Nat.le_of_ble_eq_true rfl) (Nat.le_of_ble_eq_true rfl) (ev_Search_nextOrder _ q10)) ?_
      refine Go.t (Go_sg bk_Search_find 28 3 (c2 := (some 30, [some (.ref 148), some (.int x8), some (.int (v2 + (1 : Int32)))], [], σ9)) (ps := []) rfl trivial) ?_
      have h := Option.some.inj h
      subst h
      exact Go.fg (LSub.cs (LSub.cs (LSub.cs (LSub.nil))))
def Search_find_L30  (s : Int32 × Int32 × MH) : Option ((MH)) := itr (fun s : Int32 × Int32 × MH => Search_find_l30 s.1 s.2.1 s.2.2) FU s
set_option maxRecDepth 20000 in
set_option maxHeartbeats 2000000 in
theorem t_Search_find_L30   (s : Int32 × Int32 × MH) {r} (h : Search_find_L30  s = some r) : Go m_Search_find 3 (cH_Search_find_30  s) (cR_Search_find_30  r) := Go_itr (fun s o ho => t_Search_find_l30 s.1 s.2.1 s.2.2 ho) FU s r h
def Search_find0  (σ : MH) : Option (MH) := (Search_find_L2 ((0 : Int32), σ)).bind fun z3 => (Search_find_L30 ((1 : Int32), (0 : Int32), sI z3 148 6 (-1 : Int32))).bind fun z13 => some (z13)
set_option maxRecDepth 20000 in
set_option maxHeartbeats 2000000 in
theorem t_Search_find0   (σ : MH) {o} (h : Search_find0 σ = some o) : Go m_Search_find 3 (some 0, [some (.ref 148), none, none], [], σ) ((none, [], [], o)) := by
  unfold Search_find0 at h
  refine Go.t (Go_sg bk_Search_find 0 2 (c2 := (some 2, [some (.ref 148), some (.int (0 : Int32)), none], [], σ)) (ps := []) rfl trivial) ?_
  obtain ⟨z3, q4, h⟩ := bdS h
  refine Go.t (Go.t (Go.fg (LSub.cs (LSub.cs (LSub.cn (LSub.nil))))) (t_Search_find_L2 _ q4)) ?_
  refine Go.t (Go_sg bk_Search_find 12 7 (c2 := (some 30, [some (.ref 148), some (.int (1 : Int32)), some (.int (0 : Int32))], [], sI z3 148 6 (-1 : Int32))) (ps := [shk 148 = 8]) rfl ⟨rfl, trivial⟩) ?_
  obtain ⟨z13, q14, h⟩ := bdS h
  refine Go.t (Go.t (Go.fg (LSub.cs (LSub.cs (LSub.cs (LSub.nil))))) (t_Search_find_L30 _ q14)) ?_
  have h := Option.some.inj h
  subst h
  exact Go.rf
def Search_find  (σ : MH) : Option (MH) := Search_find0 σ
set_option maxRecDepth 20000 in
set_option maxHeartbeats 2000000 in
theorem ev_Search_find   (σ : MH) {o} (h : Search_find σ = some o) : Ev m_Search_find 3 [.ref 148] σ none o := Ev.of2 (by decide +kernel) rfl (Nat.le_of_ble_eq_true rfl) rfl (t_Search_find0 σ h)
def cH_Search_commonDivisor_12  (σ : MH) (s : Int32 × Int32 × Int32) : MC := (some 12, [none, some (.int s.1), some (.int s.2.1), some (.int s.2.2), none], [], σ)
def cR_Search_commonDivisor_12  (σ : MH) : ((Int32)) → MC := (fun r : Int32 => ((none, [], [.int r], σ) : MC))
def Search_commonDivisor_l12 (v1 : Int32) (v2 : Int32) (v3 : Int32) (σ : MH) : Option (((Int32 × Int32 × Int32) ⊕ ((Int32)))) := if (64 : Int32) ≤ v3 then some (.inr (v1)) else (if v2 ≤ (0 : Int32) then some (.inr (v1)) else (if (v2 != 0) = true then some (.inl (v2, jrem v1 v2, v3 + (1 : Int32))) else none))
set_option maxRecDepth 20000 in
set_option maxHeartbeats 2000000 in
theorem t_Search_commonDivisor_l12 (v1 : Int32) (v2 : Int32) (v3 : Int32)  (σ : MH) {o} (h : Search_commonDivisor_l12 v1 v2 v3 σ = some o) : Go m_Search_commonDivisor 1 (cH_Search_commonDivisor_12 σ (v1, v2, v3)) (cS (cH_Search_commonDivisor_12  σ) (cR_Search_commonDivisor_12  σ) o) := by
  unfold Search_commonDivisor_l12 at h
  unfold cH_Search_commonDivisor_12
  refine Go.t (Go_sg bk_Search_commonDivisor 8 2 (c2 := (some 15, [none, some (.int v1), some (.int v2), some (.int v3), none], [.int (64 : Int32), .int v3], σ)) (ps := []) rfl trivial) ?_
  refine Go_icmp_ge bk_Search_commonDivisor 10 rfl (fun c3 => ?_) (fun c3 => ?_)
  · have h := ifT c3 h
    have h := Option.some.inj h
    subst h
    refine Go.t (Go_sg bk_Search_commonDivisor 23 1 (c2 := (some 39, [none, some (.int v1), some (.int v2), some (.int v3), none], [.int v1], σ)) (ps := []) rfl trivial) ?_
    exact Go_reti bk_Search_commonDivisor 24 rfl
  · have h := ifF c3 h
    refine Go.t (Go_sg bk_Search_commonDivisor 11 1 (c2 := (some 19, [none, some (.int v1), some (.int v2), some (.int v3), none], [.int v2], σ)) (ps := []) rfl trivial) ?_
    refine Go_if_le bk_Search_commonDivisor 12 rfl (fun c2 => ?_) (fun c2 => ?_)
    · have h := ifT c2 h
      have h := Option.some.inj h
      subst h
      refine Go.t (Go_sg bk_Search_commonDivisor 23 1 (c2 := (some 39, [none, some (.int v1), some (.int v2), some (.int v3), none], [.int v1], σ)) (ps := []) rfl trivial) ?_
      exact Go_reti bk_Search_commonDivisor 24 rfl
    · have h := ifF c2 h
      obtain ⟨g1, h⟩ := gdS h
      refine Go.t (Go_sg bk_Search_commonDivisor 13 10 (c2 := (some 12, [none, some (.int v2), some (.int (jrem v1 v2)), some (.int (v3 + (1 : Int32))), some (.int (jrem v1 v2))], [], σ)) (ps := [v2 ≠ 0]) rfl ⟨(nzB g1), trivial⟩) ?_
      have h := Option.some.inj h
      subst h
      exact Go.fg (LSub.cn (LSub.cs (LSub.cs (LSub.cs (LSub.cn (LSub.nil))))))
def Search_commonDivisor_L12  (σ : MH) (s : Int32 × Int32 × Int32) : Option ((Int32)) := itr (fun s : Int32 × Int32 × Int32 => Search_commonDivisor_l12 s.1 s.2.1 s.2.2 σ) FU s
set_option maxRecDepth 20000 in
set_option maxHeartbeats 2000000 in
theorem t_Search_commonDivisor_L12   (σ : MH) (s : Int32 × Int32 × Int32) {r} (h : Search_commonDivisor_L12 σ s = some r) : Go m_Search_commonDivisor 1 (cH_Search_commonDivisor_12 σ s) (cR_Search_commonDivisor_12 σ r) := Go_itr (fun s o ho => t_Search_commonDivisor_l12 s.1 s.2.1 s.2.2 σ ho) FU s r h
def Search_commonDivisor0  (σ : MH) : Option (Int32) := (Search_commonDivisor_L12 σ (σ.1 148 6, σ.1 148 7, (0 : Int32))).bind fun z4 => some (z4)
set_option maxRecDepth 20000 in
set_option maxHeartbeats 2000000 in
theorem t_Search_commonDivisor0   (σ : MH) {o} (h : Search_commonDivisor0 σ = some o) : Go m_Search_commonDivisor 1 (some 0, [some (.ref 148), none, none, none, none], [], σ) ((none, [], [.int o], σ)) := by
  unfold Search_commonDivisor0 at h
  refine Go.t (Go_sg bk_Search_commonDivisor 0 8 (c2 := (some 12, [some (.ref 148), some (.int (σ.1 148 6)), some (.int (σ.1 148 7)), some (.int (0 : Int32)), none], [], σ)) (ps := [shk 148 = 8, shk 148 = 8]) rfl ⟨rfl, rfl, trivial⟩) ?_
  obtain ⟨z4, q5, h⟩ := bdS h
  refine Go.t (Go.t (Go.fg (LSub.cn (LSub.cs (LSub.cs (LSub.cs (LSub.cn (LSub.nil))))))) (t_Search_commonDivisor_L12 σ _ q5)) ?_
  have h := Option.some.inj h
  subst h
  exact Go.rf
def Search_commonDivisor  (σ : MH) : Option (Int32) := Search_commonDivisor0 σ
set_option maxRecDepth 20000 in
set_option maxHeartbeats 2000000 in
theorem ev_Search_commonDivisor   (σ : MH) {o} (h : Search_commonDivisor σ = some o) : Ev m_Search_commonDivisor 1 [.ref 148] σ (some (.int o)) σ := Ev.of2 (by decide +kernel) rfl (Nat.le_of_ble_eq_true rfl) ⟨.int, rfl, rfl⟩ (t_Search_commonDivisor0 σ h)
def Search_above0  (σ : MH) : Option (Int32) := (Search_commonDivisor σ).bind fun x1 => if x1 ≤ (0 : Int32) then some (σ.1 148 6) else (if (x1 != 0) = true then some ((σ.1 148 6) / x1) else none)
set_option maxRecDepth 20000 in
set_option maxHeartbeats 2000000 in
theorem t_Search_above0   (σ : MH) {o} (h : Search_above0 σ = some o) : Go m_Search_above 2 (some 0, [some (.ref 148), none], [], σ) ((none, [], [.int o], σ)) := by
  unfold Search_above0 at h
  refine Go.t (Go_sg bk_Search_above 0 1 (c2 := (some 1, [some (.ref 148), none], [.ref 148], σ)) (ps := []) rfl trivial) ?_
  obtain ⟨x1, q3, h⟩ := bdS h
  refine Go.t (Go_callV bk_Search_above 1 rfl nk_Search_commonDivisor tw1084 tw1086 tw34 (ci := 8) rfl (as := []) (S := []) rfl rfl rfl rfl (Nat.le_of_ble_eq_true rfl) (Nat.le_of_ble_eq_true rfl) (ev_Search_commonDivisor _ q3)) ?_
  refine Go.t (Go_sg bk_Search_above 2 2 (c2 := (some 6, [some (.ref 148), some (.int x1)], [.int x1], σ)) (ps := []) rfl trivial) ?_
  refine Go_if_le bk_Search_above 4 rfl (fun c5 => ?_) (fun c5 => ?_)
  · have h := ifT c5 h
    have h := Option.some.inj h
    subst h
    refine Go.t (Go_sg bk_Search_above 10 2 (c2 := (some 22, [some (.ref 148), some (.int x1)], [.int (σ.1 148 6)], σ)) (ps := [shk 148 = 8]) rfl ⟨rfl, trivial⟩) ?_
    exact Go_reti bk_Search_above 12 rfl
  · have h := ifF c5 h
    obtain ⟨g4, h⟩ := gdS h
    refine Go.t (Go_sg bk_Search_above 5 5 (c2 := (some 22, [some (.ref 148), some (.int x1)], [.int ((σ.1 148 6) / x1)], σ)) (ps := [shk 148 = 8, x1 ≠ 0]) rfl ⟨rfl, (nzB g4), trivial⟩) ?_
    have h := Option.some.inj h
    subst h
    exact Go_reti bk_Search_above 12 rfl
def Search_above  (σ : MH) : Option (Int32) := Search_above0 σ
set_option maxRecDepth 20000 in
set_option maxHeartbeats 2000000 in
theorem ev_Search_above   (σ : MH) {o} (h : Search_above σ = some o) : Ev m_Search_above 2 [.ref 148] σ (some (.int o)) σ := Ev.of2 (by decide +kernel) rfl (Nat.le_of_ble_eq_true rfl) ⟨.int, rfl, rfl⟩ (t_Search_above0 σ h)
def Search_below0  (σ : MH) : Option (Int32) := (Search_commonDivisor σ).bind fun x1 => if x1 ≤ (0 : Int32) then some (σ.1 148 7) else (if (x1 != 0) = true then some ((σ.1 148 7) / x1) else none)
set_option maxRecDepth 20000 in
set_option maxHeartbeats 2000000 in
theorem t_Search_below0   (σ : MH) {o} (h : Search_below0 σ = some o) : Go m_Search_below 2 (some 0, [some (.ref 148), none], [], σ) ((none, [], [.int o], σ)) := by
  unfold Search_below0 at h
  refine Go.t (Go_sg bk_Search_below 0 1 (c2 := (some 1, [some (.ref 148), none], [.ref 148], σ)) (ps := []) rfl trivial) ?_
  obtain ⟨x1, q3, h⟩ := bdS h
  refine Go.t (Go_callV bk_Search_below 1 rfl nk_Search_commonDivisor tw1084 tw1086 tw34 (ci := 8) rfl (as := []) (S := []) rfl rfl rfl rfl (Nat.le_of_ble_eq_true rfl) (Nat.le_of_ble_eq_true rfl) (ev_Search_commonDivisor _ q3)) ?_
  refine Go.t (Go_sg bk_Search_below 2 2 (c2 := (some 6, [some (.ref 148), some (.int x1)], [.int x1], σ)) (ps := []) rfl trivial) ?_
  refine Go_if_le bk_Search_below 4 rfl (fun c5 => ?_) (fun c5 => ?_)
  · have h := ifT c5 h
    have h := Option.some.inj h
    subst h
    refine Go.t (Go_sg bk_Search_below 10 2 (c2 := (some 22, [some (.ref 148), some (.int x1)], [.int (σ.1 148 7)], σ)) (ps := [shk 148 = 8]) rfl ⟨rfl, trivial⟩) ?_
    exact Go_reti bk_Search_below 12 rfl
  · have h := ifF c5 h
    obtain ⟨g4, h⟩ := gdS h
    refine Go.t (Go_sg bk_Search_below 5 5 (c2 := (some 22, [some (.ref 148), some (.int x1)], [.int ((σ.1 148 7) / x1)], σ)) (ps := [shk 148 = 8, x1 ≠ 0]) rfl ⟨rfl, (nzB g4), trivial⟩) ?_
    have h := Option.some.inj h
    subst h
    exact Go_reti bk_Search_below 12 rfl
def Search_below  (σ : MH) : Option (Int32) := Search_below0 σ
set_option maxRecDepth 20000 in
set_option maxHeartbeats 2000000 in
theorem ev_Search_below   (σ : MH) {o} (h : Search_below σ = some o) : Ev m_Search_below 2 [.ref 148] σ (some (.int o)) σ := Ev.of2 (by decide +kernel) rfl (Nat.le_of_ble_eq_true rfl) ⟨.int, rfl, rfl⟩ (t_Search_below0 σ h)
def Pz_search_b88 (v2 : Int32) (v4 : Int32) (σ : MH) : Option (Int32 × MH) := (Search_find σ).bind fun σ5 => if v4 = (0 : Int32) then (if v2 = (20 : Int32) then ((Search_above σ5).bind fun x10 => some (x10, σ5)) else ((Search_below σ5).bind fun x7 => some (x7, σ5))) else (if inb v2 6 = true then some (σ5.1 158 v2.toNatClampNeg, σ5) else none)
set_option maxRecDepth 20000 in
set_option maxHeartbeats 2000000 in
theorem t_Pz_search_b88 (v2 : Int32) (v4 : Int32)   (σ : MH) {o} (h : Pz_search_b88 v2 v4 σ = some o) : Go m_Pz_search 4 (some 88, [some (.ref 0), none, some (.int v2), none, some (.int v4)], [], σ) ((none, [], [.int o.1], o.2)) := by
  unfold Pz_search_b88 at h
  refine Go.t (Go_sg bk_Pz_search 49 2 (c2 := (some 92, [some (.ref 0), none, some (.int v2), none, some (.int v4)], [.ref 148], σ)) (ps := [shk 0 = 10]) rfl ⟨rfl, trivial⟩) ?_
  obtain ⟨σ5, q6, h⟩ := bdS h
  refine Go.t (Go_callV bk_Pz_search 51 rfl nk_Search_find tw1063 tw1064 tw1065 (ci := 8) rfl (as := []) (S := []) rfl rfl rfl rfl (Nat.le_of_ble_eq_true rfl) (Nat.le_of_ble_eq_true rfl) (ev_Search_find _ q6)) ?_
  refine Go.t (Go_sg bk_Pz_search 52 1 (c2 := (some 97, [some (.ref 0), none, some (.int v2), none, some (.int v4)], [.int v4], σ5)) (ps := []) rfl trivial) ?_
  refine Go_if_eq bk_Pz_search 53 rfl (fun c15 => ?_) (fun c15 => ?_)
  · have h := ifT c15 h
    refine Go.t (Go_sg bk_Pz_search 60 2 (c2 := (some 113, [some (.ref 0), none, some (.int v2), none, some (.int v4)], [.int (20 : Int32), .int v2], σ5)) (ps := []) rfl trivial) ?_
    refine Go_icmp_ne bk_Pz_search 62 rfl (fun c13 => ?_) (fun c13 => ?_)
    · have h := ifF c13 h
      refine Go.t (Go_sg bk_Pz_search 67 2 (c2 := (some 130, [some (.ref 0), none, some (.int v2), none, some (.int v4)], [.ref 148], σ5)) (ps := [shk 0 = 10]) rfl ⟨rfl, trivial⟩) ?_
      obtain ⟨x7, q9, h⟩ := bdS h
      refine Go.t (Go_callV bk_Pz_search 69 rfl nk_Search_below tw1088 tw1089 tw1090 (ci := 8) rfl (as := []) (S := []) rfl rfl rfl rfl (Nat.le_of_ble_eq_true rfl) (Nat.le_of_ble_eq_true rfl) (ev_Search_below _ q9)) ?_
      have h := Option.some.inj h
      subst h
      exact Go_reti bk_Pz_search 70 rfl
    · have h := ifT c13 h
      refine Go.t (Go_sg bk_Pz_search 63 2 (c2 := (some 120, [some (.ref 0), none, some (.int v2), none, some (.int v4)], [.ref 148], σ5)) (ps := [shk 0 = 10]) rfl ⟨rfl, trivial⟩) ?_
      obtain ⟨x10, q12, h⟩ := bdS h
      refine Go.t (Go_callV bk_Pz_search 65 rfl nk_Search_above tw1080 tw1081 tw1082 (ci := 8) rfl (as := []) (S := []) rfl rfl rfl rfl (Nat.le_of_ble_eq_true rfl) (Nat.le_of_ble_eq_true rfl) (ev_Search_above _ q12)) ?_
      refine Go.t (Go_sg bk_Pz_search 66 1 (c2 := (some 133, [some (.ref 0), none, some (.int v2), none, some (.int v4)], [.int x10], σ5)) (ps := []) rfl trivial) ?_
      have h := Option.some.inj h
      subst h
      exact Go_reti bk_Pz_search 70 rfl
  · have h := ifF c15 h
    obtain ⟨g14, h⟩ := gdS h
    have h := Option.some.inj h
    subst h
    refine Go.t (Go_sg bk_Pz_search 54 5 (c2 := (some 109, [some (.ref 0), none, some (.int v2), none, some (.int v4)], [.int (σ5.1 158 v2.toNatClampNeg)], σ5)) (ps := [shk 0 = 10, shk 148 = 8, IA 158 6 ∧ inb v2 6 = true]) rfl ⟨rfl, rfl, ⟨⟨rfl, rfl⟩, g14⟩, trivial⟩) ?_
    exact Go_reti bk_Pz_search 59 rfl
def Pz_search_b66 (v2 : Int32) (s0 : Int32) (σ : MH) : Option (Int32 × MH) := if v2 = (20 : Int32) then (Pz_search_b88 v2 s0 σ) else (if v2 = (21 : Int32) then (Pz_search_b88 v2 s0 σ) else (if s0 = (0 : Int32) then some ((-3 : Int32), σ) else (Pz_search_b88 v2 s0 σ)))
set_option maxRecDepth 20000 in
set_option maxHeartbeats 2000000 in
theorem t_Pz_search_b66 (v2 : Int32) (s0 : Int32)   (σ : MH) {o} (h : Pz_search_b66 v2 s0 σ = some o) : Go m_Pz_search 4 (some 66, [some (.ref 0), none, some (.int v2), none, none], [.int s0], σ) ((none, [], [.int o.1], o.2)) := by
  unfold Pz_search_b66 at h
  refine Go.t (Go_sg bk_Pz_search 38 3 (c2 := (some 71, [some (.ref 0), none, some (.int v2), none, some (.int s0)], [.int (20 : Int32), .int v2], σ)) (ps := []) rfl trivial) ?_
  refine Go_icmp_eq bk_Pz_search 41 rfl (fun c18 => ?_) (fun c18 => ?_)
  · have h := ifT c18 h
    exact Go.t (Go.fg (LSub.cs (LSub.cn (LSub.cs (LSub.cn (LSub.cs (LSub.nil))))))) (t_Pz_search_b88 v2 s0 σ h)
  · have h := ifF c18 h
    refine Go.t (Go_sg bk_Pz_search 42 2 (c2 := (some 77, [some (.ref 0), none, some (.int v2), none, some (.int s0)], [.int (21 : Int32), .int v2], σ)) (ps := []) rfl trivial) ?_
    refine Go_icmp_eq bk_Pz_search 44 rfl (fun c17 => ?_) (fun c17 => ?_)
    · have h := ifT c17 h
      exact Go.t (Go.fg (LSub.cs (LSub.cn (LSub.cs (LSub.cn (LSub.cs (LSub.nil))))))) (t_Pz_search_b88 v2 s0 σ h)
    · have h := ifF c17 h
      refine Go.t (Go_sg bk_Pz_search 45 1 (c2 := (some 82, [some (.ref 0), none, some (.int v2), none, some (.int s0)], [.int s0], σ)) (ps := []) rfl trivial) ?_
      refine Go_if_ne bk_Pz_search 46 rfl (fun c16 => ?_) (fun c16 => ?_)
      · have h := ifF c16 h
        exact Go.t (Go.fg (LSub.cs (LSub.cn (LSub.cs (LSub.cn (LSub.cs (LSub.nil))))))) (t_Pz_search_b88 v2 s0 σ h)
      · have h := ifT c16 h
        have h := Option.some.inj h
        subst h
        refine Go.t (Go_sg bk_Pz_search 47 1 (c2 := (some 87, [some (.ref 0), none, some (.int v2), none, some (.int s0)], [.int (-3 : Int32)], σ)) (ps := []) rfl trivial) ?_
        exact Go_reti bk_Pz_search 48 rfl
def Pz_search_b65 (v2 : Int32) (σ : MH) : Option (Int32 × MH) := Pz_search_b66 v2 (0 : Int32) σ
set_option maxRecDepth 20000 in
set_option maxHeartbeats 2000000 in
theorem t_Pz_search_b65 (v2 : Int32)   (σ : MH) {o} (h : Pz_search_b65 v2 σ = some o) : Go m_Pz_search 4 (some 65, [some (.ref 0), none, some (.int v2), none, none], [], σ) ((none, [], [.int o.1], o.2)) := by
  unfold Pz_search_b65 at h
  refine Go.t (Go_sg bk_Pz_search 37 1 (c2 := (some 66, [some (.ref 0), none, some (.int v2), none, none], [.int (0 : Int32)], σ)) (ps := []) rfl trivial) ?_
  exact Go.t (Go.fg (LSub.cs (LSub.cn (LSub.cs (LSub.cn (LSub.cn (LSub.nil))))))) (t_Pz_search_b66 v2 (0 : Int32) σ h)
def Pz_search0 (v1 : Int32) (v2 : Int32) (σ : MH) : Option (Int32 × MH) := if v1 < (2 : Int32) then some ((-1 : Int32), σ) else (if (6 : Int32) < v1 then some ((-1 : Int32), σ) else (if v1 + (v1 * v1) ≤ σ.1 109 1 then ((Search_accept v1 σ).bind fun (x1, σ2) => if x1 = (0 : Int32) then some ((-2 : Int32), sI σ2 109 1 (0 : Int32)) else (if v2 < (0 : Int32) then Pz_search_b65 v2 (sI σ2 109 1 (0 : Int32)) else (if v1 ≤ v2 then Pz_search_b65 v2 (sI σ2 109 1 (0 : Int32)) else (Pz_search_b66 v2 (1 : Int32) (sI σ2 109 1 (0 : Int32)))))) else some ((-1 : Int32), σ)))
set_option maxRecDepth 20000 in
set_option maxHeartbeats 2000000 in
theorem t_Pz_search0 (v1 : Int32) (v2 : Int32)  (σ : MH) {o} (h : Pz_search0 v1 v2 σ = some o) : Go m_Pz_search 4 (some 0, [some (.ref 0), some (.int v1), some (.int v2), none, none], [], σ) ((none, [], [.int o.1], o.2)) := by
  unfold Pz_search0 at h
  refine Go.t (Go_sg bk_Pz_search 0 2 (c2 := (some 2, [some (.ref 0), some (.int v1), some (.int v2), none, none], [.int (2 : Int32), .int v1], σ)) (ps := []) rfl trivial) ?_
  refine Go_icmp_lt bk_Pz_search 2 rfl (fun c24 => ?_) (fun c24 => ?_)
  · have h := ifT c24 h
    have h := Option.some.inj h
    subst h
    refine Go.t (Go_sg bk_Pz_search 15 1 (c2 := (some 27, [some (.ref 0), some (.int v1), some (.int v2), none, none], [.int (-1 : Int32)], σ)) (ps := []) rfl trivial) ?_
    exact Go_reti bk_Pz_search 16 rfl
  · have h := ifF c24 h
    refine Go.t (Go_sg bk_Pz_search 3 2 (c2 := (some 8, [some (.ref 0), some (.int v1), some (.int v2), none, none], [.int (6 : Int32), .int v1], σ)) (ps := []) rfl trivial) ?_
    refine Go_icmp_gt bk_Pz_search 5 rfl (fun c23 => ?_) (fun c23 => ?_)
    · have h := ifT c23 h
      have h := Option.some.inj h
      subst h
      refine Go.t (Go_sg bk_Pz_search 15 1 (c2 := (some 27, [some (.ref 0), some (.int v1), some (.int v2), none, none], [.int (-1 : Int32)], σ)) (ps := []) rfl trivial) ?_
      exact Go_reti bk_Pz_search 16 rfl
    · have h := ifF c23 h
      refine Go.t (Go_sg bk_Pz_search 6 8 (c2 := (some 23, [some (.ref 0), some (.int v1), some (.int v2), none, none], [.int (σ.1 109 1), .int (v1 + (v1 * v1))], σ)) (ps := [shk 0 = 10, shk 109 = 9]) rfl ⟨rfl, rfl, trivial⟩) ?_
      refine Go_icmp_le bk_Pz_search 14 rfl (fun c22 => ?_) (fun c22 => ?_)
      · have h := ifT c22 h
        refine Go.t (Go_sg bk_Pz_search 17 3 (c2 := (some 33, [some (.ref 0), some (.int v1), some (.int v2), none, none], [.int v1, .ref 148], σ)) (ps := [shk 0 = 10]) rfl ⟨rfl, trivial⟩) ?_
        obtain ⟨⟨x1, σ2⟩, q3, h⟩ := bdS h
        dsimp only at h
        refine Go.t (Go_callV bk_Pz_search 20 rfl nk_Search_accept tw1057 tw1058 tw1059 (ci := 8) rfl (as := [.int v1]) (S := []) rfl rfl rfl rfl (Nat.le_of_ble_eq_true rfl) (Nat.le_of_ble_eq_true rfl) (ev_Search_accept _ _ q3)) ?_
        refine Go.t (Go_sg bk_Pz_search 21 6 (c2 := (some 46, [some (.ref 0), some (.int v1), some (.int v2), some (.int x1), none], [.int x1], sI σ2 109 1 (0 : Int32))) (ps := [shk 0 = 10, shk 109 = 9]) rfl ⟨rfl, rfl, trivial⟩) ?_
        refine Go_if_ne bk_Pz_search 27 rfl (fun c21 => ?_) (fun c21 => ?_)
        · have h := ifF c21 h
          refine Go.t (Go_sg bk_Pz_search 30 1 (c2 := (some 53, [some (.ref 0), some (.int v1), some (.int v2), some (.int x1), none], [.int v2], sI σ2 109 1 (0 : Int32))) (ps := []) rfl trivial) ?_
          refine Go_if_lt bk_Pz_search 31 rfl (fun c20 => ?_) (fun c20 => ?_)
          · have h := ifT c20 h
            exact Go.t (Go.fg (LSub.cs (LSub.cn (LSub.cs (LSub.cn (LSub.cn (LSub.nil))))))) (t_Pz_search_b65 v2 (sI σ2 109 1 (0 : Int32)) h)
          · have h := ifF c20 h
            refine Go.t (Go_sg bk_Pz_search 32 2 (c2 := (some 58, [some (.ref 0), some (.int v1), some (.int v2), some (.int x1), none], [.int v1, .int v2], sI σ2 109 1 (0 : Int32))) (ps := []) rfl trivial) ?_
            refine Go_icmp_ge bk_Pz_search 34 rfl (fun c19 => ?_) (fun c19 => ?_)
            · have h := ifT c19 h
              exact Go.t (Go.fg (LSub.cs (LSub.cn (LSub.cs (LSub.cn (LSub.cn (LSub.nil))))))) (t_Pz_search_b65 v2 (sI σ2 109 1 (0 : Int32)) h)
            · have h := ifF c19 h
              refine Go.t (Go_sg bk_Pz_search 35 2 (c2 := (some 66, [some (.ref 0), some (.int v1), some (.int v2), some (.int x1), none], [.int (1 : Int32)], sI σ2 109 1 (0 : Int32))) (ps := []) rfl trivial) ?_
              exact Go.t (Go.fg (LSub.cs (LSub.cn (LSub.cs (LSub.cn (LSub.cn (LSub.nil))))))) (t_Pz_search_b66 v2 (1 : Int32) (sI σ2 109 1 (0 : Int32)) h)
        · have h := ifT c21 h
          have h := Option.some.inj h
          subst h
          refine Go.t (Go_sg bk_Pz_search 28 1 (c2 := (some 51, [some (.ref 0), some (.int v1), some (.int v2), some (.int x1), none], [.int (-2 : Int32)], sI σ2 109 1 (0 : Int32))) (ps := []) rfl trivial) ?_
          exact Go_reti bk_Pz_search 29 rfl
      · have h := ifF c22 h
        have h := Option.some.inj h
        subst h
        refine Go.t (Go_sg bk_Pz_search 15 1 (c2 := (some 27, [some (.ref 0), some (.int v1), some (.int v2), none, none], [.int (-1 : Int32)], σ)) (ps := []) rfl trivial) ?_
        exact Go_reti bk_Pz_search 16 rfl
def Pz_search (v1 : Int32) (v2 : Int32) (σ : MH) : Option (Int32 × MH) := Pz_search0 v1 v2 σ
set_option maxRecDepth 20000 in
set_option maxHeartbeats 2000000 in
theorem ev_Pz_search (v1 : Int32) (v2 : Int32)  (σ : MH) {o} (h : Pz_search v1 v2 σ = some o) : Ev m_Pz_search 4 [.ref 0, .int v1, .int v2] σ (some (.int o.1)) o.2 := Ev.of2 (by decide +kernel) rfl (Nat.le_of_ble_eq_true rfl) ⟨.int, rfl, rfl⟩ (t_Pz_search0 v1 v2 σ h)
def Pz_canSand0 (v1 : Int32) (v2 : Int32) (v3 : Int32) (σ : MH) : Option (Int32) := (Pz_isNumber v1 σ).bind fun x1 => if x1 = (0 : Int32) then some ((0 : Int32)) else ((Pz_isNumber v2 σ).bind fun x4 => if x4 = (0 : Int32) then some ((0 : Int32)) else (if v1 = v2 then some ((0 : Int32)) else (if v3 < (0 : Int32) then some ((0 : Int32)) else (if v3 ≤ (60 : Int32) then (if inb v1 12 = true then if inb v2 12 = true then if (60 : Int32) < (v3 + (σ.1 8 v1.toNatClampNeg)) + (σ.1 8 v2.toNatClampNeg) then some ((0 : Int32)) else some ((1 : Int32)) else none else none) else some ((0 : Int32))))))
set_option maxRecDepth 20000 in
set_option maxHeartbeats 2000000 in
theorem t_Pz_canSand0 (v1 : Int32) (v2 : Int32) (v3 : Int32)  (σ : MH) {o} (h : Pz_canSand0 v1 v2 v3 σ = some o) : Go m_Pz_canSand 2 (some 0, [some (.ref 0), some (.int v1), some (.int v2), some (.int v3)], [], σ) ((none, [], [.int o], σ)) := by
  unfold Pz_canSand0 at h
  refine Go.t (Go_sg bk_Pz_canSand 0 1 (c2 := (some 1, [some (.ref 0), some (.int v1), some (.int v2), some (.int v3)], [.int v1], σ)) (ps := []) rfl trivial) ?_
  obtain ⟨x1, q3, h⟩ := bdS h
  refine Go.t (Go_callS bk_Pz_canSand 1 rfl nk_Pz_isNumber tw552 tw553 (as := [.int v1]) (S := []) rfl rfl rfl (Nat.le_of_ble_eq_true rfl) (Nat.le_of_ble_eq_true rfl) (ev_Pz_isNumber _ _ q3)) ?_
  refine Go_if_eq bk_Pz_canSand 2 rfl (fun c14 => ?_) (fun c14 => ?_)
  · have h := ifT c14 h
    have h := Option.some.inj h
    subst h
    refine Go.t (Go_sg bk_Pz_canSand 14 1 (c2 := (some 30, [some (.ref 0), some (.int v1), some (.int v2), some (.int v3)], [.int (0 : Int32)], σ)) (ps := []) rfl trivial) ?_
    exact Go_reti bk_Pz_canSand 15 rfl
  · have h := ifF c14 h
    refine Go.t (Go_sg bk_Pz_canSand 3 1 (c2 := (some 8, [some (.ref 0), some (.int v1), some (.int v2), some (.int v3)], [.int v2], σ)) (ps := []) rfl trivial) ?_
    obtain ⟨x4, q6, h⟩ := bdS h
    refine Go.t (Go_callS bk_Pz_canSand 4 rfl nk_Pz_isNumber tw552 tw553 (as := [.int v2]) (S := []) rfl rfl rfl (Nat.le_of_ble_eq_true rfl) (Nat.le_of_ble_eq_true rfl) (ev_Pz_isNumber _ _ q6)) ?_
    refine Go_if_eq bk_Pz_canSand 5 rfl (fun c13 => ?_) (fun c13 => ?_)
    · have h := ifT c13 h
      have h := Option.some.inj h
      subst h
      refine Go.t (Go_sg bk_Pz_canSand 14 1 (c2 := (some 30, [some (.ref 0), some (.int v1), some (.int v2), some (.int v3)], [.int (0 : Int32)], σ)) (ps := []) rfl trivial) ?_
      exact Go_reti bk_Pz_canSand 15 rfl
    · have h := ifF c13 h
      refine Go.t (Go_sg bk_Pz_canSand 6 2 (c2 := (some 16, [some (.ref 0), some (.int v1), some (.int v2), some (.int v3)], [.int v2, .int v1], σ)) (ps := []) rfl trivial) ?_
      refine Go_icmp_eq bk_Pz_canSand 8 rfl (fun c12 => ?_) (fun c12 => ?_)
      · have h := ifT c12 h
        have h := Option.some.inj h
        subst h
        refine Go.t (Go_sg bk_Pz_canSand 14 1 (c2 := (some 30, [some (.ref 0), some (.int v1), some (.int v2), some (.int v3)], [.int (0 : Int32)], σ)) (ps := []) rfl trivial) ?_
        exact Go_reti bk_Pz_canSand 15 rfl
      · have h := ifF c12 h
        refine Go.t (Go_sg bk_Pz_canSand 9 1 (c2 := (some 20, [some (.ref 0), some (.int v1), some (.int v2), some (.int v3)], [.int v3], σ)) (ps := []) rfl trivial) ?_
        refine Go_if_lt bk_Pz_canSand 10 rfl (fun c11 => ?_) (fun c11 => ?_)
        · have h := ifT c11 h
          have h := Option.some.inj h
          subst h
          refine Go.t (Go_sg bk_Pz_canSand 14 1 (c2 := (some 30, [some (.ref 0), some (.int v1), some (.int v2), some (.int v3)], [.int (0 : Int32)], σ)) (ps := []) rfl trivial) ?_
          exact Go_reti bk_Pz_canSand 15 rfl
        · have h := ifF c11 h
          refine Go.t (Go_sg bk_Pz_canSand 11 2 (c2 := (some 26, [some (.ref 0), some (.int v1), some (.int v2), some (.int v3)], [.int (60 : Int32), .int v3], σ)) (ps := []) rfl trivial) ?_
          refine Go_icmp_le bk_Pz_canSand 13 rfl (fun c10 => ?_) (fun c10 => ?_)
          · have h := ifT c10 h
            obtain ⟨g7, h⟩ := gdS h
            obtain ⟨g8, h⟩ := gdS h
            refine Go.t (Go_sg bk_Pz_canSand 16 14 (c2 := (some 54, [some (.ref 0), some (.int v1), some (.int v2), some (.int v3)], [.int (60 : Int32), .int ((v3 + (σ.1 8 v1.toNatClampNeg)) + (σ.1 8 v2.toNatClampNeg))], σ)) (ps := [shk 0 = 10, shk 1 = 3, IA 8 12 ∧ inb v1 12 = true, shk 0 = 10, shk 1 = 3, IA 8 12 ∧ inb v2 12 = true]) rfl ⟨rfl, rfl, ⟨⟨rfl, rfl⟩, g7⟩, rfl, rfl, ⟨⟨rfl, rfl⟩, g8⟩, trivial⟩) ?_
            refine Go_icmp_gt bk_Pz_canSand 30 rfl (fun c9 => ?_) (fun c9 => ?_)
            · have h := ifT c9 h
              have h := Option.some.inj h
              subst h
              refine Go.t (Go_sg bk_Pz_canSand 33 1 (c2 := (some 62, [some (.ref 0), some (.int v1), some (.int v2), some (.int v3)], [.int (0 : Int32)], σ)) (ps := []) rfl trivial) ?_
              exact Go_reti bk_Pz_canSand 34 rfl
            · have h := ifF c9 h
              refine Go.t (Go_sg bk_Pz_canSand 31 2 (c2 := (some 62, [some (.ref 0), some (.int v1), some (.int v2), some (.int v3)], [.int (1 : Int32)], σ)) (ps := []) rfl trivial) ?_
              have h := Option.some.inj h
              subst h
              exact Go_reti bk_Pz_canSand 34 rfl
          · have h := ifF c10 h
            have h := Option.some.inj h
            subst h
            refine Go.t (Go_sg bk_Pz_canSand 14 1 (c2 := (some 30, [some (.ref 0), some (.int v1), some (.int v2), some (.int v3)], [.int (0 : Int32)], σ)) (ps := []) rfl trivial) ?_
            exact Go_reti bk_Pz_canSand 15 rfl
def Pz_canSand (v1 : Int32) (v2 : Int32) (v3 : Int32) (σ : MH) : Option (Int32) := bzp (Pz_canSand0 v1 v2 v3 σ)
set_option maxRecDepth 20000 in
set_option maxHeartbeats 2000000 in
theorem ev_Pz_canSand (v1 : Int32) (v2 : Int32) (v3 : Int32)  (σ : MH) {o} (h : Pz_canSand v1 v2 v3 σ = some o) : Ev m_Pz_canSand 2 [.ref 0, .int v1, .int v2, .int v3] σ (some (.int o)) σ := Ev.of2 (by decide +kernel) rfl (Nat.le_of_ble_eq_true rfl) ⟨.boolean, rfl, nrB (bzp2 h)⟩ (t_Pz_canSand0 v1 v2 v3 σ (bzp1 h))
def cH_Arrays_fill_ll_6 (v1 : Int64) (s : Int32 × MH) : MC := (some 6, [some (.ref 164), some (.long v1), none, some (.int s.1), some (.int (3721 : Int32))], [], s.2)
def cR_Arrays_fill_ll_6 (v1 : Int64) : ((MH)) → MC := (fun r : MH => ((none, [], [], r) : MC))
def Arrays_fill_ll_l6 (v1 : Int64) (v3 : Int32) (σ : MH) : Option (((Int32 × MH) ⊕ ((MH)))) := if (3721 : Int32) ≤ v3 then some (.inr (σ)) else (if inb v3 3721 = true then some (.inl (v3 + (1 : Int32), sJ σ 164 v3.toNatClampNeg v1)) else none)
set_option maxRecDepth 20000 in
set_option maxHeartbeats 2000000 in
theorem t_Arrays_fill_ll_l6 (v1 : Int64) (v3 : Int32)  (σ : MH) {o} (h : Arrays_fill_ll_l6 v1 v3 σ = some o) : Go m_Arrays_fill_ll 1 (cH_Arrays_fill_ll_6 v1 (v3, σ)) (cS (cH_Arrays_fill_ll_6 v1) (cR_Arrays_fill_ll_6 v1) o) := by
  unfold Arrays_fill_ll_l6 at h
  unfold cH_Arrays_fill_ll_6
  refine Go.t (Go_sg bk_Arrays_fill_ll 5 2 (c2 := (some 9, [some (.ref 164), some (.long v1), none, some (.int v3), some (.int (3721 : Int32))], [.int (3721 : Int32), .int v3], σ)) (ps := []) rfl trivial) ?_
  refine Go_icmp_ge bk_Arrays_fill_ll 7 rfl (fun c2 => ?_) (fun c2 => ?_)
  · have h := ifT c2 h
    have h := Option.some.inj h
    subst h
    exact Go_ret0 bk_Arrays_fill_ll 14 rfl
  · have h := ifF c2 h
    obtain ⟨g1, h⟩ := gdS h
    refine Go.t (Go_sg bk_Arrays_fill_ll 8 6 (c2 := (some 6, [some (.ref 164), some (.long v1), none, some (.int (v3 + (1 : Int32))), some (.int (3721 : Int32))], [], sJ σ 164 v3.toNatClampNeg v1)) (ps := [IJ 164 3721 ∧ inb v3 3721 = true]) rfl ⟨⟨⟨rfl, rfl⟩, g1⟩, trivial⟩) ?_
    have h := Option.some.inj h
    subst h
    exact Go.fg (LSub.cs (LSub.cs (LSub.cn (LSub.cs (LSub.cs (LSub.nil))))))
def Arrays_fill_ll_L6 (v1 : Int64) (s : Int32 × MH) : Option ((MH)) := itr (fun s : Int32 × MH => Arrays_fill_ll_l6 v1 s.1 s.2) FU s
set_option maxRecDepth 20000 in
set_option maxHeartbeats 2000000 in
theorem t_Arrays_fill_ll_L6 (v1 : Int64)  (s : Int32 × MH) {r} (h : Arrays_fill_ll_L6 v1 s = some r) : Go m_Arrays_fill_ll 1 (cH_Arrays_fill_ll_6 v1 s) (cR_Arrays_fill_ll_6 v1 r) := Go_itr (fun s o ho => t_Arrays_fill_ll_l6 v1 s.1 s.2 ho) FU s r h
def Arrays_fill_ll0 (v1 : Int64) (σ : MH) : Option (MH) := (Arrays_fill_ll_L6 v1 ((0 : Int32), σ)).bind fun z3 => some (z3)
set_option maxRecDepth 20000 in
set_option maxHeartbeats 2000000 in
theorem t_Arrays_fill_ll0 (v1 : Int64)  (σ : MH) {o} (h : Arrays_fill_ll0 v1 σ = some o) : Go m_Arrays_fill_ll 1 (some 0, [some (.ref 164), some (.long v1), none, none, none], [], σ) ((none, [], [], o)) := by
  unfold Arrays_fill_ll0 at h
  refine Go.t (Go_sg bk_Arrays_fill_ll 0 5 (c2 := (some 6, [some (.ref 164), some (.long v1), none, some (.int (0 : Int32)), some (.int (3721 : Int32))], [], σ)) (ps := [IA 164 3721 ∨ IJ 164 3721]) rfl ⟨(Or.inr ⟨rfl, rfl⟩), trivial⟩) ?_
  obtain ⟨z3, q4, h⟩ := bdS h
  refine Go.t (Go.t (Go.fg (LSub.cs (LSub.cs (LSub.cn (LSub.cs (LSub.cs (LSub.nil))))))) (t_Arrays_fill_ll_L6 v1 _ q4)) ?_
  have h := Option.some.inj h
  subst h
  exact Go.rf
def Arrays_fill_ll (v1 : Int64) (σ : MH) : Option (MH) := Arrays_fill_ll0 v1 σ
set_option maxRecDepth 20000 in
set_option maxHeartbeats 2000000 in
theorem ev_Arrays_fill_ll (v1 : Int64)  (σ : MH) {o} (h : Arrays_fill_ll v1 σ = some o) : Ev m_Arrays_fill_ll 1 [.ref 164, .long v1] σ none o := Ev.of2 (by decide +kernel) rfl (Nat.le_of_ble_eq_true rfl) rfl (t_Arrays_fill_ll0 v1 σ h)
def cH_Sander_weigh_35 (v1 : Int32) (v2 : Int32) (v3 : Int32) (v4 : Int64) (s : Int32 × MH) : MC := (some 35, [some (.ref 159), some (.int v1), some (.int v2), some (.int v3), some (.long v4), none, some (.int s.1), none], [], s.2)
def cR_Sander_weigh_35 (v1 : Int32) (v2 : Int32) (v3 : Int32) (v4 : Int64) : ((MH)) → MC := (fun r : MH => ((none, [], [], r) : MC))
def Sander_weigh_l35 (v1 : Int32) (v2 : Int32) (v3 : Int32) (v4 : Int64) (v6 : Int32) (σ : MH) : Option (((Int32 × MH) ⊕ ((MH)))) := if (19 : Int32) ≤ v6 then some (.inr (σ)) else (if inb v6 19 = true then some (.inl (v6 + (1 : Int32), sI (sI (sJ σ 161 v6.toNatClampNeg ((((jabs ((v6 - (9 : Int32)) - v1)).toInt64) * (16983563041 : Int64)) + (v6.toInt64 * v4))) 162 v6.toNatClampNeg (jabs ((v6 - (9 : Int32)) - v2))) 163 v6.toNatClampNeg (jabs ((v6 - (9 : Int32)) - v3)))) else none)
set_option maxRecDepth 20000 in
set_option maxHeartbeats 2000000 in
theorem t_Sander_weigh_l35 (v1 : Int32) (v2 : Int32) (v3 : Int32) (v4 : Int64) (v6 : Int32)  (σ : MH) {o} (h : Sander_weigh_l35 v1 v2 v3 v4 v6 σ = some o) : Go m_Sander_weigh 2 (cH_Sander_weigh_35 v1 v2 v3 v4 (v6, σ)) (cS (cH_Sander_weigh_35 v1 v2 v3 v4) (cR_Sander_weigh_35 v1 v2 v3 v4) o) := by
  unfold Sander_weigh_l35 at h
  unfold cH_Sander_weigh_35
  refine Go.t (Go_sg bk_Sander_weigh 20 2 (c2 := (some 39, [some (.ref 159), some (.int v1), some (.int v2), some (.int v3), some (.long v4), none, some (.int v6), none], [.int (19 : Int32), .int v6], σ)) (ps := []) rfl trivial) ?_
  refine Go_icmp_ge bk_Sander_weigh 22 rfl (fun c2 => ?_) (fun c2 => ?_)
  · have h := ifT c2 h
    have h := Option.some.inj h
    subst h
    exact Go_ret0 bk_Sander_weigh 61 rfl
  · have h := ifF c2 h
    refine Go.t (Go_sg bk_Sander_weigh 23 10 (c2 := (some 59, [some (.ref 159), some (.int v1), some (.int v2), some (.int v3), some (.long v4), none, some (.int v6), some (.int (v6 - (9 : Int32)))], [.int ((v6 - (9 : Int32)) - v1), .int v6, .ref 161], σ)) (ps := [shk 159 = 7]) rfl ⟨rfl, trivial⟩) ?_
    refine Go.t (Go_mabs bk_Sander_weigh 33 rfl tw1113 (Nat.le_of_ble_eq_true rfl) (Nat.le_of_ble_eq_true rfl)) ?_
    obtain ⟨g1, h⟩ := gdS h
    refine Go.t (Go_sg bk_Sander_weigh 34 15 (c2 := (some 85, [some (.ref 159), some (.int v1), some (.int v2), some (.int v3), some (.long v4), none, some (.int v6), some (.int (v6 - (9 : Int32)))], [.int ((v6 - (9 : Int32)) - v2), .int v6, .ref 162], sJ σ 161 v6.toNatClampNeg ((((jabs ((v6 - (9 : Int32)) - v1)).toInt64) * (16983563041 : Int64)) + (v6.toInt64 * v4)))) (ps := [IJ 161 19 ∧ inb v6 19 = true, shk 159 = 7]) rfl ⟨⟨⟨rfl, rfl⟩, g1⟩, rfl, trivial⟩) ?_
    refine Go.t (Go_mabs bk_Sander_weigh 49 rfl tw1113 (Nat.le_of_ble_eq_true rfl) (Nat.le_of_ble_eq_true rfl)) ?_
    refine Go.t (Go_sg bk_Sander_weigh 50 7 (c2 := (some 99, [some (.ref 159), some (.int v1), some (.int v2), some (.int v3), some (.long v4), none, some (.int v6), some (.int (v6 - (9 : Int32)))], [.int ((v6 - (9 : Int32)) - v3), .int v6, .ref 163], sI (sJ σ 161 v6.toNatClampNeg ((((jabs ((v6 - (9 : Int32)) - v1)).toInt64) * (16983563041 : Int64)) + (v6.toInt64 * v4))) 162 v6.toNatClampNeg (jabs ((v6 - (9 : Int32)) - v2)))) (ps := [IA 162 19 ∧ inb v6 19 = true, shk 159 = 7]) rfl ⟨⟨⟨rfl, rfl⟩, g1⟩, rfl, trivial⟩) ?_
    refine Go.t (Go_mabs bk_Sander_weigh 57 rfl tw1113 (Nat.le_of_ble_eq_true rfl) (Nat.le_of_ble_eq_true rfl)) ?_
    refine Go.t (Go_sg bk_Sander_weigh 58 3 (c2 := (some 35, [some (.ref 159), some (.int v1), some (.int v2), some (.int v3), some (.long v4), none, some (.int (v6 + (1 : Int32))), some (.int (v6 - (9 : Int32)))], [], sI (sI (sJ σ 161 v6.toNatClampNeg ((((jabs ((v6 - (9 : Int32)) - v1)).toInt64) * (16983563041 : Int64)) + (v6.toInt64 * v4))) 162 v6.toNatClampNeg (jabs ((v6 - (9 : Int32)) - v2))) 163 v6.toNatClampNeg (jabs ((v6 - (9 : Int32)) - v3)))) (ps := [IA 163 19 ∧ inb v6 19 = true]) rfl ⟨⟨⟨rfl, rfl⟩, g1⟩, trivial⟩) ?_
    have h := Option.some.inj h
    subst h
    exact Go.fg (LSub.cs (LSub.cs (LSub.cs (LSub.cs (LSub.cs (LSub.cn (LSub.cs (LSub.cn (LSub.nil)))))))))
def Sander_weigh_L35 (v1 : Int32) (v2 : Int32) (v3 : Int32) (v4 : Int64) (s : Int32 × MH) : Option ((MH)) := itr (fun s : Int32 × MH => Sander_weigh_l35 v1 v2 v3 v4 s.1 s.2) FU s
set_option maxRecDepth 20000 in
set_option maxHeartbeats 2000000 in
theorem t_Sander_weigh_L35 (v1 : Int32) (v2 : Int32) (v3 : Int32) (v4 : Int64)  (s : Int32 × MH) {r} (h : Sander_weigh_L35 v1 v2 v3 v4 s = some r) : Go m_Sander_weigh 2 (cH_Sander_weigh_35 v1 v2 v3 v4 s) (cR_Sander_weigh_35 v1 v2 v3 v4 r) := Go_itr (fun s o ho => t_Sander_weigh_l35 v1 v2 v3 v4 s.1 s.2 ho) FU s r h
def Sander_weigh0 (v1 : Int32) (v2 : Int32) (v3 : Int32) (v4 : Int64) (σ : MH) : Option (MH) := (Sander_weigh_L35 v1 v2 v3 v4 ((0 : Int32), sI (sI σ 159 9 ((9 : Int32) + (jmin v1 (jmin v2 v3)))) 159 10 ((9 : Int32) + (jmax v1 (jmax v2 v3))))).bind fun z3 => some (z3)
set_option maxRecDepth 20000 in
set_option maxHeartbeats 2000000 in
theorem t_Sander_weigh0 (v1 : Int32) (v2 : Int32) (v3 : Int32) (v4 : Int64)  (σ : MH) {o} (h : Sander_weigh0 v1 v2 v3 v4 σ = some o) : Go m_Sander_weigh 2 (some 0, [some (.ref 159), some (.int v1), some (.int v2), some (.int v3), some (.long v4), none, none, none], [], σ) ((none, [], [], o)) := by
  unfold Sander_weigh0 at h
  refine Go.t (Go_sg bk_Sander_weigh 0 5 (c2 := (some 6, [some (.ref 159), some (.int v1), some (.int v2), some (.int v3), some (.long v4), none, none, none], [.int v3, .int v2, .int v1, .int (9 : Int32), .ref 159], σ)) (ps := []) rfl trivial) ?_
  refine Go.t (Go_mmin bk_Sander_weigh 5 rfl tw1104 (Nat.le_of_ble_eq_true rfl) (Nat.le_of_ble_eq_true rfl)) ?_
  refine Go.t (Go_mmin bk_Sander_weigh 6 rfl tw1104 (Nat.le_of_ble_eq_true rfl) (Nat.le_of_ble_eq_true rfl)) ?_
  refine Go.t (Go_sg bk_Sander_weigh 7 7 (c2 := (some 22, [some (.ref 159), some (.int v1), some (.int v2), some (.int v3), some (.long v4), none, none, none], [.int v3, .int v2, .int v1, .int (9 : Int32), .ref 159], sI σ 159 9 ((9 : Int32) + (jmin v1 (jmin v2 v3))))) (ps := [shk 159 = 7]) rfl ⟨rfl, trivial⟩) ?_
  refine Go.t (Go_mmax bk_Sander_weigh 14 rfl tw1105 (Nat.le_of_ble_eq_true rfl) (Nat.le_of_ble_eq_true rfl)) ?_
  refine Go.t (Go_mmax bk_Sander_weigh 15 rfl tw1105 (Nat.le_of_ble_eq_true rfl) (Nat.le_of_ble_eq_true rfl)) ?_
  refine Go.t (Go_sg bk_Sander_weigh 16 4 (c2 := (some 35, [some (.ref 159), some (.int v1), some (.int v2), some (.int v3), some (.long v4), none, some (.int (0 : Int32)), none], [], sI (sI σ 159 9 ((9 : Int32) + (jmin v1 (jmin v2 v3)))) 159 10 ((9 : Int32) + (jmax v1 (jmax v2 v3))))) (ps := [shk 159 = 7]) rfl ⟨rfl, trivial⟩) ?_
  obtain ⟨z3, q4, h⟩ := bdS h
  refine Go.t (Go.t (Go.fg (LSub.cs (LSub.cs (LSub.cs (LSub.cs (LSub.cs (LSub.cn (LSub.cs (LSub.cn (LSub.nil)))))))))) (t_Sander_weigh_L35 v1 v2 v3 v4 _ q4)) ?_
  have h := Option.some.inj h
  subst h
  exact Go.rf
def Sander_weigh (v1 : Int32) (v2 : Int32) (v3 : Int32) (v4 : Int64) (σ : MH) : Option (MH) := Sander_weigh0 v1 v2 v3 v4 σ
set_option maxRecDepth 20000 in
set_option maxHeartbeats 2000000 in
theorem ev_Sander_weigh (v1 : Int32) (v2 : Int32) (v3 : Int32) (v4 : Int64)  (σ : MH) {o} (h : Sander_weigh v1 v2 v3 v4 σ = some o) : Ev m_Sander_weigh 2 [.ref 159, .int v1, .int v2, .int v3, .long v4] σ none o := Ev.of2 (by decide +kernel) rfl (Nat.le_of_ble_eq_true rfl) rfl (t_Sander_weigh0 v1 v2 v3 v4 σ h)
def Sander_leastOf_b20  (σ : MH) : Option (Int64) := some ((4611686018427387904 : Int64))
set_option maxRecDepth 20000 in
set_option maxHeartbeats 2000000 in
theorem t_Sander_leastOf_b20    (σ : MH) {o} (h : Sander_leastOf_b20 σ = some o) : Go m_Sander_leastOf 1 (some 20, [none, none, none], [], σ) ((none, [], [.long o], σ)) := by
  unfold Sander_leastOf_b20 at h
  refine Go.t (Go_sg bk_Sander_leastOf 10 2 (c2 := (some 37, [none, none, none], [.long (4611686018427387904 : Int64)], σ)) (ps := []) rfl trivial) ?_
  have h := Option.some.inj h
  subst h
  exact Go_retl bk_Sander_leastOf 20 rfl
def Sander_leastOf0 (v1 : Int32) (v2 : Int32) (σ : MH) : Option (Int64) := if v1 < (0 : Int32) then (Sander_leastOf_b20 σ) else (if v2 < (0 : Int32) then (Sander_leastOf_b20 σ) else (if (61 : Int32) ≤ v1 then (Sander_leastOf_b20 σ) else (if v2 < (61 : Int32) then (if inb ((v1 * (61 : Int32)) + v2) 3721 = true then some (σ.2 164 ((v1 * (61 : Int32)) + v2).toNatClampNeg) else none) else (Sander_leastOf_b20 σ))))
set_option maxRecDepth 20000 in
set_option maxHeartbeats 2000000 in
theorem t_Sander_leastOf0 (v1 : Int32) (v2 : Int32)  (σ : MH) {o} (h : Sander_leastOf0 v1 v2 σ = some o) : Go m_Sander_leastOf 1 (some 0, [some (.ref 159), some (.int v1), some (.int v2)], [], σ) ((none, [], [.long o], σ)) := by
  unfold Sander_leastOf0 at h
  refine Go.t (Go_sg bk_Sander_leastOf 0 1 (c2 := (some 1, [some (.ref 159), some (.int v1), some (.int v2)], [.int v1], σ)) (ps := []) rfl trivial) ?_
  refine Go_if_lt bk_Sander_leastOf 1 rfl (fun c5 => ?_) (fun c5 => ?_)
  · have h := ifT c5 h
    exact Go.t (Go.fg (LSub.cn (LSub.cn (LSub.cn (LSub.nil))))) (t_Sander_leastOf_b20 σ h)
  · have h := ifF c5 h
    refine Go.t (Go_sg bk_Sander_leastOf 2 1 (c2 := (some 5, [some (.ref 159), some (.int v1), some (.int v2)], [.int v2], σ)) (ps := []) rfl trivial) ?_
    refine Go_if_lt bk_Sander_leastOf 3 rfl (fun c4 => ?_) (fun c4 => ?_)
    · have h := ifT c4 h
      exact Go.t (Go.fg (LSub.cn (LSub.cn (LSub.cn (LSub.nil))))) (t_Sander_leastOf_b20 σ h)
    · have h := ifF c4 h
      refine Go.t (Go_sg bk_Sander_leastOf 4 2 (c2 := (some 11, [some (.ref 159), some (.int v1), some (.int v2)], [.int (61 : Int32), .int v1], σ)) (ps := []) rfl trivial) ?_
      refine Go_icmp_ge bk_Sander_leastOf 6 rfl (fun c3 => ?_) (fun c3 => ?_)
      · have h := ifT c3 h
        exact Go.t (Go.fg (LSub.cn (LSub.cn (LSub.cn (LSub.nil))))) (t_Sander_leastOf_b20 σ h)
      · have h := ifF c3 h
        refine Go.t (Go_sg bk_Sander_leastOf 7 2 (c2 := (some 17, [some (.ref 159), some (.int v1), some (.int v2)], [.int (61 : Int32), .int v2], σ)) (ps := []) rfl trivial) ?_
        refine Go_icmp_lt bk_Sander_leastOf 9 rfl (fun c2 => ?_) (fun c2 => ?_)
        · have h := ifT c2 h
          obtain ⟨g1, h⟩ := gdS h
          have h := Option.some.inj h
          subst h
          refine Go.t (Go_sg bk_Sander_leastOf 12 8 (c2 := (some 37, [some (.ref 159), some (.int v1), some (.int v2)], [.long (σ.2 164 ((v1 * (61 : Int32)) + v2).toNatClampNeg)], σ)) (ps := [shk 159 = 7, IJ 164 3721 ∧ inb ((v1 * (61 : Int32)) + v2) 3721 = true]) rfl ⟨rfl, ⟨⟨rfl, rfl⟩, g1⟩, trivial⟩) ?_
          exact Go_retl bk_Sander_leastOf 20 rfl
        · have h := ifF c2 h
          exact Go.t (Go.fg (LSub.cn (LSub.cn (LSub.cn (LSub.nil))))) (t_Sander_leastOf_b20 σ h)
def Sander_leastOf (v1 : Int32) (v2 : Int32) (σ : MH) : Option (Int64) := Sander_leastOf0 v1 v2 σ
set_option maxRecDepth 20000 in
set_option maxHeartbeats 2000000 in
theorem ev_Sander_leastOf (v1 : Int32) (v2 : Int32)  (σ : MH) {o} (h : Sander_leastOf v1 v2 σ = some o) : Ev m_Sander_leastOf 1 [.ref 159, .int v1, .int v2] σ (some (.long o)) σ := Ev.of2 (by decide +kernel) rfl (Nat.le_of_ble_eq_true rfl) rfl (t_Sander_leastOf0 v1 v2 σ h)
def cH_Sander_bestHere_14 (v1 : Int32) (v2 : Int32) (σ : MH) (s : Int64 × Int32) : MC := (some 14, [some (.ref 159), some (.int v1), some (.int v2), some (.long s.1), none, some (.int s.2), none, none], [], σ)
def cR_Sander_bestHere_14 (v1 : Int32) (v2 : Int32) (σ : MH) : ((Int64)) → MC := (fun r : Int64 => ((none, [], [.long r], σ) : MC))
def Sander_bestHere_b78 (v1 : Int32) (v2 : Int32) (v3 : Int64) (v5 : Int32) (σ : MH) : Option (((Int64 × Int32) ⊕ ((Int64)))) := some (.inl (v3, v5 + (1 : Int32)))
set_option maxRecDepth 20000 in
set_option maxHeartbeats 2000000 in
theorem t_Sander_bestHere_b78 (v1 : Int32) (v2 : Int32) (v3 : Int64) (v5 : Int32)   (σ : MH) {o} (h : Sander_bestHere_b78 v1 v2 v3 v5 σ = some o) : Go m_Sander_bestHere 2 (some 78, [some (.ref 159), some (.int v1), some (.int v2), some (.long v3), none, some (.int v5), none, none], [], σ) (cS (cH_Sander_bestHere_14 v1 v2 σ) (cR_Sander_bestHere_14 v1 v2 σ) o) := by
  unfold Sander_bestHere_b78 at h
  refine Go.t (Go_sg bk_Sander_bestHere 42 2 (c2 := (some 14, [some (.ref 159), some (.int v1), some (.int v2), some (.long v3), none, some (.int (v5 + (1 : Int32))), none, none], [], σ)) (ps := []) rfl trivial) ?_
  have h := Option.some.inj h
  subst h
  exact Go.fg (LSub.cs (LSub.cs (LSub.cs (LSub.cs (LSub.cn (LSub.cs (LSub.cn (LSub.cn (LSub.nil)))))))))
def Sander_bestHere_l14 (v1 : Int32) (v2 : Int32) (v3 : Int64) (v5 : Int32) (σ : MH) : Option (((Int64 × Int32) ⊕ ((Int64)))) := if σ.1 159 10 < v5 then some (.inr (v3)) else (if (19 : Int32) ≤ v5 then some (.inr (v3)) else (if inb v5 19 = true then (Sander_leastOf (v1 - (σ.1 162 v5.toNatClampNeg)) (v2 - (σ.1 163 v5.toNatClampNeg)) σ).bind fun x2 => if lg_cmp x2 (4611686018427387904 : Int64) = (0 : Int32) then (Sander_bestHere_b78 v1 v2 v3 v5 σ) else (Sander_bestHere_b78 v1 v2 (jlmin v3 (x2 + (σ.2 161 v5.toNatClampNeg))) v5 σ) else none))
set_option maxRecDepth 20000 in
set_option maxHeartbeats 2000000 in
theorem t_Sander_bestHere_l14 (v1 : Int32) (v2 : Int32) (v3 : Int64) (v5 : Int32)  (σ : MH) {o} (h : Sander_bestHere_l14 v1 v2 v3 v5 σ = some o) : Go m_Sander_bestHere 2 (cH_Sander_bestHere_14 v1 v2 σ (v3, v5)) (cS (cH_Sander_bestHere_14 v1 v2 σ) (cR_Sander_bestHere_14 v1 v2 σ) o) := by
  unfold Sander_bestHere_l14 at h
  unfold cH_Sander_bestHere_14
  refine Go.t (Go_sg bk_Sander_bestHere 7 3 (c2 := (some 20, [some (.ref 159), some (.int v1), some (.int v2), some (.long v3), none, some (.int v5), none, none], [.int (σ.1 159 10), .int v5], σ)) (ps := [shk 159 = 7]) rfl ⟨rfl, trivial⟩) ?_
  refine Go_icmp_gt bk_Sander_bestHere 10 rfl (fun c7 => ?_) (fun c7 => ?_)
  · have h := ifT c7 h
    have h := Option.some.inj h
    subst h
    refine Go.t (Go_sg bk_Sander_bestHere 44 1 (c2 := (some 85, [some (.ref 159), some (.int v1), some (.int v2), some (.long v3), none, some (.int v5), none, none], [.long v3], σ)) (ps := []) rfl trivial) ?_
    exact Go_retl bk_Sander_bestHere 45 rfl
  · have h := ifF c7 h
    refine Go.t (Go_sg bk_Sander_bestHere 11 2 (c2 := (some 27, [some (.ref 159), some (.int v1), some (.int v2), some (.long v3), none, some (.int v5), none, none], [.int (19 : Int32), .int v5], σ)) (ps := []) rfl trivial) ?_
    refine Go_icmp_ge bk_Sander_bestHere 13 rfl (fun c6 => ?_) (fun c6 => ?_)
    · have h := ifT c6 h
      have h := Option.some.inj h
      subst h
      refine Go.t (Go_sg bk_Sander_bestHere 44 1 (c2 := (some 85, [some (.ref 159), some (.int v1), some (.int v2), some (.long v3), none, some (.int v5), none, none], [.long v3], σ)) (ps := []) rfl trivial) ?_
      exact Go_retl bk_Sander_bestHere 45 rfl
    · have h := ifF c6 h
      obtain ⟨g1, h⟩ := gdS h
      refine Go.t (Go_sg bk_Sander_bestHere 14 13 (c2 := (some 49, [some (.ref 159), some (.int v1), some (.int v2), some (.long v3), none, some (.int v5), none, none], [.int (v2 - (σ.1 163 v5.toNatClampNeg)), .int (v1 - (σ.1 162 v5.toNatClampNeg)), .ref 159], σ)) (ps := [shk 159 = 7, IA 162 19 ∧ inb v5 19 = true, shk 159 = 7, IA 163 19 ∧ inb v5 19 = true]) rfl ⟨rfl, ⟨⟨rfl, rfl⟩, g1⟩, rfl, ⟨⟨rfl, rfl⟩, g1⟩, trivial⟩) ?_
      obtain ⟨x2, q4, h⟩ := bdS h
      refine Go.t (Go_callV bk_Sander_bestHere 27 rfl nk_Sander_leastOf tw1121 tw1123 tw38 (ci := 7) rfl (as := [.int (v1 - (σ.1 162 v5.toNatClampNeg)), .int (v2 - (σ.1 163 v5.toNatClampNeg))]) (S := []) rfl rfl rfl rfl (Nat.le_of_ble_eq_true rfl) (Nat.le_of_ble_eq_true rfl) (ev_Sander_leastOf _ _ _ q4)) ?_
      refine Go.t (Go_sg bk_Sander_bestHere 28 4 (c2 := (some 60, [some (.ref 159), some (.int v1), some (.int v2), some (.long v3), none, some (.int v5), some (.long x2), none], [.int (lg_cmp x2 (4611686018427387904 : Int64))], σ)) (ps := []) rfl trivial) ?_
      refine Go_if_eq bk_Sander_bestHere 32 rfl (fun c5 => ?_) (fun c5 => ?_)
      · have h := ifT c5 h
        exact Go.t (Go.fg (LSub.cs (LSub.cs (LSub.cs (LSub.cs (LSub.cn (LSub.cs (LSub.cn (LSub.cn (LSub.nil)))))))))) (t_Sander_bestHere_b78 v1 v2 v3 v5 σ h)
      · have h := ifF c5 h
        refine Go.t (Go_sg bk_Sander_bestHere 33 7 (c2 := (some 74, [some (.ref 159), some (.int v1), some (.int v2), some (.long v3), none, some (.int v5), some (.long x2), none], [.long (x2 + (σ.2 161 v5.toNatClampNeg)), .long v3], σ)) (ps := [shk 159 = 7, IJ 161 19 ∧ inb v5 19 = true]) rfl ⟨rfl, ⟨⟨rfl, rfl⟩, g1⟩, trivial⟩) ?_
        refine Go.t (Go_mlmin bk_Sander_bestHere 40 rfl tw1125 (Nat.le_of_ble_eq_true rfl) (Nat.le_of_ble_eq_true rfl)) ?_
        refine Go.t (Go_sg bk_Sander_bestHere 41 1 (c2 := (some 78, [some (.ref 159), some (.int v1), some (.int v2), some (.long (jlmin v3 (x2 + (σ.2 161 v5.toNatClampNeg)))), none, some (.int v5), some (.long x2), none], [], σ)) (ps := []) rfl trivial) ?_
        exact Go.t (Go.fg (LSub.cs (LSub.cs (LSub.cs (LSub.cs (LSub.cn (LSub.cs (LSub.cn (LSub.cn (LSub.nil)))))))))) (t_Sander_bestHere_b78 v1 v2 (jlmin v3 (x2 + (σ.2 161 v5.toNatClampNeg))) v5 σ h)
def Sander_bestHere_L14 (v1 : Int32) (v2 : Int32) (σ : MH) (s : Int64 × Int32) : Option ((Int64)) := itr (fun s : Int64 × Int32 => Sander_bestHere_l14 v1 v2 s.1 s.2 σ) FU s
set_option maxRecDepth 20000 in
set_option maxHeartbeats 2000000 in
theorem t_Sander_bestHere_L14 (v1 : Int32) (v2 : Int32)  (σ : MH) (s : Int64 × Int32) {r} (h : Sander_bestHere_L14 v1 v2 σ s = some r) : Go m_Sander_bestHere 2 (cH_Sander_bestHere_14 v1 v2 σ s) (cR_Sander_bestHere_14 v1 v2 σ r) := Go_itr (fun s o ho => t_Sander_bestHere_l14 v1 v2 s.1 s.2 σ ho) FU s r h
def Sander_bestHere0 (v1 : Int32) (v2 : Int32) (σ : MH) : Option (Int64) := (Sander_bestHere_L14 v1 v2 σ ((4611686018427387904 : Int64), jmax (0 : Int32) (σ.1 159 9))).bind fun z8 => some (z8)
set_option maxRecDepth 20000 in
set_option maxHeartbeats 2000000 in
theorem t_Sander_bestHere0 (v1 : Int32) (v2 : Int32)  (σ : MH) {o} (h : Sander_bestHere0 v1 v2 σ = some o) : Go m_Sander_bestHere 2 (some 0, [some (.ref 159), some (.int v1), some (.int v2), none, none, none, none, none], [], σ) ((none, [], [.long o], σ)) := by
  unfold Sander_bestHere0 at h
  refine Go.t (Go_sg bk_Sander_bestHere 0 5 (c2 := (some 9, [some (.ref 159), some (.int v1), some (.int v2), some (.long (4611686018427387904 : Int64)), none, none, none, none], [.int (σ.1 159 9), .int (0 : Int32)], σ)) (ps := [shk 159 = 7]) rfl ⟨rfl, trivial⟩) ?_
  refine Go.t (Go_mmax bk_Sander_bestHere 5 rfl tw1105 (Nat.le_of_ble_eq_true rfl) (Nat.le_of_ble_eq_true rfl)) ?_
  refine Go.t (Go_sg bk_Sander_bestHere 6 1 (c2 := (some 14, [some (.ref 159), some (.int v1), some (.int v2), some (.long (4611686018427387904 : Int64)), none, some (.int (jmax (0 : Int32) (σ.1 159 9))), none, none], [], σ)) (ps := []) rfl trivial) ?_
  obtain ⟨z8, q9, h⟩ := bdS h
  refine Go.t (Go.t (Go.fg (LSub.cs (LSub.cs (LSub.cs (LSub.cs (LSub.cn (LSub.cs (LSub.cn (LSub.cn (LSub.nil)))))))))) (t_Sander_bestHere_L14 v1 v2 σ _ q9)) ?_
  have h := Option.some.inj h
  subst h
  exact Go.rf
def Sander_bestHere (v1 : Int32) (v2 : Int32) (σ : MH) : Option (Int64) := Sander_bestHere0 v1 v2 σ
set_option maxRecDepth 20000 in
set_option maxHeartbeats 2000000 in
theorem ev_Sander_bestHere (v1 : Int32) (v2 : Int32)  (σ : MH) {o} (h : Sander_bestHere v1 v2 σ = some o) : Ev m_Sander_bestHere 2 [.ref 159, .int v1, .int v2] σ (some (.long o)) σ := Ev.of2 (by decide +kernel) rfl (Nat.le_of_ble_eq_true rfl) rfl (t_Sander_bestHere0 v1 v2 σ h)
def cH_Sander_read_34  (s : Int64 × Int32 × MH) : MC := (some 34, [some (.ref 159), none, none, some (.long s.1), none, some (.int s.2.1)], [], s.2.2)
def cR_Sander_read_34  : ((Int64 × MH)) → MC := (fun r : Int64 × MH => ((some 67, [some (.ref 159), none, none, some (.long r.1), none, none], [], r.2) : MC))
def Sander_read_l34 (v3 : Int64) (v5 : Int32) (σ : MH) : Option (((Int64 × Int32 × MH) ⊕ ((Int64 × MH)))) := if v5 < (0 : Int32) then some (.inr (v3, σ)) else (if inb v5 8 = true then some (.inl (v3 / (19 : Int64), v5 + (-1 : Int32), sI σ 160 v5.toNatClampNeg (((jlrem v3 (19 : Int64)).toInt32) - (9 : Int32)))) else none)
set_option maxRecDepth 20000 in
set_option maxHeartbeats 2000000 in
theorem t_Sander_read_l34 (v3 : Int64) (v5 : Int32)  (σ : MH) {o} (h : Sander_read_l34 v3 v5 σ = some o) : Go m_Sander_read 1 (cH_Sander_read_34  (v3, v5, σ)) (cS (cH_Sander_read_34 ) (cR_Sander_read_34 ) o) := by
  unfold Sander_read_l34 at h
  unfold cH_Sander_read_34
  refine Go.t (Go_sg bk_Sander_read 18 1 (c2 := (some 36, [some (.ref 159), none, none, some (.long v3), none, some (.int v5)], [.int v5], σ)) (ps := []) rfl trivial) ?_
  refine Go_if_lt bk_Sander_read 19 rfl (fun c3 => ?_) (fun c3 => ?_)
  · have h := ifT c3 h
    have h := Option.some.inj h
    subst h
    exact Go.fg (LSub.cs (LSub.cn (LSub.cn (LSub.cs (LSub.cn (LSub.cn (LSub.nil)))))))
  · have h := ifF c3 h
    obtain ⟨g2, h⟩ := gdS h
    refine Go.t (Go_sg bk_Sander_read 20 16 (c2 := (some 34, [some (.ref 159), none, none, some (.long (v3 / (19 : Int64))), none, some (.int (v5 + (-1 : Int32)))], [], sI σ 160 v5.toNatClampNeg (((jlrem v3 (19 : Int64)).toInt32) - (9 : Int32)))) (ps := [shk 159 = 7, (19 : Int64) ≠ 0, IA 160 8 ∧ inb v5 8 = true, (19 : Int64) ≠ 0]) rfl ⟨rfl, (by decide), ⟨⟨rfl, rfl⟩, g2⟩, (by decide), trivial⟩) ?_
    have h := Option.some.inj h
    subst h
    exact Go.fg (LSub.cs (LSub.cn (LSub.cn (LSub.cs (LSub.cn (LSub.cs (LSub.nil)))))))
def Sander_read_L34  (s : Int64 × Int32 × MH) : Option ((Int64 × MH)) := itr (fun s : Int64 × Int32 × MH => Sander_read_l34 s.1 s.2.1 s.2.2) FU s
set_option maxRecDepth 20000 in
set_option maxHeartbeats 2000000 in
theorem t_Sander_read_L34   (s : Int64 × Int32 × MH) {r} (h : Sander_read_L34  s = some r) : Go m_Sander_read 1 (cH_Sander_read_34  s) (cR_Sander_read_34  r) := Go_itr (fun s o ho => t_Sander_read_l34 s.1 s.2.1 s.2.2 ho) FU s r h
def Sander_read_b29 (s0 : Int64) (σ : MH) : Option (MH) := (Sander_read_L34 (s0, (7 : Int32), σ)).bind fun z4 => some (sI z4.2 159 2 z4.1.toInt32)
set_option maxRecDepth 20000 in
set_option maxHeartbeats 2000000 in
theorem t_Sander_read_b29 (s0 : Int64)   (σ : MH) {o} (h : Sander_read_b29 s0 σ = some o) : Go m_Sander_read 1 (some 29, [some (.ref 159), none, none, none, none, none], [.long s0], σ) ((none, [], [], o)) := by
  unfold Sander_read_b29 at h
  refine Go.t (Go_sg bk_Sander_read 15 3 (c2 := (some 34, [some (.ref 159), none, none, some (.long s0), none, some (.int (7 : Int32))], [], σ)) (ps := []) rfl trivial) ?_
  obtain ⟨z4, q5, h⟩ := bdS h
  refine Go.t (Go.t (Go.fg (LSub.cs (LSub.cn (LSub.cn (LSub.cs (LSub.cn (LSub.cs (LSub.nil)))))))) (t_Sander_read_L34 _ q5)) ?_
  have h := Option.some.inj h
  subst h
  refine Go.t (Go_sg bk_Sander_read 36 4 (c2 := (some 73, [some (.ref 159), none, none, some (.long z4.1), none, none], [], sI z4.2 159 2 z4.1.toInt32)) (ps := [shk 159 = 7]) rfl ⟨rfl, trivial⟩) ?_
  exact Go_ret0 bk_Sander_read 40 rfl
def Sander_read_b14 (v1 : Int64) (s0 : Int32) (σ : MH) : Option (MH) := if bz s0 = true then if (sI σ 159 1 s0).1 159 1 = (0 : Int32) then (Sander_read_b29 (0 : Int64) (sI σ 159 1 s0)) else Sander_read_b29 v1 (sI σ 159 1 s0) else none
set_option maxRecDepth 20000 in
set_option maxHeartbeats 2000000 in
theorem t_Sander_read_b14 (v1 : Int64) (s0 : Int32)   (σ : MH) {o} (h : Sander_read_b14 v1 s0 σ = some o) : Go m_Sander_read 1 (some 14, [some (.ref 159), some (.long v1), none, none, none, none], [.int s0, .ref 159], σ) ((none, [], [], o)) := by
  unfold Sander_read_b14 at h
  obtain ⟨g1, h⟩ := gdS h
  refine Go.t (Go_sg bk_Sander_read 8 3 (c2 := (some 21, [some (.ref 159), some (.long v1), none, none, none, none], [.int ((sI σ 159 1 s0).1 159 1)], sI σ 159 1 s0)) (ps := [(shk 159 = 7 ∧ bz s0 = true), shk 159 = 7]) rfl ⟨⟨rfl, g1⟩, rfl, trivial⟩) ?_
  refine Go_if_eq bk_Sander_read 11 rfl (fun c6 => ?_) (fun c6 => ?_)
  · have h := ifT c6 h
    refine Go.t (Go_sg bk_Sander_read 14 1 (c2 := (some 29, [some (.ref 159), some (.long v1), none, none, none, none], [.long (0 : Int64)], sI σ 159 1 s0)) (ps := []) rfl trivial) ?_
    exact Go.t (Go.fg (LSub.cs (LSub.cn (LSub.cn (LSub.cn (LSub.cn (LSub.cn (LSub.nil)))))))) (t_Sander_read_b29 (0 : Int64) (sI σ 159 1 s0) h)
  · have h := ifF c6 h
    refine Go.t (Go_sg bk_Sander_read 12 2 (c2 := (some 29, [some (.ref 159), some (.long v1), none, none, none, none], [.long v1], sI σ 159 1 s0)) (ps := []) rfl trivial) ?_
    exact Go.t (Go.fg (LSub.cs (LSub.cn (LSub.cn (LSub.cn (LSub.cn (LSub.cn (LSub.nil)))))))) (t_Sander_read_b29 v1 (sI σ 159 1 s0) h)
def Sander_read0 (v1 : Int64) (σ : MH) : Option (MH) := if lg_cmp v1 (4611686018427387904 : Int64) = (0 : Int32) then (Sander_read_b14 v1 (0 : Int32) σ) else (Sander_read_b14 v1 (1 : Int32) σ)
set_option maxRecDepth 20000 in
set_option maxHeartbeats 2000000 in
theorem t_Sander_read0 (v1 : Int64)  (σ : MH) {o} (h : Sander_read0 v1 σ = some o) : Go m_Sander_read 1 (some 0, [some (.ref 159), some (.long v1), none, none, none, none], [], σ) ((none, [], [], o)) := by
  unfold Sander_read0 at h
  refine Go.t (Go_sg bk_Sander_read 0 4 (c2 := (some 6, [some (.ref 159), some (.long v1), none, none, none, none], [.int (lg_cmp v1 (4611686018427387904 : Int64)), .ref 159], σ)) (ps := []) rfl trivial) ?_
  refine Go_if_eq bk_Sander_read 4 rfl (fun c7 => ?_) (fun c7 => ?_)
  · have h := ifT c7 h
    refine Go.t (Go_sg bk_Sander_read 7 1 (c2 := (some 14, [some (.ref 159), some (.long v1), none, none, none, none], [.int (0 : Int32), .ref 159], σ)) (ps := []) rfl trivial) ?_
    exact Go.t (Go.fg (LSub.cs (LSub.cs (LSub.cn (LSub.cn (LSub.cn (LSub.cn (LSub.nil)))))))) (t_Sander_read_b14 v1 (0 : Int32) σ h)
  · have h := ifF c7 h
    refine Go.t (Go_sg bk_Sander_read 5 2 (c2 := (some 14, [some (.ref 159), some (.long v1), none, none, none, none], [.int (1 : Int32), .ref 159], σ)) (ps := []) rfl trivial) ?_
    exact Go.t (Go.fg (LSub.cs (LSub.cs (LSub.cn (LSub.cn (LSub.cn (LSub.cn (LSub.nil)))))))) (t_Sander_read_b14 v1 (1 : Int32) σ h)
def Sander_read (v1 : Int64) (σ : MH) : Option (MH) := Sander_read0 v1 σ
set_option maxRecDepth 20000 in
set_option maxHeartbeats 2000000 in
theorem ev_Sander_read (v1 : Int64)  (σ : MH) {o} (h : Sander_read v1 σ = some o) : Ev m_Sander_read 1 [.ref 159, .long v1] σ none o := Ev.of2 (by decide +kernel) rfl (Nat.le_of_ble_eq_true rfl) rfl (t_Sander_read0 v1 σ h)
def cH_Sander_sand_40 (v1 : Nat) (v2 : Nat) (v4 : Nat) (v6 : Int32) (v7 : Int32) (s : Int64 × Int32 × MH) : MC := (some 40, [some (.ref 159), some (.ref v1), some (.ref v2), none, some (.ref v4), none, some (.int v6), some (.int v7), some (.long s.1), none, some (.int s.2.1), none, none, none], [], s.2.2)
def cR_Sander_sand_40 (v1 : Nat) (v2 : Nat) (v4 : Nat) (v6 : Int32) (v7 : Int32) : ((MH)) → MC := (fun r : MH => ((some 164, [some (.ref 159), none, none, none, none, none, some (.int v6), some (.int v7), none, none, none, none, none, none], [], r) : MC))
def cH_Sander_sand_103 (v1 : Nat) (v2 : Nat) (v4 : Nat) (v6 : Int32) (v7 : Int32) (v8 : Int64) (v10 : Int32) (s : Int32 × MH) : MC := (some 103, [some (.ref 159), some (.ref v1), some (.ref v2), none, some (.ref v4), none, some (.int v6), some (.int v7), some (.long v8), none, some (.int v10), none, some (.int s.1), none], [], s.2)
def cR_Sander_sand_103 (v1 : Nat) (v2 : Nat) (v4 : Nat) (v6 : Int32) (v7 : Int32) (v8 : Int64) (v10 : Int32) : ((MH)) → MC := (fun r : MH => ((some 150, [some (.ref 159), some (.ref v1), some (.ref v2), none, some (.ref v4), none, some (.int v6), some (.int v7), some (.long v8), none, some (.int v10), none, none, none], [], r) : MC))
def cH_Sander_sand_112 (v1 : Nat) (v2 : Nat) (v4 : Nat) (v6 : Int32) (v7 : Int32) (v8 : Int64) (v10 : Int32) (v12 : Int32) (s : Int32 × MH) : MC := (some 112, [some (.ref 159), some (.ref v1), some (.ref v2), none, some (.ref v4), none, some (.int v6), some (.int v7), some (.long v8), none, some (.int v10), none, some (.int v12), some (.int s.1)], [], s.2)
def cR_Sander_sand_112 (v1 : Nat) (v2 : Nat) (v4 : Nat) (v6 : Int32) (v7 : Int32) (v8 : Int64) (v10 : Int32) (v12 : Int32) : ((MH)) → MC := (fun r : MH => ((some 144, [some (.ref 159), some (.ref v1), some (.ref v2), none, some (.ref v4), none, some (.int v6), some (.int v7), some (.long v8), none, some (.int v10), none, some (.int v12), none], [], r) : MC))
def Sander_sand_l112 (v1 : Nat) (v2 : Nat) (v4 : Nat) (v6 : Int32) (v7 : Int32) (v8 : Int64) (v10 : Int32) (v12 : Int32) (v13 : Int32) (σ : MH) : Option (((Int32 × MH) ⊕ ((MH)))) := if v13 < (0 : Int32) then some (.inr (σ)) else ((Sander_bestHere v12 v13 σ).bind fun x9 => if inb ((v12 * (61 : Int32)) + v13) 3721 = true then some (.inl (v13 + (-1 : Int32), sJ σ 164 ((v12 * (61 : Int32)) + v13).toNatClampNeg x9)) else none)
set_option maxRecDepth 20000 in
set_option maxHeartbeats 2000000 in
theorem t_Sander_sand_l112 (v1 : Nat) (v2 : Nat) (v4 : Nat) (v6 : Int32) (v7 : Int32) (v8 : Int64) (v10 : Int32) (v12 : Int32) (v13 : Int32) (hv1 : IA v1 8) (hv2 : IA v2 8) (hv4 : IA v4 8) (σ : MH) {o} (h : Sander_sand_l112 v1 v2 v4 v6 v7 v8 v10 v12 v13 σ = some o) : Go m_Sander_sand 3 (cH_Sander_sand_112 v1 v2 v4 v6 v7 v8 v10 v12 (v13, σ)) (cS (cH_Sander_sand_112 v1 v2 v4 v6 v7 v8 v10 v12) (cR_Sander_sand_112 v1 v2 v4 v6 v7 v8 v10 v12) o) := by
  unfold Sander_sand_l112 at h
  unfold cH_Sander_sand_112
  refine Go.t (Go_sg bk_Sander_sand 50 1 (c2 := (some 114, [some (.ref 159), some (.ref v1), some (.ref v2), none, some (.ref v4), none, some (.int v6), some (.int v7), some (.long v8), none, some (.int v10), none, some (.int v12), some (.int v13)], [.int v13], σ)) (ps := []) rfl trivial) ?_
  refine Go_if_lt bk_Sander_sand 51 rfl (fun c13 => ?_) (fun c13 => ?_)
  · have h := ifT c13 h
    have h := Option.some.inj h
    subst h
    exact Go.fg (LSub.cs (LSub.cs (LSub.cs (LSub.cn (LSub.cs (LSub.cn (LSub.cs (LSub.cs (LSub.cs (LSub.cn (LSub.cs (LSub.cn (LSub.cs (LSub.cn (LSub.nil)))))))))))))))
  · have h := ifF c13 h
    refine Go.t (Go_sg bk_Sander_sand 52 10 (c2 := (some 134, [some (.ref 159), some (.ref v1), some (.ref v2), none, some (.ref v4), none, some (.int v6), some (.int v7), some (.long v8), none, some (.int v10), none, some (.int v12), some (.int v13)], [.int v13, .int v12, .ref 159, .int ((v12 * (61 : Int32)) + v13), .ref 164], σ)) (ps := [shk 159 = 7]) rfl ⟨rfl, trivial⟩) ?_
    obtain ⟨x9, q11, h⟩ := bdS h
    refine Go.t (Go_callV bk_Sander_sand 62 rfl nk_Sander_bestHere tw1116 tw1118 tw37 (ci := 7) rfl (as := [.int v12, .int v13]) (S := [.int ((v12 * (61 : Int32)) + v13), .ref 164]) rfl rfl rfl rfl (Nat.le_of_ble_eq_true rfl) (Nat.le_of_ble_eq_true rfl) (ev_Sander_bestHere _ _ _ q11)) ?_
    obtain ⟨g12, h⟩ := gdS h
    refine Go.t (Go_sg bk_Sander_sand 63 3 (c2 := (some 112, [some (.ref 159), some (.ref v1), some (.ref v2), none, some (.ref v4), none, some (.int v6), some (.int v7), some (.long v8), none, some (.int v10), none, some (.int v12), some (.int (v13 + (-1 : Int32)))], [], sJ σ 164 ((v12 * (61 : Int32)) + v13).toNatClampNeg x9)) (ps := [IJ 164 3721 ∧ inb ((v12 * (61 : Int32)) + v13) 3721 = true]) rfl ⟨⟨⟨rfl, rfl⟩, g12⟩, trivial⟩) ?_
    have h := Option.some.inj h
    subst h
    exact Go.fg (LSub.cs (LSub.cs (LSub.cs (LSub.cn (LSub.cs (LSub.cn (LSub.cs (LSub.cs (LSub.cs (LSub.cn (LSub.cs (LSub.cn (LSub.cs (LSub.cs (LSub.nil)))))))))))))))
def Sander_sand_L112 (v1 : Nat) (v2 : Nat) (v4 : Nat) (v6 : Int32) (v7 : Int32) (v8 : Int64) (v10 : Int32) (v12 : Int32) (s : Int32 × MH) : Option ((MH)) := itr (fun s : Int32 × MH => Sander_sand_l112 v1 v2 v4 v6 v7 v8 v10 v12 s.1 s.2) FU s
set_option maxRecDepth 20000 in
set_option maxHeartbeats 2000000 in
theorem t_Sander_sand_L112 (v1 : Nat) (v2 : Nat) (v4 : Nat) (v6 : Int32) (v7 : Int32) (v8 : Int64) (v10 : Int32) (v12 : Int32) (hv1 : IA v1 8) (hv2 : IA v2 8) (hv4 : IA v4 8) (s : Int32 × MH) {r} (h : Sander_sand_L112 v1 v2 v4 v6 v7 v8 v10 v12 s = some r) : Go m_Sander_sand 3 (cH_Sander_sand_112 v1 v2 v4 v6 v7 v8 v10 v12 s) (cR_Sander_sand_112 v1 v2 v4 v6 v7 v8 v10 v12 r) := Go_itr (fun s o ho => t_Sander_sand_l112 v1 v2 v4 v6 v7 v8 v10 v12 s.1 hv1 hv2 hv4 s.2 ho) FU s r h
def Sander_sand_l103 (v1 : Nat) (v2 : Nat) (v4 : Nat) (v6 : Int32) (v7 : Int32) (v8 : Int64) (v10 : Int32) (v12 : Int32) (σ : MH) : Option (((Int32 × MH) ⊕ ((MH)))) := if v12 < (0 : Int32) then some (.inr (σ)) else ((Sander_sand_L112 v1 v2 v4 v6 v7 v8 v10 v12 (v7, σ)).bind fun z14 => some (.inl (v12 + (-1 : Int32), z14)))
set_option maxRecDepth 20000 in
set_option maxHeartbeats 2000000 in
theorem t_Sander_sand_l103 (v1 : Nat) (v2 : Nat) (v4 : Nat) (v6 : Int32) (v7 : Int32) (v8 : Int64) (v10 : Int32) (v12 : Int32) (hv1 : IA v1 8) (hv2 : IA v2 8) (hv4 : IA v4 8) (σ : MH) {o} (h : Sander_sand_l103 v1 v2 v4 v6 v7 v8 v10 v12 σ = some o) : Go m_Sander_sand 3 (cH_Sander_sand_103 v1 v2 v4 v6 v7 v8 v10 (v12, σ)) (cS (cH_Sander_sand_103 v1 v2 v4 v6 v7 v8 v10) (cR_Sander_sand_103 v1 v2 v4 v6 v7 v8 v10) o) := by
  unfold Sander_sand_l103 at h
  unfold cH_Sander_sand_103
  refine Go.t (Go_sg bk_Sander_sand 46 1 (c2 := (some 105, [some (.ref 159), some (.ref v1), some (.ref v2), none, some (.ref v4), none, some (.int v6), some (.int v7), some (.long v8), none, some (.int v10), none, some (.int v12), none], [.int v12], σ)) (ps := []) rfl trivial) ?_
  refine Go_if_lt bk_Sander_sand 47 rfl (fun c16 => ?_) (fun c16 => ?_)
  · have h := ifT c16 h
    have h := Option.some.inj h
    subst h
    exact Go.fg (LSub.cs (LSub.cs (LSub.cs (LSub.cn (LSub.cs (LSub.cn (LSub.cs (LSub.cs (LSub.cs (LSub.cn (LSub.cs (LSub.cn (LSub.cn (LSub.cn (LSub.nil)))))))))))))))
  · have h := ifF c16 h
    refine Go.t (Go_sg bk_Sander_sand 48 2 (c2 := (some 112, [some (.ref 159), some (.ref v1), some (.ref v2), none, some (.ref v4), none, some (.int v6), some (.int v7), some (.long v8), none, some (.int v10), none, some (.int v12), some (.int v7)], [], σ)) (ps := []) rfl trivial) ?_
    obtain ⟨z14, q15, h⟩ := bdS h
    refine Go.t (Go.t (Go.fg (LSub.cs (LSub.cs (LSub.cs (LSub.cn (LSub.cs (LSub.cn (LSub.cs (LSub.cs (LSub.cs (LSub.cn (LSub.cs (LSub.cn (LSub.cs (LSub.cs (LSub.nil)))))))))))))))) (t_Sander_sand_L112 v1 v2 v4 v6 v7 v8 v10 v12 hv1 hv2 hv4 _ q15)) ?_
    refine Go.t (Go_sg bk_Sander_sand 66 2 (c2 := (some 103, [some (.ref 159), some (.ref v1), some (.ref v2), none, some (.ref v4), none, some (.int v6), some (.int v7), some (.long v8), none, some (.int v10), none, some (.int (v12 + (-1 : Int32))), none], [], z14)) (ps := []) rfl trivial) ?_
    have h := Option.some.inj h
    subst h
    exact Go.fg (LSub.cs (LSub.cs (LSub.cs (LSub.cn (LSub.cs (LSub.cn (LSub.cs (LSub.cs (LSub.cs (LSub.cn (LSub.cs (LSub.cn (LSub.cs (LSub.cn (LSub.nil)))))))))))))))
def Sander_sand_L103 (v1 : Nat) (v2 : Nat) (v4 : Nat) (v6 : Int32) (v7 : Int32) (v8 : Int64) (v10 : Int32) (s : Int32 × MH) : Option ((MH)) := itr (fun s : Int32 × MH => Sander_sand_l103 v1 v2 v4 v6 v7 v8 v10 s.1 s.2) FU s
set_option maxRecDepth 20000 in
set_option maxHeartbeats 2000000 in
theorem t_Sander_sand_L103 (v1 : Nat) (v2 : Nat) (v4 : Nat) (v6 : Int32) (v7 : Int32) (v8 : Int64) (v10 : Int32) (hv1 : IA v1 8) (hv2 : IA v2 8) (hv4 : IA v4 8) (s : Int32 × MH) {r} (h : Sander_sand_L103 v1 v2 v4 v6 v7 v8 v10 s = some r) : Go m_Sander_sand 3 (cH_Sander_sand_103 v1 v2 v4 v6 v7 v8 v10 s) (cR_Sander_sand_103 v1 v2 v4 v6 v7 v8 v10 r) := Go_itr (fun s o ho => t_Sander_sand_l103 v1 v2 v4 v6 v7 v8 v10 s.1 hv1 hv2 hv4 s.2 ho) FU s r h
def Sander_sand_l40 (v1 : Nat) (v2 : Nat) (v4 : Nat) (v6 : Int32) (v7 : Int32) (v8 : Int64) (v10 : Int32) (σ : MH) : Option (((Int64 × Int32 × MH) ⊕ ((MH)))) := if v10 < (0 : Int32) then some (.inr (σ)) else (if inb v10 8 = true then if inb ((7 : Int32) - v10) 8 = true then (Sander_weigh (σ.1 v1 v10.toNatClampNeg) (-(σ.1 v2 ((7 : Int32) - v10).toNatClampNeg)) (-(σ.1 v4 ((7 : Int32) - v10).toNatClampNeg)) v8 σ).bind fun σ7 => (Sander_sand_L103 v1 v2 v4 v6 v7 v8 v10 (v6, σ7)).bind fun z17 => some (.inl (v8 * (19 : Int64), v10 + (-1 : Int32), z17)) else none else none)
set_option maxRecDepth 20000 in
set_option maxHeartbeats 2000000 in
theorem t_Sander_sand_l40 (v1 : Nat) (v2 : Nat) (v4 : Nat) (v6 : Int32) (v7 : Int32) (v8 : Int64) (v10 : Int32) (hv1 : IA v1 8) (hv2 : IA v2 8) (hv4 : IA v4 8) (σ : MH) {o} (h : Sander_sand_l40 v1 v2 v4 v6 v7 v8 v10 σ = some o) : Go m_Sander_sand 3 (cH_Sander_sand_40 v1 v2 v4 v6 v7 (v8, v10, σ)) (cS (cH_Sander_sand_40 v1 v2 v4 v6 v7) (cR_Sander_sand_40 v1 v2 v4 v6 v7) o) := by
  unfold Sander_sand_l40 at h
  unfold cH_Sander_sand_40
  refine Go.t (Go_sg bk_Sander_sand 20 1 (c2 := (some 42, [some (.ref 159), some (.ref v1), some (.ref v2), none, some (.ref v4), none, some (.int v6), some (.int v7), some (.long v8), none, some (.int v10), none, none, none], [.int v10], σ)) (ps := []) rfl trivial) ?_
  refine Go_if_lt bk_Sander_sand 21 rfl (fun c19 => ?_) (fun c19 => ?_)
  · have h := ifT c19 h
    have h := Option.some.inj h
    subst h
    exact Go.fg (LSub.cs (LSub.cn (LSub.cn (LSub.cn (LSub.cn (LSub.cn (LSub.cs (LSub.cs (LSub.cn (LSub.cn (LSub.cn (LSub.cn (LSub.cn (LSub.cn (LSub.nil)))))))))))))))
  · have h := ifF c19 h
    obtain ⟨g4, h⟩ := gdS h
    obtain ⟨g5, h⟩ := gdS h
    refine Go.t (Go_sg bk_Sander_sand 22 13 (c2 := (some 64, [some (.ref 159), some (.ref v1), some (.ref v2), none, some (.ref v4), none, some (.int v6), some (.int v7), some (.long v8), none, some (.int v10), some (.int ((7 : Int32) - v10)), none, none], [.ref v4, .int (-(σ.1 v2 ((7 : Int32) - v10).toNatClampNeg)), .int (σ.1 v1 v10.toNatClampNeg), .ref 159], σ)) (ps := [IA v1 8 ∧ inb v10 8 = true, IA v2 8 ∧ inb ((7 : Int32) - v10) 8 = true]) rfl ⟨⟨hv1, g4⟩, ⟨hv2, g5⟩, trivial⟩) ?_
    refine Go.t (Go_nn_r bk_Sander_sand 35 rfl) ?_
    refine Go.t (Go_sg bk_Sander_sand 36 5 (c2 := (some 83, [some (.ref 159), some (.ref v1), some (.ref v2), none, some (.ref v4), none, some (.int v6), some (.int v7), some (.long v8), none, some (.int v10), some (.int ((7 : Int32) - v10)), none, none], [.long v8, .int (-(σ.1 v4 ((7 : Int32) - v10).toNatClampNeg)), .int (-(σ.1 v2 ((7 : Int32) - v10).toNatClampNeg)), .int (σ.1 v1 v10.toNatClampNeg), .ref 159], σ)) (ps := [IA v4 8 ∧ inb ((7 : Int32) - v10) 8 = true]) rfl ⟨⟨hv4, g5⟩, trivial⟩) ?_
    obtain ⟨σ7, q8, h⟩ := bdS h
    refine Go.t (Go_callV bk_Sander_sand 41 rfl nk_Sander_weigh tw1109 tw1111 tw36 (ci := 7) rfl (as := [.int (σ.1 v1 v10.toNatClampNeg), .int (-(σ.1 v2 ((7 : Int32) - v10).toNatClampNeg)), .int (-(σ.1 v4 ((7 : Int32) - v10).toNatClampNeg)), .long v8]) (S := []) rfl rfl rfl rfl (Nat.le_of_ble_eq_true rfl) (Nat.le_of_ble_eq_true rfl) (ev_Sander_weigh _ _ _ _ _ q8)) ?_
    refine Go.t (Go_sg bk_Sander_sand 42 1 (c2 := (some 88, [some (.ref 159), some (.ref v1), some (.ref v2), none, some (.ref v4), none, some (.int v6), some (.int v7), some (.long v8), none, some (.int v10), some (.int ((7 : Int32) - v10)), none, none], [.ref v4], σ7)) (ps := []) rfl trivial) ?_
    refine Go.t (Go_nn_r bk_Sander_sand 43 rfl) ?_
    refine Go.t (Go_sg bk_Sander_sand 44 2 (c2 := (some 103, [some (.ref 159), some (.ref v1), some (.ref v2), none, some (.ref v4), none, some (.int v6), some (.int v7), some (.long v8), none, some (.int v10), some (.int ((7 : Int32) - v10)), some (.int v6), none], [], σ7)) (ps := []) rfl trivial) ?_
    obtain ⟨z17, q18, h⟩ := bdS h
    refine Go.t (Go.t (Go.fg (LSub.cs (LSub.cs (LSub.cs (LSub.cn (LSub.cs (LSub.cn (LSub.cs (LSub.cs (LSub.cs (LSub.cn (LSub.cs (LSub.cn (LSub.cs (LSub.cn (LSub.nil)))))))))))))))) (t_Sander_sand_L103 v1 v2 v4 v6 v7 v8 v10 hv1 hv2 hv4 _ q18)) ?_
    refine Go.t (Go_sg bk_Sander_sand 68 6 (c2 := (some 40, [some (.ref 159), some (.ref v1), some (.ref v2), none, some (.ref v4), none, some (.int v6), some (.int v7), some (.long (v8 * (19 : Int64))), none, some (.int (v10 + (-1 : Int32))), none, none, none], [], z17)) (ps := []) rfl trivial) ?_
    have h := Option.some.inj h
    subst h
    exact Go.fg (LSub.cs (LSub.cs (LSub.cs (LSub.cn (LSub.cs (LSub.cn (LSub.cs (LSub.cs (LSub.cs (LSub.cn (LSub.cs (LSub.cn (LSub.cn (LSub.cn (LSub.nil)))))))))))))))
def Sander_sand_L40 (v1 : Nat) (v2 : Nat) (v4 : Nat) (v6 : Int32) (v7 : Int32) (s : Int64 × Int32 × MH) : Option ((MH)) := itr (fun s : Int64 × Int32 × MH => Sander_sand_l40 v1 v2 v4 v6 v7 s.1 s.2.1 s.2.2) FU s
set_option maxRecDepth 20000 in
set_option maxHeartbeats 2000000 in
theorem t_Sander_sand_L40 (v1 : Nat) (v2 : Nat) (v4 : Nat) (v6 : Int32) (v7 : Int32) (hv1 : IA v1 8) (hv2 : IA v2 8) (hv4 : IA v4 8) (s : Int64 × Int32 × MH) {r} (h : Sander_sand_L40 v1 v2 v4 v6 v7 s = some r) : Go m_Sander_sand 3 (cH_Sander_sand_40 v1 v2 v4 v6 v7 s) (cR_Sander_sand_40 v1 v2 v4 v6 v7 r) := Go_itr (fun s o ho => t_Sander_sand_l40 v1 v2 v4 v6 v7 s.1 s.2.1 hv1 hv2 hv4 s.2.2 ho) FU s r h
def Sander_sand0 (v1 : Nat) (v2 : Nat) (v3 : Int32) (v4 : Nat) (v5 : Int32) (σ : MH) : Option (MH) := (Arrays_fill_ll (0 : Int64) σ).bind fun σ2 => (Sander_sand_L40 v1 v2 v4 (jmax (0 : Int32) (jmin (60 : Int32) v3)) (jmax (0 : Int32) (jmin (60 : Int32) v5)) ((1 : Int64), (7 : Int32), σ2)).bind fun z20 => (Sander_leastOf (jmax (0 : Int32) (jmin (60 : Int32) v3)) (jmax (0 : Int32) (jmin (60 : Int32) v5)) z20).bind fun x22 => (Sander_read x22 z20).bind fun σ26 => some (σ26)
set_option maxRecDepth 20000 in
set_option maxHeartbeats 2000000 in
theorem t_Sander_sand0 (v1 : Nat) (v2 : Nat) (v3 : Int32) (v4 : Nat) (v5 : Int32) (hv1 : IA v1 8) (hv2 : IA v2 8) (hv4 : IA v4 8) (σ : MH) {o} (h : Sander_sand0 v1 v2 v3 v4 v5 σ = some o) : Go m_Sander_sand 3 (some 0, [some (.ref 159), some (.ref v1), some (.ref v2), some (.int v3), some (.ref v4), some (.int v5), none, none, none, none, none, none, none, none], [], σ) ((none, [], [], o)) := by
  unfold Sander_sand0 at h
  refine Go.t (Go_sg bk_Sander_sand 0 3 (c2 := (some 4, [some (.ref 159), some (.ref v1), some (.ref v2), some (.int v3), some (.ref v4), some (.int v5), none, none, none, none, none, none, none, none], [.int v3, .int (60 : Int32), .int (0 : Int32)], σ)) (ps := []) rfl trivial) ?_
  refine Go.t (Go_mmin bk_Sander_sand 3 rfl tw1104 (Nat.le_of_ble_eq_true rfl) (Nat.le_of_ble_eq_true rfl)) ?_
  refine Go.t (Go_mmax bk_Sander_sand 4 rfl tw1105 (Nat.le_of_ble_eq_true rfl) (Nat.le_of_ble_eq_true rfl)) ?_
  refine Go.t (Go_sg bk_Sander_sand 5 4 (c2 := (some 17, [some (.ref 159), some (.ref v1), some (.ref v2), some (.int v3), some (.ref v4), some (.int v5), some (.int (jmax (0 : Int32) (jmin (60 : Int32) v3))), none, none, none, none, none, none, none], [.int v5, .int (60 : Int32), .int (0 : Int32)], σ)) (ps := []) rfl trivial) ?_
  refine Go.t (Go_mmin bk_Sander_sand 9 rfl tw1104 (Nat.le_of_ble_eq_true rfl) (Nat.le_of_ble_eq_true rfl)) ?_
  refine Go.t (Go_mmax bk_Sander_sand 10 rfl tw1105 (Nat.le_of_ble_eq_true rfl) (Nat.le_of_ble_eq_true rfl)) ?_
  refine Go.t (Go_sg bk_Sander_sand 11 4 (c2 := (some 30, [some (.ref 159), some (.ref v1), some (.ref v2), some (.int v3), some (.ref v4), some (.int v5), some (.int (jmax (0 : Int32) (jmin (60 : Int32) v3))), some (.int (jmax (0 : Int32) (jmin (60 : Int32) v5))), none, none, none, none, none, none], [.long (0 : Int64), .ref 164], σ)) (ps := [shk 159 = 7]) rfl ⟨rfl, trivial⟩) ?_
  obtain ⟨σ2, q3, h⟩ := bdS h
  refine Go.t (Go_callS bk_Sander_sand 15 rfl nk_Arrays_fill_ll tw1106 tw1107 (as := [.ref 164, .long (0 : Int64)]) (S := []) rfl rfl rfl (Nat.le_of_ble_eq_true rfl) (Nat.le_of_ble_eq_true rfl) (ev_Arrays_fill_ll _ _ q3)) ?_
  refine Go.t (Go_sg bk_Sander_sand 16 4 (c2 := (some 40, [some (.ref 159), some (.ref v1), some (.ref v2), some (.int v3), some (.ref v4), some (.int v5), some (.int (jmax (0 : Int32) (jmin (60 : Int32) v3))), some (.int (jmax (0 : Int32) (jmin (60 : Int32) v5))), some (.long (1 : Int64)), none, some (.int (7 : Int32)), none, none, none], [], σ2)) (ps := []) rfl trivial) ?_
  obtain ⟨z20, q21, h⟩ := bdS h
  refine Go.t (Go.t (Go.fg (LSub.cs (LSub.cs (LSub.cs (LSub.cn (LSub.cs (LSub.cn (LSub.cs (LSub.cs (LSub.cs (LSub.cn (LSub.cs (LSub.cn (LSub.cn (LSub.cn (LSub.nil)))))))))))))))) (t_Sander_sand_L40 v1 v2 v4 (jmax (0 : Int32) (jmin (60 : Int32) v3)) (jmax (0 : Int32) (jmin (60 : Int32) v5)) hv1 hv2 hv4 _ q21)) ?_
  refine Go.t (Go_sg bk_Sander_sand 74 4 (c2 := (some 170, [some (.ref 159), none, none, none, none, none, some (.int (jmax (0 : Int32) (jmin (60 : Int32) v3))), some (.int (jmax (0 : Int32) (jmin (60 : Int32) v5))), none, none, none, none, none, none], [.int (jmax (0 : Int32) (jmin (60 : Int32) v5)), .int (jmax (0 : Int32) (jmin (60 : Int32) v3)), .ref 159, .ref 159], z20)) (ps := []) rfl trivial) ?_
  obtain ⟨x22, q24, h⟩ := bdS h
  refine Go.t (Go_callV bk_Sander_sand 78 rfl nk_Sander_leastOf tw1121 tw1123 tw38 (ci := 7) rfl (as := [.int (jmax (0 : Int32) (jmin (60 : Int32) v3)), .int (jmax (0 : Int32) (jmin (60 : Int32) v5))]) (S := [.ref 159]) rfl rfl rfl rfl (Nat.le_of_ble_eq_true rfl) (Nat.le_of_ble_eq_true rfl) (ev_Sander_leastOf _ _ _ q24)) ?_
  obtain ⟨σ26, q27, h⟩ := bdS h
  refine Go.t (Go_callV bk_Sander_sand 79 rfl nk_Sander_read tw1129 tw1131 tw39 (ci := 7) rfl (as := [.long x22]) (S := []) rfl rfl rfl rfl (Nat.le_of_ble_eq_true rfl) (Nat.le_of_ble_eq_true rfl) (ev_Sander_read _ _ q27)) ?_
  have h := Option.some.inj h
  subst h
  exact Go_ret0 bk_Sander_sand 80 rfl
def Sander_sand (v1 : Nat) (v2 : Nat) (v3 : Int32) (v4 : Nat) (v5 : Int32) (σ : MH) : Option (MH) := Sander_sand0 v1 v2 v3 v4 v5 σ
set_option maxRecDepth 20000 in
set_option maxHeartbeats 2000000 in
theorem ev_Sander_sand (v1 : Nat) (v2 : Nat) (v3 : Int32) (v4 : Nat) (v5 : Int32) (hv1 : IA v1 8) (hv2 : IA v2 8) (hv4 : IA v4 8) (σ : MH) {o} (h : Sander_sand v1 v2 v3 v4 v5 σ = some o) : Ev m_Sander_sand 3 [.ref 159, .ref v1, .ref v2, .int v3, .ref v4, .int v5] σ none o := Ev.of2 (by decide +kernel) rfl (Nat.le_of_ble_eq_true rfl) rfl (t_Sander_sand0 v1 v2 v3 v4 v5 hv1 hv2 hv4 σ h)
def cH_Pz_fitOthers_6 (v1 : Int32) (v2 : Nat) (v3 : Int32) (σ : MH) (s : Int32 × Int32) : MC := (some 6, [some (.ref 0), some (.int v1), some (.ref v2), some (.int v3), some (.int s.1), some (.int s.2), none], [], σ)
def cR_Pz_fitOthers_6 (v1 : Int32) (v2 : Nat) (v3 : Int32) (σ : MH) : ((Int32)) → MC := (fun r : Int32 => ((none, [], [.int r], σ) : MC))
def Pz_fitOthers_b84 (v1 : Int32) (v2 : Nat) (v3 : Int32) (v4 : Int32) (v5 : Int32) (σ : MH) : Option (((Int32 × Int32) ⊕ ((Int32)))) := some (.inl (v4, v5 + (1 : Int32)))
set_option maxRecDepth 20000 in
set_option maxHeartbeats 2000000 in
theorem t_Pz_fitOthers_b84 (v1 : Int32) (v2 : Nat) (v3 : Int32) (v4 : Int32) (v5 : Int32) (hv2 : IA v2 8)  (σ : MH) {o} (h : Pz_fitOthers_b84 v1 v2 v3 v4 v5 σ = some o) : Go m_Pz_fitOthers 3 (some 84, [some (.ref 0), some (.int v1), some (.ref v2), some (.int v3), some (.int v4), some (.int v5), none], [], σ) (cS (cH_Pz_fitOthers_6 v1 v2 v3 σ) (cR_Pz_fitOthers_6 v1 v2 v3 σ) o) := by
  unfold Pz_fitOthers_b84 at h
  refine Go.t (Go_sg bk_Pz_fitOthers 44 2 (c2 := (some 6, [some (.ref 0), some (.int v1), some (.ref v2), some (.int v3), some (.int v4), some (.int (v5 + (1 : Int32))), none], [], σ)) (ps := []) rfl trivial) ?_
  have h := Option.some.inj h
  subst h
  exact Go.fg (LSub.cs (LSub.cs (LSub.cs (LSub.cs (LSub.cs (LSub.cs (LSub.cn (LSub.nil))))))))
def Pz_fitOthers_b81 (v1 : Int32) (v2 : Nat) (v3 : Int32) (v5 : Int32) (s0 : Int32) (s1 : Int32) (σ : MH) : Option (((Int32 × Int32) ⊕ ((Int32)))) := Pz_fitOthers_b84 v1 v2 v3 (s1 + s0) v5 σ
set_option maxRecDepth 20000 in
set_option maxHeartbeats 2000000 in
theorem t_Pz_fitOthers_b81 (v1 : Int32) (v2 : Nat) (v3 : Int32) (v5 : Int32) (s0 : Int32) (s1 : Int32) (hv2 : IA v2 8)  (σ : MH) {o} (h : Pz_fitOthers_b81 v1 v2 v3 v5 s0 s1 σ = some o) : Go m_Pz_fitOthers 3 (some 81, [some (.ref 0), some (.int v1), some (.ref v2), some (.int v3), none, some (.int v5), none], [.int s0, .int s1], σ) (cS (cH_Pz_fitOthers_6 v1 v2 v3 σ) (cR_Pz_fitOthers_6 v1 v2 v3 σ) o) := by
  unfold Pz_fitOthers_b81 at h
  refine Go.t (Go_sg bk_Pz_fitOthers 42 2 (c2 := (some 84, [some (.ref 0), some (.int v1), some (.ref v2), some (.int v3), some (.int (s1 + s0)), some (.int v5), none], [], σ)) (ps := []) rfl trivial) ?_
  exact Go.t (Go.fg (LSub.cs (LSub.cs (LSub.cs (LSub.cs (LSub.cs (LSub.cs (LSub.cn (LSub.nil))))))))) (t_Pz_fitOthers_b84 v1 v2 v3 (s1 + s0) v5 hv2 σ h)
def Pz_fitOthers_l6 (v1 : Int32) (v2 : Nat) (v3 : Int32) (v4 : Int32) (v5 : Int32) (σ : MH) : Option (((Int32 × Int32) ⊕ ((Int32)))) := if (12 : Int32) ≤ v5 then some (.inr (v4)) else (if v5 = v1 then (Pz_fitOthers_b84 v1 v2 v3 v4 v5 σ) else ((Land_isTold 1 v5 σ).bind fun x1 => if x1 = (0 : Int32) then (Pz_fitOthers_b84 v1 v2 v3 v4 v5 σ) else (if inb v5 12 = true then (Judge_gap v2 (rfv 9 v5.toNatClampNeg) σ).bind fun x5 => if inb v1 12 = true then if v3 < (x5 - (σ.1 8 v1.toNatClampNeg)) - (σ.1 8 v5.toNatClampNeg) then (Pz_fitOthers_b81 v1 v2 v3 v5 (0 : Int32) v4 σ) else (Pz_fitOthers_b81 v1 v2 v3 v5 (1 : Int32) v4 σ) else none else none)))
set_option maxRecDepth 20000 in
set_option maxHeartbeats 2000000 in
theorem t_Pz_fitOthers_l6 (v1 : Int32) (v2 : Nat) (v3 : Int32) (v4 : Int32) (v5 : Int32) (hv2 : IA v2 8) (σ : MH) {o} (h : Pz_fitOthers_l6 v1 v2 v3 v4 v5 σ = some o) : Go m_Pz_fitOthers 3 (cH_Pz_fitOthers_6 v1 v2 v3 σ (v4, v5)) (cS (cH_Pz_fitOthers_6 v1 v2 v3 σ) (cR_Pz_fitOthers_6 v1 v2 v3 σ) o) := by
  unfold Pz_fitOthers_l6 at h
  unfold cH_Pz_fitOthers_6
  refine Go.t (Go_sg bk_Pz_fitOthers 4 2 (c2 := (some 10, [some (.ref 0), some (.int v1), some (.ref v2), some (.int v3), some (.int v4), some (.int v5), none], [.int (12 : Int32), .int v5], σ)) (ps := []) rfl trivial) ?_
  refine Go_icmp_ge bk_Pz_fitOthers 6 rfl (fun c12 => ?_) (fun c12 => ?_)
  · have h := ifT c12 h
    have h := Option.some.inj h
    subst h
    refine Go.t (Go_sg bk_Pz_fitOthers 46 1 (c2 := (some 92, [some (.ref 0), some (.int v1), some (.ref v2), some (.int v3), some (.int v4), some (.int v5), none], [.int v4], σ)) (ps := []) rfl trivial) ?_
    exact Go_reti bk_Pz_fitOthers 47 rfl
  · have h := ifF c12 h
    refine Go.t (Go_sg bk_Pz_fitOthers 7 2 (c2 := (some 16, [some (.ref 0), some (.int v1), some (.ref v2), some (.int v3), some (.int v4), some (.int v5), none], [.int v1, .int v5], σ)) (ps := []) rfl trivial) ?_
    refine Go_icmp_eq bk_Pz_fitOthers 9 rfl (fun c11 => ?_) (fun c11 => ?_)
    · have h := ifT c11 h
      exact Go.t (Go.fg (LSub.cs (LSub.cs (LSub.cs (LSub.cs (LSub.cs (LSub.cs (LSub.cn (LSub.nil))))))))) (t_Pz_fitOthers_b84 v1 v2 v3 v4 v5 hv2 σ h)
    · have h := ifF c11 h
      refine Go.t (Go_sg bk_Pz_fitOthers 10 3 (c2 := (some 25, [some (.ref 0), some (.int v1), some (.ref v2), some (.int v3), some (.int v4), some (.int v5), none], [.int v5, .ref 1], σ)) (ps := [shk 0 = 10]) rfl ⟨rfl, trivial⟩) ?_
      obtain ⟨x1, q3, h⟩ := bdS h
      refine Go.t (Go_callV bk_Pz_fitOthers 13 rfl nk_Land_isTold tw555 tw556 tw557 (ci := 3) rfl (as := [.int v5]) (S := []) rfl rfl rfl rfl (Nat.le_of_ble_eq_true rfl) (Nat.le_of_ble_eq_true rfl) (ev_Land_isTold _ _ (Or.inl rfl) _ q3)) ?_
      refine Go_if_eq bk_Pz_fitOthers 14 rfl (fun c10 => ?_) (fun c10 => ?_)
      · have h := ifT c10 h
        exact Go.t (Go.fg (LSub.cs (LSub.cs (LSub.cs (LSub.cs (LSub.cs (LSub.cs (LSub.cn (LSub.nil))))))))) (t_Pz_fitOthers_b84 v1 v2 v3 v4 v5 hv2 σ h)
      · have h := ifF c10 h
        obtain ⟨g4, h⟩ := gdS h
        refine Go.t (Go_sg bk_Pz_fitOthers 15 6 (c2 := (some 42, [some (.ref 0), some (.int v1), some (.ref v2), some (.int v3), some (.int v4), some (.int v5), none], [.ref (rfv 9 v5.toNatClampNeg), .ref v2], σ)) (ps := [shk 0 = 10, shk 1 = 3, IR 9 12 ∧ inb v5 12 = true]) rfl ⟨rfl, rfl, ⟨⟨rfl, rfl⟩, g4⟩, trivial⟩) ?_
        obtain ⟨x5, q7, h⟩ := bdS h
        refine Go.t (Go_callS bk_Pz_fitOthers 21 rfl nk_Judge_gap tw1137 tw872 (as := [.ref v2, .ref (rfv 9 v5.toNatClampNeg)]) (S := []) rfl rfl rfl (Nat.le_of_ble_eq_true rfl) (Nat.le_of_ble_eq_true rfl) (ev_Judge_gap _ _ hv2 (rw_9 g4) _ q7)) ?_
        obtain ⟨g8, h⟩ := gdS h
        refine Go.t (Go_sg bk_Pz_fitOthers 22 16 (c2 := (some 73, [some (.ref 0), some (.int v1), some (.ref v2), some (.int v3), some (.int v4), some (.int v5), some (.int ((x5 - (σ.1 8 v1.toNatClampNeg)) - (σ.1 8 v5.toNatClampNeg)))], [.int v3, .int ((x5 - (σ.1 8 v1.toNatClampNeg)) - (σ.1 8 v5.toNatClampNeg)), .int v4], σ)) (ps := [shk 0 = 10, shk 1 = 3, IA 8 12 ∧ inb v1 12 = true, shk 0 = 10, shk 1 = 3, IA 8 12 ∧ inb v5 12 = true]) rfl ⟨rfl, rfl, ⟨⟨rfl, rfl⟩, g8⟩, rfl, rfl, ⟨⟨rfl, rfl⟩, g4⟩, trivial⟩) ?_
        refine Go_icmp_gt bk_Pz_fitOthers 38 rfl (fun c9 => ?_) (fun c9 => ?_)
        · have h := ifT c9 h
          refine Go.t (Go_sg bk_Pz_fitOthers 41 1 (c2 := (some 81, [some (.ref 0), some (.int v1), some (.ref v2), some (.int v3), some (.int v4), some (.int v5), some (.int ((x5 - (σ.1 8 v1.toNatClampNeg)) - (σ.1 8 v5.toNatClampNeg)))], [.int (0 : Int32), .int v4], σ)) (ps := []) rfl trivial) ?_
          exact Go.t (Go.fg (LSub.cs (LSub.cs (LSub.cs (LSub.cs (LSub.cn (LSub.cs (LSub.cn (LSub.nil))))))))) (t_Pz_fitOthers_b81 v1 v2 v3 v5 (0 : Int32) v4 hv2 σ h)
        · have h := ifF c9 h
          refine Go.t (Go_sg bk_Pz_fitOthers 39 2 (c2 := (some 81, [some (.ref 0), some (.int v1), some (.ref v2), some (.int v3), some (.int v4), some (.int v5), some (.int ((x5 - (σ.1 8 v1.toNatClampNeg)) - (σ.1 8 v5.toNatClampNeg)))], [.int (1 : Int32), .int v4], σ)) (ps := []) rfl trivial) ?_
          exact Go.t (Go.fg (LSub.cs (LSub.cs (LSub.cs (LSub.cs (LSub.cn (LSub.cs (LSub.cn (LSub.nil))))))))) (t_Pz_fitOthers_b81 v1 v2 v3 v5 (1 : Int32) v4 hv2 σ h)
def Pz_fitOthers_L6 (v1 : Int32) (v2 : Nat) (v3 : Int32) (σ : MH) (s : Int32 × Int32) : Option ((Int32)) := itr (fun s : Int32 × Int32 => Pz_fitOthers_l6 v1 v2 v3 s.1 s.2 σ) FU s
set_option maxRecDepth 20000 in
set_option maxHeartbeats 2000000 in
theorem t_Pz_fitOthers_L6 (v1 : Int32) (v2 : Nat) (v3 : Int32) (hv2 : IA v2 8) (σ : MH) (s : Int32 × Int32) {r} (h : Pz_fitOthers_L6 v1 v2 v3 σ s = some r) : Go m_Pz_fitOthers 3 (cH_Pz_fitOthers_6 v1 v2 v3 σ s) (cR_Pz_fitOthers_6 v1 v2 v3 σ r) := Go_itr (fun s o ho => t_Pz_fitOthers_l6 v1 v2 v3 s.1 s.2 hv2 σ ho) FU s r h
def Pz_fitOthers0 (v1 : Int32) (v2 : Nat) (v3 : Int32) (σ : MH) : Option (Int32) := (Pz_fitOthers_L6 v1 v2 v3 σ ((0 : Int32), (0 : Int32))).bind fun z13 => some (z13)
set_option maxRecDepth 20000 in
set_option maxHeartbeats 2000000 in
theorem t_Pz_fitOthers0 (v1 : Int32) (v2 : Nat) (v3 : Int32) (hv2 : IA v2 8) (σ : MH) {o} (h : Pz_fitOthers0 v1 v2 v3 σ = some o) : Go m_Pz_fitOthers 3 (some 0, [some (.ref 0), some (.int v1), some (.ref v2), some (.int v3), none, none, none], [], σ) ((none, [], [.int o], σ)) := by
  unfold Pz_fitOthers0 at h
  refine Go.t (Go_sg bk_Pz_fitOthers 0 4 (c2 := (some 6, [some (.ref 0), some (.int v1), some (.ref v2), some (.int v3), some (.int (0 : Int32)), some (.int (0 : Int32)), none], [], σ)) (ps := []) rfl trivial) ?_
  obtain ⟨z13, q14, h⟩ := bdS h
  refine Go.t (Go.t (Go.fg (LSub.cs (LSub.cs (LSub.cs (LSub.cs (LSub.cs (LSub.cs (LSub.cn (LSub.nil))))))))) (t_Pz_fitOthers_L6 v1 v2 v3 hv2 σ _ q14)) ?_
  have h := Option.some.inj h
  subst h
  exact Go.rf
def Pz_fitOthers (v1 : Int32) (v2 : Nat) (v3 : Int32) (σ : MH) : Option (Int32) := Pz_fitOthers0 v1 v2 v3 σ
set_option maxRecDepth 20000 in
set_option maxHeartbeats 2000000 in
theorem ev_Pz_fitOthers (v1 : Int32) (v2 : Nat) (v3 : Int32) (hv2 : IA v2 8) (σ : MH) {o} (h : Pz_fitOthers v1 v2 v3 σ = some o) : Ev m_Pz_fitOthers 3 [.ref 0, .int v1, .ref v2, .int v3] σ (some (.int o)) σ := Ev.of2 (by decide +kernel) rfl (Nat.le_of_ble_eq_true rfl) ⟨.int, rfl, rfl⟩ (t_Pz_fitOthers0 v1 v2 v3 hv2 σ h)
def cH_Arrays_fill_ii_2_5 (v1 : Int32) (s : Int32 × MH) : MC := (some 5, [some (.ref 163), some (.int v1), some (.int s.1), some (.int (19 : Int32))], [], s.2)
def cR_Arrays_fill_ii_2_5 (v1 : Int32) : ((MH)) → MC := (fun r : MH => ((none, [], [], r) : MC))
def Arrays_fill_ii_2_l5 (v1 : Int32) (v2 : Int32) (σ : MH) : Option (((Int32 × MH) ⊕ ((MH)))) := if (19 : Int32) ≤ v2 then some (.inr (σ)) else (if inb v2 19 = true then some (.inl (v2 + (1 : Int32), sI σ 163 v2.toNatClampNeg v1)) else none)
set_option maxRecDepth 20000 in
set_option maxHeartbeats 2000000 in
theorem t_Arrays_fill_ii_2_l5 (v1 : Int32) (v2 : Int32)  (σ : MH) {o} (h : Arrays_fill_ii_2_l5 v1 v2 σ = some o) : Go m_Arrays_fill_ii_2 1 (cH_Arrays_fill_ii_2_5 v1 (v2, σ)) (cS (cH_Arrays_fill_ii_2_5 v1) (cR_Arrays_fill_ii_2_5 v1) o) := by
  unfold Arrays_fill_ii_2_l5 at h
  unfold cH_Arrays_fill_ii_2_5
  refine Go.t (Go_sg bk_Arrays_fill_ii_2 5 2 (c2 := (some 7, [some (.ref 163), some (.int v1), some (.int v2), some (.int (19 : Int32))], [.int (19 : Int32), .int v2], σ)) (ps := []) rfl trivial) ?_
  refine Go_icmp_ge bk_Arrays_fill_ii_2 7 rfl (fun c2 => ?_) (fun c2 => ?_)
  · have h := ifT c2 h
    have h := Option.some.inj h
    subst h
    exact Go_ret0 bk_Arrays_fill_ii_2 14 rfl
  · have h := ifF c2 h
    obtain ⟨g1, h⟩ := gdS h
    refine Go.t (Go_sg bk_Arrays_fill_ii_2 8 6 (c2 := (some 5, [some (.ref 163), some (.int v1), some (.int (v2 + (1 : Int32))), some (.int (19 : Int32))], [], sI σ 163 v2.toNatClampNeg v1)) (ps := [IA 163 19 ∧ inb v2 19 = true]) rfl ⟨⟨⟨rfl, rfl⟩, g1⟩, trivial⟩) ?_
    have h := Option.some.inj h
    subst h
    exact Go.fg (LSub.cs (LSub.cs (LSub.cs (LSub.cs (LSub.nil)))))
def Arrays_fill_ii_2_L5 (v1 : Int32) (s : Int32 × MH) : Option ((MH)) := itr (fun s : Int32 × MH => Arrays_fill_ii_2_l5 v1 s.1 s.2) FU s
set_option maxRecDepth 20000 in
set_option maxHeartbeats 2000000 in
theorem t_Arrays_fill_ii_2_L5 (v1 : Int32)  (s : Int32 × MH) {r} (h : Arrays_fill_ii_2_L5 v1 s = some r) : Go m_Arrays_fill_ii_2 1 (cH_Arrays_fill_ii_2_5 v1 s) (cR_Arrays_fill_ii_2_5 v1 r) := Go_itr (fun s o ho => t_Arrays_fill_ii_2_l5 v1 s.1 s.2 ho) FU s r h
def Arrays_fill_ii_20 (v1 : Int32) (σ : MH) : Option (MH) := (Arrays_fill_ii_2_L5 v1 ((0 : Int32), σ)).bind fun z3 => some (z3)
set_option maxRecDepth 20000 in
set_option maxHeartbeats 2000000 in
theorem t_Arrays_fill_ii_20 (v1 : Int32)  (σ : MH) {o} (h : Arrays_fill_ii_20 v1 σ = some o) : Go m_Arrays_fill_ii_2 1 (some 0, [some (.ref 163), some (.int v1), none, none], [], σ) ((none, [], [], o)) := by
  unfold Arrays_fill_ii_20 at h
  refine Go.t (Go_sg bk_Arrays_fill_ii_2 0 5 (c2 := (some 5, [some (.ref 163), some (.int v1), some (.int (0 : Int32)), some (.int (19 : Int32))], [], σ)) (ps := [IA 163 19 ∨ IJ 163 19]) rfl ⟨(Or.inl ⟨rfl, rfl⟩), trivial⟩) ?_
  obtain ⟨z3, q4, h⟩ := bdS h
  refine Go.t (Go.t (Go.fg (LSub.cs (LSub.cs (LSub.cs (LSub.cs (LSub.nil)))))) (t_Arrays_fill_ii_2_L5 v1 _ q4)) ?_
  have h := Option.some.inj h
  subst h
  exact Go.rf
def Arrays_fill_ii_2 (v1 : Int32) (σ : MH) : Option (MH) := Arrays_fill_ii_20 v1 σ
set_option maxRecDepth 20000 in
set_option maxHeartbeats 2000000 in
theorem ev_Arrays_fill_ii_2 (v1 : Int32)  (σ : MH) {o} (h : Arrays_fill_ii_2 v1 σ = some o) : Ev m_Arrays_fill_ii_2 1 [.ref 163, .int v1] σ none o := Ev.of2 (by decide +kernel) rfl (Nat.le_of_ble_eq_true rfl) rfl (t_Arrays_fill_ii_20 v1 σ h)
def cH_Sander_sand_n_40 (v1 : Nat) (v2 : Nat) (v6 : Int32) (v7 : Int32) (s : Int64 × Int32 × MH) : MC := (some 40, [some (.ref 159), some (.ref v1), some (.ref v2), none, some (.null), none, some (.int v6), some (.int v7), some (.long s.1), none, some (.int s.2.1), none, none, none], [], s.2.2)
def cR_Sander_sand_n_40 (v1 : Nat) (v2 : Nat) (v6 : Int32) (v7 : Int32) : ((MH)) → MC := (fun r : MH => ((some 164, [some (.ref 159), none, none, none, none, none, some (.int v6), some (.int v7), none, none, none, none, none, none], [], r) : MC))
def cH_Sander_sand_n_103 (v1 : Nat) (v2 : Nat) (v6 : Int32) (v7 : Int32) (v8 : Int64) (v10 : Int32) (s : Int32 × MH) : MC := (some 103, [some (.ref 159), some (.ref v1), some (.ref v2), none, some (.null), none, some (.int v6), some (.int v7), some (.long v8), none, some (.int v10), none, some (.int s.1), none], [], s.2)
def cR_Sander_sand_n_103 (v1 : Nat) (v2 : Nat) (v6 : Int32) (v7 : Int32) (v8 : Int64) (v10 : Int32) : ((MH)) → MC := (fun r : MH => ((some 150, [some (.ref 159), some (.ref v1), some (.ref v2), none, some (.null), none, some (.int v6), some (.int v7), some (.long v8), none, some (.int v10), none, none, none], [], r) : MC))
def cH_Sander_sand_n_112 (v1 : Nat) (v2 : Nat) (v6 : Int32) (v7 : Int32) (v8 : Int64) (v10 : Int32) (v12 : Int32) (s : Int32 × MH) : MC := (some 112, [some (.ref 159), some (.ref v1), some (.ref v2), none, some (.null), none, some (.int v6), some (.int v7), some (.long v8), none, some (.int v10), none, some (.int v12), some (.int s.1)], [], s.2)
def cR_Sander_sand_n_112 (v1 : Nat) (v2 : Nat) (v6 : Int32) (v7 : Int32) (v8 : Int64) (v10 : Int32) (v12 : Int32) : ((MH)) → MC := (fun r : MH => ((some 144, [some (.ref 159), some (.ref v1), some (.ref v2), none, some (.null), none, some (.int v6), some (.int v7), some (.long v8), none, some (.int v10), none, some (.int v12), none], [], r) : MC))
def Sander_sand_n_l112 (v1 : Nat) (v2 : Nat) (v6 : Int32) (v7 : Int32) (v8 : Int64) (v10 : Int32) (v12 : Int32) (v13 : Int32) (σ : MH) : Option (((Int32 × MH) ⊕ ((MH)))) := if v13 < (0 : Int32) then some (.inr (σ)) else ((Sander_bestHere v12 v13 σ).bind fun x12 => if inb ((v12 * (61 : Int32)) + v13) 3721 = true then some (.inl (v13 + (-1 : Int32), sJ σ 164 ((v12 * (61 : Int32)) + v13).toNatClampNeg x12)) else none)
set_option maxRecDepth 20000 in
set_option maxHeartbeats 2000000 in
theorem t_Sander_sand_n_l112 (v1 : Nat) (v2 : Nat) (v6 : Int32) (v7 : Int32) (v8 : Int64) (v10 : Int32) (v12 : Int32) (v13 : Int32) (hv1 : IA v1 8) (hv2 : IA v2 8) (σ : MH) {o} (h : Sander_sand_n_l112 v1 v2 v6 v7 v8 v10 v12 v13 σ = some o) : Go m_Sander_sand_n 3 (cH_Sander_sand_n_112 v1 v2 v6 v7 v8 v10 v12 (v13, σ)) (cS (cH_Sander_sand_n_112 v1 v2 v6 v7 v8 v10 v12) (cR_Sander_sand_n_112 v1 v2 v6 v7 v8 v10 v12) o) := by
  unfold Sander_sand_n_l112 at h
  unfold cH_Sander_sand_n_112
  refine Go.t (Go_sg bk_Sander_sand_n 55 1 (c2 := (some 114, [some (.ref 159), some (.ref v1), some (.ref v2), none, some (.null), none, some (.int v6), some (.int v7), some (.long v8), none, some (.int v10), none, some (.int v12), some (.int v13)], [.int v13], σ)) (ps := []) rfl trivial) ?_
  refine Go_if_lt bk_Sander_sand_n 56 rfl (fun c16 => ?_) (fun c16 => ?_)
  · have h := ifT c16 h
    have h := Option.some.inj h
    subst h
    exact Go.fg (LSub.cs (LSub.cs (LSub.cs (LSub.cn (LSub.cs (LSub.cn (LSub.cs (LSub.cs (LSub.cs (LSub.cn (LSub.cs (LSub.cn (LSub.cs (LSub.cn (LSub.nil)))))))))))))))
  · have h := ifF c16 h
    refine Go.t (Go_sg bk_Sander_sand_n 57 10 (c2 := (some 134, [some (.ref 159), some (.ref v1), some (.ref v2), none, some (.null), none, some (.int v6), some (.int v7), some (.long v8), none, some (.int v10), none, some (.int v12), some (.int v13)], [.int v13, .int v12, .ref 159, .int ((v12 * (61 : Int32)) + v13), .ref 164], σ)) (ps := [shk 159 = 7]) rfl ⟨rfl, trivial⟩) ?_
    obtain ⟨x12, q14, h⟩ := bdS h
    refine Go.t (Go_callV bk_Sander_sand_n 67 rfl nk_Sander_bestHere tw1116 tw1118 tw37 (ci := 7) rfl (as := [.int v12, .int v13]) (S := [.int ((v12 * (61 : Int32)) + v13), .ref 164]) rfl rfl rfl rfl (Nat.le_of_ble_eq_true rfl) (Nat.le_of_ble_eq_true rfl) (ev_Sander_bestHere _ _ _ q14)) ?_
    obtain ⟨g15, h⟩ := gdS h
    refine Go.t (Go_sg bk_Sander_sand_n 68 3 (c2 := (some 112, [some (.ref 159), some (.ref v1), some (.ref v2), none, some (.null), none, some (.int v6), some (.int v7), some (.long v8), none, some (.int v10), none, some (.int v12), some (.int (v13 + (-1 : Int32)))], [], sJ σ 164 ((v12 * (61 : Int32)) + v13).toNatClampNeg x12)) (ps := [IJ 164 3721 ∧ inb ((v12 * (61 : Int32)) + v13) 3721 = true]) rfl ⟨⟨⟨rfl, rfl⟩, g15⟩, trivial⟩) ?_
    have h := Option.some.inj h
    subst h
    exact Go.fg (LSub.cs (LSub.cs (LSub.cs (LSub.cn (LSub.cs (LSub.cn (LSub.cs (LSub.cs (LSub.cs (LSub.cn (LSub.cs (LSub.cn (LSub.cs (LSub.cs (LSub.nil)))))))))))))))
def Sander_sand_n_L112 (v1 : Nat) (v2 : Nat) (v6 : Int32) (v7 : Int32) (v8 : Int64) (v10 : Int32) (v12 : Int32) (s : Int32 × MH) : Option ((MH)) := itr (fun s : Int32 × MH => Sander_sand_n_l112 v1 v2 v6 v7 v8 v10 v12 s.1 s.2) FU s
set_option maxRecDepth 20000 in
set_option maxHeartbeats 2000000 in
theorem t_Sander_sand_n_L112 (v1 : Nat) (v2 : Nat) (v6 : Int32) (v7 : Int32) (v8 : Int64) (v10 : Int32) (v12 : Int32) (hv1 : IA v1 8) (hv2 : IA v2 8) (s : Int32 × MH) {r} (h : Sander_sand_n_L112 v1 v2 v6 v7 v8 v10 v12 s = some r) : Go m_Sander_sand_n 3 (cH_Sander_sand_n_112 v1 v2 v6 v7 v8 v10 v12 s) (cR_Sander_sand_n_112 v1 v2 v6 v7 v8 v10 v12 r) := Go_itr (fun s o ho => t_Sander_sand_n_l112 v1 v2 v6 v7 v8 v10 v12 s.1 hv1 hv2 s.2 ho) FU s r h
def Sander_sand_n_l103 (v1 : Nat) (v2 : Nat) (v6 : Int32) (v7 : Int32) (v8 : Int64) (v10 : Int32) (v12 : Int32) (σ : MH) : Option (((Int32 × MH) ⊕ ((MH)))) := if v12 < (0 : Int32) then some (.inr (σ)) else ((Sander_sand_n_L112 v1 v2 v6 v7 v8 v10 v12 (v7, σ)).bind fun z17 => some (.inl (v12 + (-1 : Int32), z17)))
set_option maxRecDepth 20000 in
set_option maxHeartbeats 2000000 in
theorem t_Sander_sand_n_l103 (v1 : Nat) (v2 : Nat) (v6 : Int32) (v7 : Int32) (v8 : Int64) (v10 : Int32) (v12 : Int32) (hv1 : IA v1 8) (hv2 : IA v2 8) (σ : MH) {o} (h : Sander_sand_n_l103 v1 v2 v6 v7 v8 v10 v12 σ = some o) : Go m_Sander_sand_n 3 (cH_Sander_sand_n_103 v1 v2 v6 v7 v8 v10 (v12, σ)) (cS (cH_Sander_sand_n_103 v1 v2 v6 v7 v8 v10) (cR_Sander_sand_n_103 v1 v2 v6 v7 v8 v10) o) := by
  unfold Sander_sand_n_l103 at h
  unfold cH_Sander_sand_n_103
  refine Go.t (Go_sg bk_Sander_sand_n 51 1 (c2 := (some 105, [some (.ref 159), some (.ref v1), some (.ref v2), none, some (.null), none, some (.int v6), some (.int v7), some (.long v8), none, some (.int v10), none, some (.int v12), none], [.int v12], σ)) (ps := []) rfl trivial) ?_
  refine Go_if_lt bk_Sander_sand_n 52 rfl (fun c19 => ?_) (fun c19 => ?_)
  · have h := ifT c19 h
    have h := Option.some.inj h
    subst h
    exact Go.fg (LSub.cs (LSub.cs (LSub.cs (LSub.cn (LSub.cs (LSub.cn (LSub.cs (LSub.cs (LSub.cs (LSub.cn (LSub.cs (LSub.cn (LSub.cn (LSub.cn (LSub.nil)))))))))))))))
  · have h := ifF c19 h
    refine Go.t (Go_sg bk_Sander_sand_n 53 2 (c2 := (some 112, [some (.ref 159), some (.ref v1), some (.ref v2), none, some (.null), none, some (.int v6), some (.int v7), some (.long v8), none, some (.int v10), none, some (.int v12), some (.int v7)], [], σ)) (ps := []) rfl trivial) ?_
    obtain ⟨z17, q18, h⟩ := bdS h
    refine Go.t (Go.t (Go.fg (LSub.cs (LSub.cs (LSub.cs (LSub.cn (LSub.cs (LSub.cn (LSub.cs (LSub.cs (LSub.cs (LSub.cn (LSub.cs (LSub.cn (LSub.cs (LSub.cs (LSub.nil)))))))))))))))) (t_Sander_sand_n_L112 v1 v2 v6 v7 v8 v10 v12 hv1 hv2 _ q18)) ?_
    refine Go.t (Go_sg bk_Sander_sand_n 71 2 (c2 := (some 103, [some (.ref 159), some (.ref v1), some (.ref v2), none, some (.null), none, some (.int v6), some (.int v7), some (.long v8), none, some (.int v10), none, some (.int (v12 + (-1 : Int32))), none], [], z17)) (ps := []) rfl trivial) ?_
    have h := Option.some.inj h
    subst h
    exact Go.fg (LSub.cs (LSub.cs (LSub.cs (LSub.cn (LSub.cs (LSub.cn (LSub.cs (LSub.cs (LSub.cs (LSub.cn (LSub.cs (LSub.cn (LSub.cs (LSub.cn (LSub.nil)))))))))))))))
def Sander_sand_n_L103 (v1 : Nat) (v2 : Nat) (v6 : Int32) (v7 : Int32) (v8 : Int64) (v10 : Int32) (s : Int32 × MH) : Option ((MH)) := itr (fun s : Int32 × MH => Sander_sand_n_l103 v1 v2 v6 v7 v8 v10 s.1 s.2) FU s
set_option maxRecDepth 20000 in
set_option maxHeartbeats 2000000 in
theorem t_Sander_sand_n_L103 (v1 : Nat) (v2 : Nat) (v6 : Int32) (v7 : Int32) (v8 : Int64) (v10 : Int32) (hv1 : IA v1 8) (hv2 : IA v2 8) (s : Int32 × MH) {r} (h : Sander_sand_n_L103 v1 v2 v6 v7 v8 v10 s = some r) : Go m_Sander_sand_n 3 (cH_Sander_sand_n_103 v1 v2 v6 v7 v8 v10 s) (cR_Sander_sand_n_103 v1 v2 v6 v7 v8 v10 r) := Go_itr (fun s o ho => t_Sander_sand_n_l103 v1 v2 v6 v7 v8 v10 s.1 hv1 hv2 s.2 ho) FU s r h
def Sander_sand_n_l40 (v1 : Nat) (v2 : Nat) (v6 : Int32) (v7 : Int32) (v8 : Int64) (v10 : Int32) (σ : MH) : Option (((Int64 × Int32 × MH) ⊕ ((MH)))) := if v10 < (0 : Int32) then some (.inr (σ)) else (if inb v10 8 = true then if inb ((7 : Int32) - v10) 8 = true then (Sander_weigh (σ.1 v1 v10.toNatClampNeg) (-(σ.1 v2 ((7 : Int32) - v10).toNatClampNeg)) (-(σ.1 v2 ((7 : Int32) - v10).toNatClampNeg)) v8 σ).bind fun σ7 => (Arrays_fill_ii_2 (0 : Int32) σ7).bind fun σ10 => (Sander_sand_n_L103 v1 v2 v6 v7 v8 v10 (v6, σ10)).bind fun z20 => some (.inl (v8 * (19 : Int64), v10 + (-1 : Int32), z20)) else none else none)
set_option maxRecDepth 20000 in
set_option maxHeartbeats 2000000 in
theorem t_Sander_sand_n_l40 (v1 : Nat) (v2 : Nat) (v6 : Int32) (v7 : Int32) (v8 : Int64) (v10 : Int32) (hv1 : IA v1 8) (hv2 : IA v2 8) (σ : MH) {o} (h : Sander_sand_n_l40 v1 v2 v6 v7 v8 v10 σ = some o) : Go m_Sander_sand_n 3 (cH_Sander_sand_n_40 v1 v2 v6 v7 (v8, v10, σ)) (cS (cH_Sander_sand_n_40 v1 v2 v6 v7) (cR_Sander_sand_n_40 v1 v2 v6 v7) o) := by
  unfold Sander_sand_n_l40 at h
  unfold cH_Sander_sand_n_40
  refine Go.t (Go_sg bk_Sander_sand_n 20 1 (c2 := (some 42, [some (.ref 159), some (.ref v1), some (.ref v2), none, some (.null), none, some (.int v6), some (.int v7), some (.long v8), none, some (.int v10), none, none, none], [.int v10], σ)) (ps := []) rfl trivial) ?_
  refine Go_if_lt bk_Sander_sand_n 21 rfl (fun c22 => ?_) (fun c22 => ?_)
  · have h := ifT c22 h
    have h := Option.some.inj h
    subst h
    exact Go.fg (LSub.cs (LSub.cn (LSub.cn (LSub.cn (LSub.cn (LSub.cn (LSub.cs (LSub.cs (LSub.cn (LSub.cn (LSub.cn (LSub.cn (LSub.cn (LSub.cn (LSub.nil)))))))))))))))
  · have h := ifF c22 h
    obtain ⟨g4, h⟩ := gdS h
    obtain ⟨g5, h⟩ := gdS h
    refine Go.t (Go_sg bk_Sander_sand_n 22 13 (c2 := (some 64, [some (.ref 159), some (.ref v1), some (.ref v2), none, some (.null), none, some (.int v6), some (.int v7), some (.long v8), none, some (.int v10), some (.int ((7 : Int32) - v10)), none, none], [.null, .int (-(σ.1 v2 ((7 : Int32) - v10).toNatClampNeg)), .int (σ.1 v1 v10.toNatClampNeg), .ref 159], σ)) (ps := [IA v1 8 ∧ inb v10 8 = true, IA v2 8 ∧ inb ((7 : Int32) - v10) 8 = true]) rfl ⟨⟨hv1, g4⟩, ⟨hv2, g5⟩, trivial⟩) ?_
    refine Go.t (Go_nn_n bk_Sander_sand_n 35 rfl) ?_
    refine Go.t (Go_sg bk_Sander_sand_n 36 5 (c2 := (some 81, [some (.ref 159), some (.ref v1), some (.ref v2), none, some (.null), none, some (.int v6), some (.int v7), some (.long v8), none, some (.int v10), some (.int ((7 : Int32) - v10)), none, none], [.int (-(σ.1 v2 ((7 : Int32) - v10).toNatClampNeg)), .int (-(σ.1 v2 ((7 : Int32) - v10).toNatClampNeg)), .int (σ.1 v1 v10.toNatClampNeg), .ref 159], σ)) (ps := [IA v2 8 ∧ inb ((7 : Int32) - v10) 8 = true]) rfl ⟨⟨hv2, g5⟩, trivial⟩) ?_
    refine Go.t (Go_sg bk_Sander_sand_n 41 1 (c2 := (some 83, [some (.ref 159), some (.ref v1), some (.ref v2), none, some (.null), none, some (.int v6), some (.int v7), some (.long v8), none, some (.int v10), some (.int ((7 : Int32) - v10)), none, none], [.long v8, .int (-(σ.1 v2 ((7 : Int32) - v10).toNatClampNeg)), .int (-(σ.1 v2 ((7 : Int32) - v10).toNatClampNeg)), .int (σ.1 v1 v10.toNatClampNeg), .ref 159], σ)) (ps := []) rfl trivial) ?_
    obtain ⟨σ7, q8, h⟩ := bdS h
    refine Go.t (Go_callV bk_Sander_sand_n 42 rfl nk_Sander_weigh tw1109 tw1111 tw36 (ci := 7) rfl (as := [.int (σ.1 v1 v10.toNatClampNeg), .int (-(σ.1 v2 ((7 : Int32) - v10).toNatClampNeg)), .int (-(σ.1 v2 ((7 : Int32) - v10).toNatClampNeg)), .long v8]) (S := []) rfl rfl rfl rfl (Nat.le_of_ble_eq_true rfl) (Nat.le_of_ble_eq_true rfl) (ev_Sander_weigh _ _ _ _ _ q8)) ?_
    refine Go.t (Go_sg bk_Sander_sand_n 43 1 (c2 := (some 88, [some (.ref 159), some (.ref v1), some (.ref v2), none, some (.null), none, some (.int v6), some (.int v7), some (.long v8), none, some (.int v10), some (.int ((7 : Int32) - v10)), none, none], [.null], σ7)) (ps := []) rfl trivial) ?_
    refine Go.t (Go_nn_n bk_Sander_sand_n 44 rfl) ?_
    refine Go.t (Go_sg bk_Sander_sand_n 45 3 (c2 := (some 96, [some (.ref 159), some (.ref v1), some (.ref v2), none, some (.null), none, some (.int v6), some (.int v7), some (.long v8), none, some (.int v10), some (.int ((7 : Int32) - v10)), none, none], [.int (0 : Int32), .ref 163], σ7)) (ps := [shk 159 = 7]) rfl ⟨rfl, trivial⟩) ?_
    obtain ⟨σ10, q11, h⟩ := bdS h
    refine Go.t (Go_callS bk_Sander_sand_n 48 rfl nk_Arrays_fill_ii_2 tw1115 tw894 (as := [.ref 163, .int (0 : Int32)]) (S := []) rfl rfl rfl (Nat.le_of_ble_eq_true rfl) (Nat.le_of_ble_eq_true rfl) (ev_Arrays_fill_ii_2 _ _ q11)) ?_
    refine Go.t (Go_sg bk_Sander_sand_n 49 2 (c2 := (some 103, [some (.ref 159), some (.ref v1), some (.ref v2), none, some (.null), none, some (.int v6), some (.int v7), some (.long v8), none, some (.int v10), some (.int ((7 : Int32) - v10)), some (.int v6), none], [], σ10)) (ps := []) rfl trivial) ?_
    obtain ⟨z20, q21, h⟩ := bdS h
    refine Go.t (Go.t (Go.fg (LSub.cs (LSub.cs (LSub.cs (LSub.cn (LSub.cs (LSub.cn (LSub.cs (LSub.cs (LSub.cs (LSub.cn (LSub.cs (LSub.cn (LSub.cs (LSub.cn (LSub.nil)))))))))))))))) (t_Sander_sand_n_L103 v1 v2 v6 v7 v8 v10 hv1 hv2 _ q21)) ?_
    refine Go.t (Go_sg bk_Sander_sand_n 73 6 (c2 := (some 40, [some (.ref 159), some (.ref v1), some (.ref v2), none, some (.null), none, some (.int v6), some (.int v7), some (.long (v8 * (19 : Int64))), none, some (.int (v10 + (-1 : Int32))), none, none, none], [], z20)) (ps := []) rfl trivial) ?_
    have h := Option.some.inj h
    subst h
    exact Go.fg (LSub.cs (LSub.cs (LSub.cs (LSub.cn (LSub.cs (LSub.cn (LSub.cs (LSub.cs (LSub.cs (LSub.cn (LSub.cs (LSub.cn (LSub.cn (LSub.cn (LSub.nil)))))))))))))))
def Sander_sand_n_L40 (v1 : Nat) (v2 : Nat) (v6 : Int32) (v7 : Int32) (s : Int64 × Int32 × MH) : Option ((MH)) := itr (fun s : Int64 × Int32 × MH => Sander_sand_n_l40 v1 v2 v6 v7 s.1 s.2.1 s.2.2) FU s
set_option maxRecDepth 20000 in
set_option maxHeartbeats 2000000 in
theorem t_Sander_sand_n_L40 (v1 : Nat) (v2 : Nat) (v6 : Int32) (v7 : Int32) (hv1 : IA v1 8) (hv2 : IA v2 8) (s : Int64 × Int32 × MH) {r} (h : Sander_sand_n_L40 v1 v2 v6 v7 s = some r) : Go m_Sander_sand_n 3 (cH_Sander_sand_n_40 v1 v2 v6 v7 s) (cR_Sander_sand_n_40 v1 v2 v6 v7 r) := Go_itr (fun s o ho => t_Sander_sand_n_l40 v1 v2 v6 v7 s.1 s.2.1 hv1 hv2 s.2.2 ho) FU s r h
def Sander_sand_n0 (v1 : Nat) (v2 : Nat) (v3 : Int32) (v5 : Int32) (σ : MH) : Option (MH) := (Arrays_fill_ll (0 : Int64) σ).bind fun σ2 => (Sander_sand_n_L40 v1 v2 (jmax (0 : Int32) (jmin (60 : Int32) v3)) (jmax (0 : Int32) (jmin (60 : Int32) v5)) ((1 : Int64), (7 : Int32), σ2)).bind fun z23 => (Sander_leastOf (jmax (0 : Int32) (jmin (60 : Int32) v3)) (jmax (0 : Int32) (jmin (60 : Int32) v5)) z23).bind fun x25 => (Sander_read x25 z23).bind fun σ29 => some (σ29)
set_option maxRecDepth 20000 in
set_option maxHeartbeats 2000000 in
theorem t_Sander_sand_n0 (v1 : Nat) (v2 : Nat) (v3 : Int32) (v5 : Int32) (hv1 : IA v1 8) (hv2 : IA v2 8) (σ : MH) {o} (h : Sander_sand_n0 v1 v2 v3 v5 σ = some o) : Go m_Sander_sand_n 3 (some 0, [some (.ref 159), some (.ref v1), some (.ref v2), some (.int v3), some (.null), some (.int v5), none, none, none, none, none, none, none, none], [], σ) ((none, [], [], o)) := by
  unfold Sander_sand_n0 at h
  refine Go.t (Go_sg bk_Sander_sand_n 0 3 (c2 := (some 4, [some (.ref 159), some (.ref v1), some (.ref v2), some (.int v3), some (.null), some (.int v5), none, none, none, none, none, none, none, none], [.int v3, .int (60 : Int32), .int (0 : Int32)], σ)) (ps := []) rfl trivial) ?_
  refine Go.t (Go_mmin bk_Sander_sand_n 3 rfl tw1104 (Nat.le_of_ble_eq_true rfl) (Nat.le_of_ble_eq_true rfl)) ?_
  refine Go.t (Go_mmax bk_Sander_sand_n 4 rfl tw1105 (Nat.le_of_ble_eq_true rfl) (Nat.le_of_ble_eq_true rfl)) ?_
  refine Go.t (Go_sg bk_Sander_sand_n 5 4 (c2 := (some 17, [some (.ref 159), some (.ref v1), some (.ref v2), some (.int v3), some (.null), some (.int v5), some (.int (jmax (0 : Int32) (jmin (60 : Int32) v3))), none, none, none, none, none, none, none], [.int v5, .int (60 : Int32), .int (0 : Int32)], σ)) (ps := []) rfl trivial) ?_
  refine Go.t (Go_mmin bk_Sander_sand_n 9 rfl tw1104 (Nat.le_of_ble_eq_true rfl) (Nat.le_of_ble_eq_true rfl)) ?_
  refine Go.t (Go_mmax bk_Sander_sand_n 10 rfl tw1105 (Nat.le_of_ble_eq_true rfl) (Nat.le_of_ble_eq_true rfl)) ?_
  refine Go.t (Go_sg bk_Sander_sand_n 11 4 (c2 := (some 30, [some (.ref 159), some (.ref v1), some (.ref v2), some (.int v3), some (.null), some (.int v5), some (.int (jmax (0 : Int32) (jmin (60 : Int32) v3))), some (.int (jmax (0 : Int32) (jmin (60 : Int32) v5))), none, none, none, none, none, none], [.long (0 : Int64), .ref 164], σ)) (ps := [shk 159 = 7]) rfl ⟨rfl, trivial⟩) ?_
  obtain ⟨σ2, q3, h⟩ := bdS h
  refine Go.t (Go_callS bk_Sander_sand_n 15 rfl nk_Arrays_fill_ll tw1106 tw1107 (as := [.ref 164, .long (0 : Int64)]) (S := []) rfl rfl rfl (Nat.le_of_ble_eq_true rfl) (Nat.le_of_ble_eq_true rfl) (ev_Arrays_fill_ll _ _ q3)) ?_
  refine Go.t (Go_sg bk_Sander_sand_n 16 4 (c2 := (some 40, [some (.ref 159), some (.ref v1), some (.ref v2), some (.int v3), some (.null), some (.int v5), some (.int (jmax (0 : Int32) (jmin (60 : Int32) v3))), some (.int (jmax (0 : Int32) (jmin (60 : Int32) v5))), some (.long (1 : Int64)), none, some (.int (7 : Int32)), none, none, none], [], σ2)) (ps := []) rfl trivial) ?_
  obtain ⟨z23, q24, h⟩ := bdS h
  refine Go.t (Go.t (Go.fg (LSub.cs (LSub.cs (LSub.cs (LSub.cn (LSub.cs (LSub.cn (LSub.cs (LSub.cs (LSub.cs (LSub.cn (LSub.cs (LSub.cn (LSub.cn (LSub.cn (LSub.nil)))))))))))))))) (t_Sander_sand_n_L40 v1 v2 (jmax (0 : Int32) (jmin (60 : Int32) v3)) (jmax (0 : Int32) (jmin (60 : Int32) v5)) hv1 hv2 _ q24)) ?_
  refine Go.t (Go_sg bk_Sander_sand_n 79 4 (c2 := (some 170, [some (.ref 159), none, none, none, none, none, some (.int (jmax (0 : Int32) (jmin (60 : Int32) v3))), some (.int (jmax (0 : Int32) (jmin (60 : Int32) v5))), none, none, none, none, none, none], [.int (jmax (0 : Int32) (jmin (60 : Int32) v5)), .int (jmax (0 : Int32) (jmin (60 : Int32) v3)), .ref 159, .ref 159], z23)) (ps := []) rfl trivial) ?_
  obtain ⟨x25, q27, h⟩ := bdS h
  refine Go.t (Go_callV bk_Sander_sand_n 83 rfl nk_Sander_leastOf tw1121 tw1123 tw38 (ci := 7) rfl (as := [.int (jmax (0 : Int32) (jmin (60 : Int32) v3)), .int (jmax (0 : Int32) (jmin (60 : Int32) v5))]) (S := [.ref 159]) rfl rfl rfl rfl (Nat.le_of_ble_eq_true rfl) (Nat.le_of_ble_eq_true rfl) (ev_Sander_leastOf _ _ _ q27)) ?_
  obtain ⟨σ29, q30, h⟩ := bdS h
  refine Go.t (Go_callV bk_Sander_sand_n 84 rfl nk_Sander_read tw1129 tw1131 tw39 (ci := 7) rfl (as := [.long x25]) (S := []) rfl rfl rfl rfl (Nat.le_of_ble_eq_true rfl) (Nat.le_of_ble_eq_true rfl) (ev_Sander_read _ _ q30)) ?_
  have h := Option.some.inj h
  subst h
  exact Go_ret0 bk_Sander_sand_n 85 rfl
def Sander_sand_n (v1 : Nat) (v2 : Nat) (v3 : Int32) (v5 : Int32) (σ : MH) : Option (MH) := Sander_sand_n0 v1 v2 v3 v5 σ
set_option maxRecDepth 20000 in
set_option maxHeartbeats 2000000 in
theorem ev_Sander_sand_n (v1 : Nat) (v2 : Nat) (v3 : Int32) (v5 : Int32) (hv1 : IA v1 8) (hv2 : IA v2 8) (σ : MH) {o} (h : Sander_sand_n v1 v2 v3 v5 σ = some o) : Ev m_Sander_sand_n 3 [.ref 159, .ref v1, .ref v2, .int v3, .null, .int v5] σ none o := Ev.of2 (by decide +kernel) rfl (Nat.le_of_ble_eq_true rfl) rfl (t_Sander_sand_n0 v1 v2 v3 v5 hv1 hv2 σ h)
def Pz_sanding_b215 (v1 : Int32) (v6 : Int32) (v7 : Int32) (σ : MH) : Option (Int32 × MH) := if σ.1 159 1 = (0 : Int32) then some ((-2 : Int32), σ) else (if v6 = (10 : Int32) then some (σ.1 159 2, σ) else (if v6 = (11 : Int32) then ((Pz_fitOthers v1 160 v7 σ).bind fun x13 => some (x13, σ)) else (if inb v6 8 = true then some ((σ.1 160 v6.toNatClampNeg) + (10 : Int32), σ) else none)))
set_option maxRecDepth 20000 in
set_option maxHeartbeats 2000000 in
theorem t_Pz_sanding_b215 (v1 : Int32) (v6 : Int32) (v7 : Int32)   (σ : MH) {o} (h : Pz_sanding_b215 v1 v6 v7 σ = some o) : Go m_Pz_sanding 4 (some 215, [some (.ref 0), some (.int v1), none, none, none, none, some (.int v6), some (.int v7), none, none, none], [], σ) ((none, [], [.int o.1], o.2)) := by
  unfold Pz_sanding_b215 at h
  refine Go.t (Go_sg bk_Pz_sanding 112 3 (c2 := (some 222, [some (.ref 0), some (.int v1), none, none, none, none, some (.int v6), some (.int v7), none, none, none], [.int (σ.1 159 1)], σ)) (ps := [shk 0 = 10, shk 159 = 7]) rfl ⟨rfl, rfl, trivial⟩) ?_
  refine Go_if_ne bk_Pz_sanding 115 rfl (fun c18 => ?_) (fun c18 => ?_)
  · have h := ifF c18 h
    refine Go.t (Go_sg bk_Pz_sanding 118 2 (c2 := (some 232, [some (.ref 0), some (.int v1), none, none, none, none, some (.int v6), some (.int v7), none, none, none], [.int (10 : Int32), .int v6], σ)) (ps := []) rfl trivial) ?_
    refine Go_icmp_ne bk_Pz_sanding 120 rfl (fun c17 => ?_) (fun c17 => ?_)
    · have h := ifF c17 h
      refine Go.t (Go_sg bk_Pz_sanding 125 2 (c2 := (some 247, [some (.ref 0), some (.int v1), none, none, none, none, some (.int v6), some (.int v7), none, none, none], [.int (11 : Int32), .int v6], σ)) (ps := []) rfl trivial) ?_
      refine Go_icmp_ne bk_Pz_sanding 127 rfl (fun c16 => ?_) (fun c16 => ?_)
      · have h := ifF c16 h
        obtain ⟨g12, h⟩ := gdS h
        have h := Option.some.inj h
        subst h
        refine Go.t (Go_sg bk_Pz_sanding 136 7 (c2 := (some 280, [some (.ref 0), some (.int v1), none, none, none, none, some (.int v6), some (.int v7), none, none, none], [.int ((σ.1 160 v6.toNatClampNeg) + (10 : Int32))], σ)) (ps := [shk 0 = 10, shk 159 = 7, IA 160 8 ∧ inb v6 8 = true]) rfl ⟨rfl, rfl, ⟨⟨rfl, rfl⟩, g12⟩, trivial⟩) ?_
        exact Go_reti bk_Pz_sanding 143 rfl
      · have h := ifT c16 h
        refine Go.t (Go_sg bk_Pz_sanding 128 6 (c2 := (some 261, [some (.ref 0), some (.int v1), none, none, none, none, some (.int v6), some (.int v7), none, none, none], [.int v7, .ref 160, .int v1, .ref 0], σ)) (ps := [shk 0 = 10, shk 159 = 7]) rfl ⟨rfl, rfl, trivial⟩) ?_
        obtain ⟨x13, q15, h⟩ := bdS h
        refine Go.t (Go_callV bk_Pz_sanding 134 rfl nk_Pz_fitOthers tw1133 tw1135 tw40 (ci := 10) rfl (as := [.int v1, .ref 160, .int v7]) (S := []) rfl rfl rfl rfl (Nat.le_of_ble_eq_true rfl) (Nat.le_of_ble_eq_true rfl) (ev_Pz_fitOthers _ _ _ ⟨rfl, rfl⟩ _ q15)) ?_
        refine Go.t (Go_sg bk_Pz_sanding 135 1 (c2 := (some 280, [some (.ref 0), some (.int v1), none, none, none, none, some (.int v6), some (.int v7), none, none, none], [.int x13], σ)) (ps := []) rfl trivial) ?_
        have h := Option.some.inj h
        subst h
        exact Go_reti bk_Pz_sanding 143 rfl
    · have h := ifT c17 h
      have h := Option.some.inj h
      subst h
      refine Go.t (Go_sg bk_Pz_sanding 121 3 (c2 := (some 242, [some (.ref 0), some (.int v1), none, none, none, none, some (.int v6), some (.int v7), none, none, none], [.int (σ.1 159 2)], σ)) (ps := [shk 0 = 10, shk 159 = 7]) rfl ⟨rfl, rfl, trivial⟩) ?_
      exact Go_reti bk_Pz_sanding 124 rfl
  · have h := ifT c18 h
    have h := Option.some.inj h
    subst h
    refine Go.t (Go_sg bk_Pz_sanding 116 1 (c2 := (some 227, [some (.ref 0), some (.int v1), none, none, none, none, some (.int v6), some (.int v7), none, none, none], [.int (-2 : Int32)], σ)) (ps := []) rfl trivial) ?_
    exact Go_reti bk_Pz_sanding 117 rfl
def Pz_sanding_b88 (v1 : Int32) (v2 : Int32) (v3 : Int32) (v4 : Int32) (v5 : Int32) (v6 : Int32) (v7 : Int32) (σ : MH) : Option (Int32 × MH) := if inb v1 12 = true then if inb v2 12 = true then (Pz_isNumber v4 σ).bind fun x6 => if x6 = (0 : Int32) then ((Sander_sand_n (rfv 9 v1.toNatClampNeg) (rfv 9 v2.toNatClampNeg) ((v3 + (σ.1 8 v1.toNatClampNeg)) + (σ.1 8 v2.toNatClampNeg)) (0 : Int32) σ).bind fun σ10 => Pz_sanding_b215 v1 v6 v7 σ10) else (if inb v4 12 = true then (Sander_sand (rfv 9 v1.toNatClampNeg) (rfv 9 v2.toNatClampNeg) ((v3 + (σ.1 8 v1.toNatClampNeg)) + (σ.1 8 v2.toNatClampNeg)) (rfv 9 v4.toNatClampNeg) ((v5 + (σ.1 8 v1.toNatClampNeg)) + (σ.1 8 v4.toNatClampNeg)) σ).bind fun σ21 => Pz_sanding_b215 v1 v6 v7 σ21 else none) else none else none
set_option maxRecDepth 20000 in
set_option maxHeartbeats 2000000 in
theorem t_Pz_sanding_b88 (v1 : Int32) (v2 : Int32) (v3 : Int32) (v4 : Int32) (v5 : Int32) (v6 : Int32) (v7 : Int32)   (σ : MH) {o} (h : Pz_sanding_b88 v1 v2 v3 v4 v5 v6 v7 σ = some o) : Go m_Pz_sanding 4 (some 88, [some (.ref 0), some (.int v1), some (.int v2), some (.int v3), some (.int v4), some (.int v5), some (.int v6), some (.int v7), none, none, none], [], σ) ((none, [], [.int o.1], o.2)) := by
  unfold Pz_sanding_b88 at h
  obtain ⟨g4, h⟩ := gdS h
  obtain ⟨g5, h⟩ := gdS h
  refine Go.t (Go_sg bk_Pz_sanding 44 15 (c2 := (some 113, [some (.ref 0), some (.int v1), some (.int v2), some (.int v3), some (.int v4), some (.int v5), some (.int v6), some (.int v7), none, some (.int ((v3 + (σ.1 8 v1.toNatClampNeg)) + (σ.1 8 v2.toNatClampNeg))), none], [.int v4], σ)) (ps := [shk 0 = 10, shk 1 = 3, IA 8 12 ∧ inb v1 12 = true, shk 0 = 10, shk 1 = 3, IA 8 12 ∧ inb v2 12 = true]) rfl ⟨rfl, rfl, ⟨⟨rfl, rfl⟩, g4⟩, rfl, rfl, ⟨⟨rfl, rfl⟩, g5⟩, trivial⟩) ?_
  obtain ⟨x6, q8, h⟩ := bdS h
  refine Go.t (Go_callS bk_Pz_sanding 59 rfl nk_Pz_isNumber tw552 tw553 (as := [.int v4]) (S := []) rfl rfl rfl (Nat.le_of_ble_eq_true rfl) (Nat.le_of_ble_eq_true rfl) (ev_Pz_isNumber _ _ q8)) ?_
  refine Go_if_eq bk_Pz_sanding 60 rfl (fun c23 => ?_) (fun c23 => ?_)
  · have h := ifT c23 h
    refine Go.t (Go_sg bk_Pz_sanding 96 15 (c2 := (some 212, [some (.ref 0), some (.int v1), some (.int v2), some (.int v3), some (.int v4), some (.int v5), some (.int v6), some (.int v7), none, some (.int ((v3 + (σ.1 8 v1.toNatClampNeg)) + (σ.1 8 v2.toNatClampNeg))), none], [.int (0 : Int32), .null, .int ((v3 + (σ.1 8 v1.toNatClampNeg)) + (σ.1 8 v2.toNatClampNeg)), .ref (rfv 9 v2.toNatClampNeg), .ref (rfv 9 v1.toNatClampNeg), .ref 159], σ)) (ps := [shk 0 = 10, shk 0 = 10, shk 1 = 3, IR 9 12 ∧ inb v1 12 = true, shk 0 = 10, shk 1 = 3, IR 9 12 ∧ inb v2 12 = true]) rfl ⟨rfl, rfl, rfl, ⟨⟨rfl, rfl⟩, g4⟩, rfl, rfl, ⟨⟨rfl, rfl⟩, g5⟩, trivial⟩) ?_
    obtain ⟨σ10, q11, h⟩ := bdS h
    refine Go.t (Go_callV bk_Pz_sanding 111 rfl nk_Sander_sand_n tw1100 tw1101 tw1102 (ci := 7) rfl (as := [.ref (rfv 9 v1.toNatClampNeg), .ref (rfv 9 v2.toNatClampNeg), .int ((v3 + (σ.1 8 v1.toNatClampNeg)) + (σ.1 8 v2.toNatClampNeg)), .null, .int (0 : Int32)]) (S := []) rfl rfl rfl rfl (Nat.le_of_ble_eq_true rfl) (Nat.le_of_ble_eq_true rfl) (ev_Sander_sand_n _ _ _ _ (rw_9 g4) (rw_9 g5) _ q11)) ?_
    exact Go.t (Go.fg (LSub.cs (LSub.cs (LSub.cn (LSub.cn (LSub.cn (LSub.cn (LSub.cs (LSub.cs (LSub.cn (LSub.cn (LSub.cn (LSub.nil))))))))))))) (t_Pz_sanding_b215 v1 v6 v7 σ10 h)
  · have h := ifF c23 h
    obtain ⟨g19, h⟩ := gdS h
    refine Go.t (Go_sg bk_Pz_sanding 61 33 (c2 := (some 180, [some (.ref 0), some (.int v1), some (.int v2), some (.int v3), some (.int v4), some (.int v5), some (.int v6), some (.int v7), none, some (.int ((v3 + (σ.1 8 v1.toNatClampNeg)) + (σ.1 8 v2.toNatClampNeg))), some (.int ((v5 + (σ.1 8 v1.toNatClampNeg)) + (σ.1 8 v4.toNatClampNeg)))], [.int ((v5 + (σ.1 8 v1.toNatClampNeg)) + (σ.1 8 v4.toNatClampNeg)), .ref (rfv 9 v4.toNatClampNeg), .int ((v3 + (σ.1 8 v1.toNatClampNeg)) + (σ.1 8 v2.toNatClampNeg)), .ref (rfv 9 v2.toNatClampNeg), .ref (rfv 9 v1.toNatClampNeg), .ref 159], σ)) (ps := [shk 0 = 10, shk 1 = 3, IA 8 12 ∧ inb v1 12 = true, shk 0 = 10, shk 1 = 3, IA 8 12 ∧ inb v4 12 = true, shk 0 = 10, shk 0 = 10, shk 1 = 3, IR 9 12 ∧ inb v1 12 = true, shk 0 = 10, shk 1 = 3, IR 9 12 ∧ inb v2 12 = true, shk 0 = 10, shk 1 = 3, IR 9 12 ∧ inb v4 12 = true]) rfl ⟨rfl, rfl, ⟨⟨rfl, rfl⟩, g4⟩, rfl, rfl, ⟨⟨rfl, rfl⟩, g19⟩, rfl, rfl, rfl, ⟨⟨rfl, rfl⟩, g4⟩, rfl, rfl, ⟨⟨rfl, rfl⟩, g5⟩, rfl, rfl, ⟨⟨rfl, rfl⟩, g19⟩, trivial⟩) ?_
    obtain ⟨σ21, q22, h⟩ := bdS h
    refine Go.t (Go_callV bk_Pz_sanding 94 rfl nk_Sander_sand tw1100 tw1101 tw1102 (ci := 7) rfl (as := [.ref (rfv 9 v1.toNatClampNeg), .ref (rfv 9 v2.toNatClampNeg), .int ((v3 + (σ.1 8 v1.toNatClampNeg)) + (σ.1 8 v2.toNatClampNeg)), .ref (rfv 9 v4.toNatClampNeg), .int ((v5 + (σ.1 8 v1.toNatClampNeg)) + (σ.1 8 v4.toNatClampNeg))]) (S := []) rfl rfl rfl rfl (Nat.le_of_ble_eq_true rfl) (Nat.le_of_ble_eq_true rfl) (ev_Sander_sand _ _ _ _ _ (rw_9 g4) (rw_9 g5) (rw_9 g19) _ q22)) ?_
    refine Go.t (Go_sg bk_Pz_sanding 95 1 (c2 := (some 215, [some (.ref 0), some (.int v1), some (.int v2), some (.int v3), some (.int v4), some (.int v5), some (.int v6), some (.int v7), none, some (.int ((v3 + (σ.1 8 v1.toNatClampNeg)) + (σ.1 8 v2.toNatClampNeg))), some (.int ((v5 + (σ.1 8 v1.toNatClampNeg)) + (σ.1 8 v4.toNatClampNeg)))], [], σ21)) (ps := []) rfl trivial) ?_
    exact Go.t (Go.fg (LSub.cs (LSub.cs (LSub.cn (LSub.cn (LSub.cn (LSub.cn (LSub.cs (LSub.cs (LSub.cn (LSub.cn (LSub.cn (LSub.nil))))))))))))) (t_Pz_sanding_b215 v1 v6 v7 σ21 h)
def Pz_sanding_b31 (v1 : Int32) (v2 : Int32) (v3 : Int32) (v4 : Int32) (v5 : Int32) (v6 : Int32) (v7 : Int32) (s0 : Int32) (σ : MH) : Option (Int32 × MH) := if s0 = (0 : Int32) then some ((-1 : Int32), σ) else (if v7 < (0 : Int32) then some ((-1 : Int32), σ) else (if (99 : Int32) < v7 then some ((-1 : Int32), σ) else ((Pz_canSand v1 v2 v3 σ).bind fun x1 => if x1 = (0 : Int32) then some ((-1 : Int32), σ) else (if v4 = (-1 : Int32) then (Pz_sanding_b88 v1 v2 v3 v4 v5 v6 v7 σ) else (if v4 = v2 then some ((-1 : Int32), σ) else ((Pz_canSand v1 v4 v5 σ).bind fun x24 => if x24 = (0 : Int32) then some ((-1 : Int32), σ) else (Pz_sanding_b88 v1 v2 v3 v4 v5 v6 v7 σ)))))))
set_option maxRecDepth 20000 in
set_option maxHeartbeats 2000000 in
theorem t_Pz_sanding_b31 (v1 : Int32) (v2 : Int32) (v3 : Int32) (v4 : Int32) (v5 : Int32) (v6 : Int32) (v7 : Int32) (s0 : Int32)   (σ : MH) {o} (h : Pz_sanding_b31 v1 v2 v3 v4 v5 v6 v7 s0 σ = some o) : Go m_Pz_sanding 4 (some 31, [some (.ref 0), some (.int v1), some (.int v2), some (.int v3), some (.int v4), some (.int v5), some (.int v6), some (.int v7), none, none, none], [.int s0], σ) ((none, [], [.int o.1], o.2)) := by
  unfold Pz_sanding_b31 at h
  refine Go.t (Go_sg bk_Pz_sanding 14 2 (c2 := (some 35, [some (.ref 0), some (.int v1), some (.int v2), some (.int v3), some (.int v4), some (.int v5), some (.int v6), some (.int v7), some (.int s0), none, none], [.int s0], σ)) (ps := []) rfl trivial) ?_
  refine Go_if_eq bk_Pz_sanding 16 rfl (fun c33 => ?_) (fun c33 => ?_)
  · have h := ifT c33 h
    have h := Option.some.inj h
    subst h
    refine Go.t (Go_sg bk_Pz_sanding 28 1 (c2 := (some 61, [some (.ref 0), some (.int v1), some (.int v2), some (.int v3), some (.int v4), some (.int v5), some (.int v6), some (.int v7), some (.int s0), none, none], [.int (-1 : Int32)], σ)) (ps := []) rfl trivial) ?_
    exact Go_reti bk_Pz_sanding 29 rfl
  · have h := ifF c33 h
    refine Go.t (Go_sg bk_Pz_sanding 17 1 (c2 := (some 40, [some (.ref 0), some (.int v1), some (.int v2), some (.int v3), some (.int v4), some (.int v5), some (.int v6), some (.int v7), some (.int s0), none, none], [.int v7], σ)) (ps := []) rfl trivial) ?_
    refine Go_if_lt bk_Pz_sanding 18 rfl (fun c32 => ?_) (fun c32 => ?_)
    · have h := ifT c32 h
      have h := Option.some.inj h
      subst h
      refine Go.t (Go_sg bk_Pz_sanding 28 1 (c2 := (some 61, [some (.ref 0), some (.int v1), some (.int v2), some (.int v3), some (.int v4), some (.int v5), some (.int v6), some (.int v7), some (.int s0), none, none], [.int (-1 : Int32)], σ)) (ps := []) rfl trivial) ?_
      exact Go_reti bk_Pz_sanding 29 rfl
    · have h := ifF c32 h
      refine Go.t (Go_sg bk_Pz_sanding 19 2 (c2 := (some 47, [some (.ref 0), some (.int v1), some (.int v2), some (.int v3), some (.int v4), some (.int v5), some (.int v6), some (.int v7), some (.int s0), none, none], [.int (99 : Int32), .int v7], σ)) (ps := []) rfl trivial) ?_
      refine Go_icmp_gt bk_Pz_sanding 21 rfl (fun c31 => ?_) (fun c31 => ?_)
      · have h := ifT c31 h
        have h := Option.some.inj h
        subst h
        refine Go.t (Go_sg bk_Pz_sanding 28 1 (c2 := (some 61, [some (.ref 0), some (.int v1), some (.int v2), some (.int v3), some (.int v4), some (.int v5), some (.int v6), some (.int v7), some (.int s0), none, none], [.int (-1 : Int32)], σ)) (ps := []) rfl trivial) ?_
        exact Go_reti bk_Pz_sanding 29 rfl
      · have h := ifF c31 h
        refine Go.t (Go_sg bk_Pz_sanding 22 4 (c2 := (some 54, [some (.ref 0), some (.int v1), some (.int v2), some (.int v3), some (.int v4), some (.int v5), some (.int v6), some (.int v7), some (.int s0), none, none], [.int v3, .int v2, .int v1, .ref 0], σ)) (ps := []) rfl trivial) ?_
        obtain ⟨x1, q3, h⟩ := bdS h
        refine Go.t (Go_callV bk_Pz_sanding 26 rfl nk_Pz_canSand tw1096 tw1098 tw35 (ci := 10) rfl (as := [.int v1, .int v2, .int v3]) (S := []) rfl rfl rfl rfl (Nat.le_of_ble_eq_true rfl) (Nat.le_of_ble_eq_true rfl) (ev_Pz_canSand _ _ _ _ q3)) ?_
        refine Go_if_ne bk_Pz_sanding 27 rfl (fun c30 => ?_) (fun c30 => ?_)
        · have h := ifF c30 h
          refine Go.t (Go_sg bk_Pz_sanding 30 2 (c2 := (some 65, [some (.ref 0), some (.int v1), some (.int v2), some (.int v3), some (.int v4), some (.int v5), some (.int v6), some (.int v7), some (.int s0), none, none], [.int (-1 : Int32), .int v4], σ)) (ps := []) rfl trivial) ?_
          refine Go_icmp_eq bk_Pz_sanding 32 rfl (fun c29 => ?_) (fun c29 => ?_)
          · have h := ifT c29 h
            exact Go.t (Go.fg (LSub.cs (LSub.cs (LSub.cs (LSub.cs (LSub.cs (LSub.cs (LSub.cs (LSub.cs (LSub.cn (LSub.cn (LSub.cn (LSub.nil))))))))))))) (t_Pz_sanding_b88 v1 v2 v3 v4 v5 v6 v7 σ h)
          · have h := ifF c29 h
            refine Go.t (Go_sg bk_Pz_sanding 33 2 (c2 := (some 71, [some (.ref 0), some (.int v1), some (.int v2), some (.int v3), some (.int v4), some (.int v5), some (.int v6), some (.int v7), some (.int s0), none, none], [.int v2, .int v4], σ)) (ps := []) rfl trivial) ?_
            refine Go_icmp_eq bk_Pz_sanding 35 rfl (fun c28 => ?_) (fun c28 => ?_)
            · have h := ifT c28 h
              have h := Option.some.inj h
              subst h
              refine Go.t (Go_sg bk_Pz_sanding 42 1 (c2 := (some 87, [some (.ref 0), some (.int v1), some (.int v2), some (.int v3), some (.int v4), some (.int v5), some (.int v6), some (.int v7), some (.int s0), none, none], [.int (-1 : Int32)], σ)) (ps := []) rfl trivial) ?_
              exact Go_reti bk_Pz_sanding 43 rfl
            · have h := ifF c28 h
              refine Go.t (Go_sg bk_Pz_sanding 36 4 (c2 := (some 80, [some (.ref 0), some (.int v1), some (.int v2), some (.int v3), some (.int v4), some (.int v5), some (.int v6), some (.int v7), some (.int s0), none, none], [.int v5, .int v4, .int v1, .ref 0], σ)) (ps := []) rfl trivial) ?_
              obtain ⟨x24, q26, h⟩ := bdS h
              refine Go.t (Go_callV bk_Pz_sanding 40 rfl nk_Pz_canSand tw1096 tw1098 tw35 (ci := 10) rfl (as := [.int v1, .int v4, .int v5]) (S := []) rfl rfl rfl rfl (Nat.le_of_ble_eq_true rfl) (Nat.le_of_ble_eq_true rfl) (ev_Pz_canSand _ _ _ _ q26)) ?_
              refine Go_if_ne bk_Pz_sanding 41 rfl (fun c27 => ?_) (fun c27 => ?_)
              · have h := ifF c27 h
                exact Go.t (Go.fg (LSub.cs (LSub.cs (LSub.cs (LSub.cs (LSub.cs (LSub.cs (LSub.cs (LSub.cs (LSub.cn (LSub.cn (LSub.cn (LSub.nil))))))))))))) (t_Pz_sanding_b88 v1 v2 v3 v4 v5 v6 v7 σ h)
              · have h := ifT c27 h
                have h := Option.some.inj h
                subst h
                refine Go.t (Go_sg bk_Pz_sanding 42 1 (c2 := (some 87, [some (.ref 0), some (.int v1), some (.int v2), some (.int v3), some (.int v4), some (.int v5), some (.int v6), some (.int v7), some (.int s0), none, none], [.int (-1 : Int32)], σ)) (ps := []) rfl trivial) ?_
                exact Go_reti bk_Pz_sanding 43 rfl
        · have h := ifT c30 h
          have h := Option.some.inj h
          subst h
          refine Go.t (Go_sg bk_Pz_sanding 28 1 (c2 := (some 61, [some (.ref 0), some (.int v1), some (.int v2), some (.int v3), some (.int v4), some (.int v5), some (.int v6), some (.int v7), some (.int s0), none, none], [.int (-1 : Int32)], σ)) (ps := []) rfl trivial) ?_
          exact Go_reti bk_Pz_sanding 29 rfl
def Pz_sanding_b26 (v1 : Int32) (v2 : Int32) (v3 : Int32) (v4 : Int32) (v5 : Int32) (v6 : Int32) (v7 : Int32) (σ : MH) : Option (Int32 × MH) := Pz_sanding_b31 v1 v2 v3 v4 v5 v6 v7 (1 : Int32) σ
set_option maxRecDepth 20000 in
set_option maxHeartbeats 2000000 in
theorem t_Pz_sanding_b26 (v1 : Int32) (v2 : Int32) (v3 : Int32) (v4 : Int32) (v5 : Int32) (v6 : Int32) (v7 : Int32)   (σ : MH) {o} (h : Pz_sanding_b26 v1 v2 v3 v4 v5 v6 v7 σ = some o) : Go m_Pz_sanding 4 (some 26, [some (.ref 0), some (.int v1), some (.int v2), some (.int v3), some (.int v4), some (.int v5), some (.int v6), some (.int v7), none, none, none], [], σ) ((none, [], [.int o.1], o.2)) := by
  unfold Pz_sanding_b26 at h
  refine Go.t (Go_sg bk_Pz_sanding 11 2 (c2 := (some 31, [some (.ref 0), some (.int v1), some (.int v2), some (.int v3), some (.int v4), some (.int v5), some (.int v6), some (.int v7), none, none, none], [.int (1 : Int32)], σ)) (ps := []) rfl trivial) ?_
  exact Go.t (Go.fg (LSub.cs (LSub.cs (LSub.cs (LSub.cs (LSub.cs (LSub.cs (LSub.cs (LSub.cs (LSub.cn (LSub.cn (LSub.cn (LSub.nil))))))))))))) (t_Pz_sanding_b31 v1 v2 v3 v4 v5 v6 v7 (1 : Int32) σ h)
def Pz_sanding_b12 (v1 : Int32) (v2 : Int32) (v3 : Int32) (v4 : Int32) (v5 : Int32) (v6 : Int32) (v7 : Int32) (σ : MH) : Option (Int32 × MH) := if v6 = (10 : Int32) then (Pz_sanding_b26 v1 v2 v3 v4 v5 v6 v7 σ) else (if v6 = (11 : Int32) then (Pz_sanding_b26 v1 v2 v3 v4 v5 v6 v7 σ) else (Pz_sanding_b31 v1 v2 v3 v4 v5 v6 v7 (0 : Int32) σ))
set_option maxRecDepth 20000 in
set_option maxHeartbeats 2000000 in
theorem t_Pz_sanding_b12 (v1 : Int32) (v2 : Int32) (v3 : Int32) (v4 : Int32) (v5 : Int32) (v6 : Int32) (v7 : Int32)   (σ : MH) {o} (h : Pz_sanding_b12 v1 v2 v3 v4 v5 v6 v7 σ = some o) : Go m_Pz_sanding 4 (some 12, [some (.ref 0), some (.int v1), some (.int v2), some (.int v3), some (.int v4), some (.int v5), some (.int v6), some (.int v7), none, none, none], [], σ) ((none, [], [.int o.1], o.2)) := by
  unfold Pz_sanding_b12 at h
  refine Go.t (Go_sg bk_Pz_sanding 5 2 (c2 := (some 16, [some (.ref 0), some (.int v1), some (.int v2), some (.int v3), some (.int v4), some (.int v5), some (.int v6), some (.int v7), none, none, none], [.int (10 : Int32), .int v6], σ)) (ps := []) rfl trivial) ?_
  refine Go_icmp_eq bk_Pz_sanding 7 rfl (fun c35 => ?_) (fun c35 => ?_)
  · have h := ifT c35 h
    exact Go.t (Go.fg (LSub.cs (LSub.cs (LSub.cs (LSub.cs (LSub.cs (LSub.cs (LSub.cs (LSub.cs (LSub.cn (LSub.cn (LSub.cn (LSub.nil))))))))))))) (t_Pz_sanding_b26 v1 v2 v3 v4 v5 v6 v7 σ h)
  · have h := ifF c35 h
    refine Go.t (Go_sg bk_Pz_sanding 8 2 (c2 := (some 23, [some (.ref 0), some (.int v1), some (.int v2), some (.int v3), some (.int v4), some (.int v5), some (.int v6), some (.int v7), none, none, none], [.int (11 : Int32), .int v6], σ)) (ps := []) rfl trivial) ?_
    refine Go_icmp_ne bk_Pz_sanding 10 rfl (fun c34 => ?_) (fun c34 => ?_)
    · have h := ifF c34 h
      refine Go.t (Go_sg bk_Pz_sanding 13 1 (c2 := (some 31, [some (.ref 0), some (.int v1), some (.int v2), some (.int v3), some (.int v4), some (.int v5), some (.int v6), some (.int v7), none, none, none], [.int (0 : Int32)], σ)) (ps := []) rfl trivial) ?_
      exact Go.t (Go.fg (LSub.cs (LSub.cs (LSub.cs (LSub.cs (LSub.cs (LSub.cs (LSub.cs (LSub.cs (LSub.cn (LSub.cn (LSub.cn (LSub.nil))))))))))))) (t_Pz_sanding_b31 v1 v2 v3 v4 v5 v6 v7 (0 : Int32) σ h)
    · have h := ifT c34 h
      exact Go.t (Go.fg (LSub.cs (LSub.cs (LSub.cs (LSub.cs (LSub.cs (LSub.cs (LSub.cs (LSub.cs (LSub.cn (LSub.cn (LSub.cn (LSub.nil))))))))))))) (t_Pz_sanding_b26 v1 v2 v3 v4 v5 v6 v7 σ h)
def Pz_sanding0 (v1 : Int32) (v2 : Int32) (v3 : Int32) (v4 : Int32) (v5 : Int32) (v6 : Int32) (v7 : Int32) (σ : MH) : Option (Int32 × MH) := if v6 < (0 : Int32) then (Pz_sanding_b12 v1 v2 v3 v4 v5 v6 v7 σ) else (if v6 < (8 : Int32) then (Pz_sanding_b26 v1 v2 v3 v4 v5 v6 v7 σ) else (Pz_sanding_b12 v1 v2 v3 v4 v5 v6 v7 σ))
set_option maxRecDepth 20000 in
set_option maxHeartbeats 2000000 in
theorem t_Pz_sanding0 (v1 : Int32) (v2 : Int32) (v3 : Int32) (v4 : Int32) (v5 : Int32) (v6 : Int32) (v7 : Int32)  (σ : MH) {o} (h : Pz_sanding0 v1 v2 v3 v4 v5 v6 v7 σ = some o) : Go m_Pz_sanding 4 (some 0, [some (.ref 0), some (.int v1), some (.int v2), some (.int v3), some (.int v4), some (.int v5), some (.int v6), some (.int v7), none, none, none], [], σ) ((none, [], [.int o.1], o.2)) := by
  unfold Pz_sanding0 at h
  refine Go.t (Go_sg bk_Pz_sanding 0 1 (c2 := (some 2, [some (.ref 0), some (.int v1), some (.int v2), some (.int v3), some (.int v4), some (.int v5), some (.int v6), some (.int v7), none, none, none], [.int v6], σ)) (ps := []) rfl trivial) ?_
  refine Go_if_lt bk_Pz_sanding 1 rfl (fun c37 => ?_) (fun c37 => ?_)
  · have h := ifT c37 h
    exact Go.t (Go.fg (LSub.cs (LSub.cs (LSub.cs (LSub.cs (LSub.cs (LSub.cs (LSub.cs (LSub.cs (LSub.cn (LSub.cn (LSub.cn (LSub.nil))))))))))))) (t_Pz_sanding_b12 v1 v2 v3 v4 v5 v6 v7 σ h)
  · have h := ifF c37 h
    refine Go.t (Go_sg bk_Pz_sanding 2 2 (c2 := (some 9, [some (.ref 0), some (.int v1), some (.int v2), some (.int v3), some (.int v4), some (.int v5), some (.int v6), some (.int v7), none, none, none], [.int (8 : Int32), .int v6], σ)) (ps := []) rfl trivial) ?_
    refine Go_icmp_lt bk_Pz_sanding 4 rfl (fun c36 => ?_) (fun c36 => ?_)
    · have h := ifT c36 h
      exact Go.t (Go.fg (LSub.cs (LSub.cs (LSub.cs (LSub.cs (LSub.cs (LSub.cs (LSub.cs (LSub.cs (LSub.cn (LSub.cn (LSub.cn (LSub.nil))))))))))))) (t_Pz_sanding_b26 v1 v2 v3 v4 v5 v6 v7 σ h)
    · have h := ifF c36 h
      exact Go.t (Go.fg (LSub.cs (LSub.cs (LSub.cs (LSub.cs (LSub.cs (LSub.cs (LSub.cs (LSub.cs (LSub.cn (LSub.cn (LSub.cn (LSub.nil))))))))))))) (t_Pz_sanding_b12 v1 v2 v3 v4 v5 v6 v7 σ h)
def Pz_sanding (v1 : Int32) (v2 : Int32) (v3 : Int32) (v4 : Int32) (v5 : Int32) (v6 : Int32) (v7 : Int32) (σ : MH) : Option (Int32 × MH) := Pz_sanding0 v1 v2 v3 v4 v5 v6 v7 σ
set_option maxRecDepth 20000 in
set_option maxHeartbeats 2000000 in
theorem ev_Pz_sanding (v1 : Int32) (v2 : Int32) (v3 : Int32) (v4 : Int32) (v5 : Int32) (v6 : Int32) (v7 : Int32)  (σ : MH) {o} (h : Pz_sanding v1 v2 v3 v4 v5 v6 v7 σ = some o) : Ev m_Pz_sanding 4 [.ref 0, .int v1, .int v2, .int v3, .int v4, .int v5, .int v6, .int v7] σ (some (.int o.1)) o.2 := Ev.of2 (by decide +kernel) rfl (Nat.le_of_ble_eq_true rfl) ⟨.int, rfl, rfl⟩ (t_Pz_sanding0 v1 v2 v3 v4 v5 v6 v7 σ h)
def cH_Sander_steam_8 (v1 : Nat) (v2 : Nat) (v3 : Int32) (s : Int32 × MH) : MC := (some 8, [some (.ref 159), some (.ref v1), some (.ref v2), some (.int v3), some (.int s.1), none, none, none, none], [], s.2)
def cR_Sander_steam_8 (v1 : Nat) (v2 : Nat) (v3 : Int32) : ((MH)) → MC := (fun r : MH => ((none, [], [], r) : MC))
def cH_Sander_steam_19 (v1 : Nat) (v2 : Nat) (v3 : Int32) (v4 : Int32) (s : Int32 × MH) : MC := (some 19, [some (.ref 159), some (.ref v1), some (.ref v2), some (.int v3), some (.int v4), some (.int s.1), none, none, none], [], s.2)
def cR_Sander_steam_19 (v1 : Nat) (v2 : Nat) (v3 : Int32) (v4 : Int32) : ((MH)) → MC := (fun r : MH => ((some 146, [some (.ref 159), some (.ref v1), some (.ref v2), some (.int v3), some (.int v4), none, none, none, none], [], r) : MC))
def cH_Sander_steam_58 (v1 : Nat) (v2 : Nat) (v3 : Int32) (v4 : Int32) (v5 : Int32) (v6 : Int32) (s : Int32 × MH) : MC := (some 58, [some (.ref 159), some (.ref v1), some (.ref v2), some (.int v3), some (.int v4), some (.int v5), some (.int v6), some (.int s.1), none], [], s.2)
def cR_Sander_steam_58 (v1 : Nat) (v2 : Nat) (v3 : Int32) (v4 : Int32) (v5 : Int32) (v6 : Int32) : ((MH)) → MC := (fun r : MH => ((some 105, [some (.ref 159), some (.ref v1), some (.ref v2), some (.int v3), some (.int v4), some (.int v5), some (.int v6), none, none], [], r) : MC))
def Sander_steam_l58 (v1 : Nat) (v2 : Nat) (v3 : Int32) (v4 : Int32) (v5 : Int32) (v6 : Int32) (v7 : Int32) (σ : MH) : Option (((Int32 × MH) ⊕ ((MH)))) := if (8 : Int32) ≤ v7 then some (.inr (σ)) else (if inb ((v7 + v4) &&& (7 : Int32)) 8 = true then if inb v7 8 = true then some (.inl (v7 + (1 : Int32), sI σ 160 v7.toNatClampNeg (jmax (-9 : Int32) (jmin (9 : Int32) ((σ.1 v1 ((v7 + v4) &&& (7 : Int32)).toNatClampNeg) + v5))))) else none else none)
set_option maxRecDepth 20000 in
set_option maxHeartbeats 2000000 in
theorem t_Sander_steam_l58 (v1 : Nat) (v2 : Nat) (v3 : Int32) (v4 : Int32) (v5 : Int32) (v6 : Int32) (v7 : Int32) (hv1 : IA v1 8) (hv2 : IA v2 8) (σ : MH) {o} (h : Sander_steam_l58 v1 v2 v3 v4 v5 v6 v7 σ = some o) : Go m_Sander_steam 3 (cH_Sander_steam_58 v1 v2 v3 v4 v5 v6 (v7, σ)) (cS (cH_Sander_steam_58 v1 v2 v3 v4 v5 v6) (cR_Sander_steam_58 v1 v2 v3 v4 v5 v6) o) := by
  unfold Sander_steam_l58 at h
  unfold cH_Sander_steam_58
  refine Go.t (Go_sg bk_Sander_steam 28 2 (c2 := (some 62, [some (.ref 159), some (.ref v1), some (.ref v2), some (.int v3), some (.int v4), some (.int v5), some (.int v6), some (.int v7), none], [.int (8 : Int32), .int v7], σ)) (ps := []) rfl trivial) ?_
  refine Go_icmp_ge bk_Sander_steam 30 rfl (fun c3 => ?_) (fun c3 => ?_)
  · have h := ifT c3 h
    have h := Option.some.inj h
    subst h
    exact Go.fg (LSub.cs (LSub.cs (LSub.cs (LSub.cs (LSub.cs (LSub.cs (LSub.cs (LSub.cn (LSub.cn (LSub.nil))))))))))
  · have h := ifF c3 h
    obtain ⟨g1, h⟩ := gdS h
    refine Go.t (Go_sg bk_Sander_steam 31 16 (c2 := (some 92, [some (.ref 159), some (.ref v1), some (.ref v2), some (.int v3), some (.int v4), some (.int v5), some (.int v6), some (.int v7), some (.int ((σ.1 v1 ((v7 + v4) &&& (7 : Int32)).toNatClampNeg) + v5))], [.int ((σ.1 v1 ((v7 + v4) &&& (7 : Int32)).toNatClampNeg) + v5), .int (9 : Int32), .int (-9 : Int32), .int v7, .ref 160], σ)) (ps := [IA v1 8 ∧ inb ((v7 + v4) &&& (7 : Int32)) 8 = true, shk 159 = 7]) rfl ⟨⟨hv1, g1⟩, rfl, trivial⟩) ?_
    refine Go.t (Go_mmin bk_Sander_steam 47 rfl tw1104 (Nat.le_of_ble_eq_true rfl) (Nat.le_of_ble_eq_true rfl)) ?_
    refine Go.t (Go_mmax bk_Sander_steam 48 rfl tw1105 (Nat.le_of_ble_eq_true rfl) (Nat.le_of_ble_eq_true rfl)) ?_
    obtain ⟨g2, h⟩ := gdS h
    refine Go.t (Go_sg bk_Sander_steam 49 3 (c2 := (some 58, [some (.ref 159), some (.ref v1), some (.ref v2), some (.int v3), some (.int v4), some (.int v5), some (.int v6), some (.int (v7 + (1 : Int32))), some (.int ((σ.1 v1 ((v7 + v4) &&& (7 : Int32)).toNatClampNeg) + v5))], [], sI σ 160 v7.toNatClampNeg (jmax (-9 : Int32) (jmin (9 : Int32) ((σ.1 v1 ((v7 + v4) &&& (7 : Int32)).toNatClampNeg) + v5))))) (ps := [IA 160 8 ∧ inb v7 8 = true]) rfl ⟨⟨⟨rfl, rfl⟩, g2⟩, trivial⟩) ?_
    have h := Option.some.inj h
    subst h
    exact Go.fg (LSub.cs (LSub.cs (LSub.cs (LSub.cs (LSub.cs (LSub.cs (LSub.cs (LSub.cs (LSub.cn (LSub.nil))))))))))
def Sander_steam_L58 (v1 : Nat) (v2 : Nat) (v3 : Int32) (v4 : Int32) (v5 : Int32) (v6 : Int32) (s : Int32 × MH) : Option ((MH)) := itr (fun s : Int32 × MH => Sander_steam_l58 v1 v2 v3 v4 v5 v6 s.1 s.2) FU s
set_option maxRecDepth 20000 in
set_option maxHeartbeats 2000000 in
theorem t_Sander_steam_L58 (v1 : Nat) (v2 : Nat) (v3 : Int32) (v4 : Int32) (v5 : Int32) (v6 : Int32) (hv1 : IA v1 8) (hv2 : IA v2 8) (s : Int32 × MH) {r} (h : Sander_steam_L58 v1 v2 v3 v4 v5 v6 s = some r) : Go m_Sander_steam 3 (cH_Sander_steam_58 v1 v2 v3 v4 v5 v6 s) (cR_Sander_steam_58 v1 v2 v3 v4 v5 v6 r) := Go_itr (fun s o ho => t_Sander_steam_l58 v1 v2 v3 v4 v5 v6 s.1 hv1 hv2 s.2 ho) FU s r h
def Sander_steam_b140 (v1 : Nat) (v2 : Nat) (v3 : Int32) (v4 : Int32) (v5 : Int32) (σ : MH) : Option (((Int32 × MH) ⊕ ((MH)))) := some (.inl (v5 + (1 : Int32), σ))
set_option maxRecDepth 20000 in
set_option maxHeartbeats 2000000 in
theorem t_Sander_steam_b140 (v1 : Nat) (v2 : Nat) (v3 : Int32) (v4 : Int32) (v5 : Int32) (hv1 : IA v1 8) (hv2 : IA v2 8)  (σ : MH) {o} (h : Sander_steam_b140 v1 v2 v3 v4 v5 σ = some o) : Go m_Sander_steam 3 (some 140, [some (.ref 159), some (.ref v1), some (.ref v2), some (.int v3), some (.int v4), some (.int v5), none, none, none], [], σ) (cS (cH_Sander_steam_19 v1 v2 v3 v4) (cR_Sander_steam_19 v1 v2 v3 v4) o) := by
  unfold Sander_steam_b140 at h
  refine Go.t (Go_sg bk_Sander_steam 70 2 (c2 := (some 19, [some (.ref 159), some (.ref v1), some (.ref v2), some (.int v3), some (.int v4), some (.int (v5 + (1 : Int32))), none, none, none], [], σ)) (ps := []) rfl trivial) ?_
  have h := Option.some.inj h
  subst h
  exact Go.fg (LSub.cs (LSub.cs (LSub.cs (LSub.cs (LSub.cs (LSub.cs (LSub.cn (LSub.cn (LSub.cn (LSub.nil))))))))))
def Sander_steam_b55 (v1 : Nat) (v2 : Nat) (v3 : Int32) (v4 : Int32) (v5 : Int32) (v6 : Int32) (σ : MH) : Option (((Int32 × MH) ⊕ ((MH)))) := (Sander_steam_L58 v1 v2 v3 v4 v5 v6 ((0 : Int32), σ)).bind fun z4 => (Judge_gap 160 v2 z4).bind fun x6 => if v3 < x6 then (Sander_steam_b140 v1 v2 v3 v4 v5 z4) else Sander_steam_b140 v1 v2 v3 v4 v5 (sI (sI (sI (sI z4 159 1 (1 : Int32)) 159 2 v6) 159 3 v4) 159 4 v5)
set_option maxRecDepth 20000 in
set_option maxHeartbeats 2000000 in
theorem t_Sander_steam_b55 (v1 : Nat) (v2 : Nat) (v3 : Int32) (v4 : Int32) (v5 : Int32) (v6 : Int32) (hv1 : IA v1 8) (hv2 : IA v2 8)  (σ : MH) {o} (h : Sander_steam_b55 v1 v2 v3 v4 v5 v6 σ = some o) : Go m_Sander_steam 3 (some 55, [some (.ref 159), some (.ref v1), some (.ref v2), some (.int v3), some (.int v4), some (.int v5), some (.int v6), none, none], [], σ) (cS (cH_Sander_steam_19 v1 v2 v3 v4) (cR_Sander_steam_19 v1 v2 v3 v4) o) := by
  unfold Sander_steam_b55 at h
  refine Go.t (Go_sg bk_Sander_steam 26 2 (c2 := (some 58, [some (.ref 159), some (.ref v1), some (.ref v2), some (.int v3), some (.int v4), some (.int v5), some (.int v6), some (.int (0 : Int32)), none], [], σ)) (ps := []) rfl trivial) ?_
  obtain ⟨z4, q5, h⟩ := bdS h
  refine Go.t (Go.t (Go.fg (LSub.cs (LSub.cs (LSub.cs (LSub.cs (LSub.cs (LSub.cs (LSub.cs (LSub.cs (LSub.cn (LSub.nil))))))))))) (t_Sander_steam_L58 v1 v2 v3 v4 v5 v6 hv1 hv2 _ q5)) ?_
  refine Go.t (Go_sg bk_Sander_steam 52 3 (c2 := (some 110, [some (.ref 159), some (.ref v1), some (.ref v2), some (.int v3), some (.int v4), some (.int v5), some (.int v6), none, none], [.ref v2, .ref 160], z4)) (ps := [shk 159 = 7]) rfl ⟨rfl, trivial⟩) ?_
  obtain ⟨x6, q8, h⟩ := bdS h
  refine Go.t (Go_callS bk_Sander_steam 55 rfl nk_Judge_gap tw1146 tw872 (as := [.ref 160, .ref v2]) (S := []) rfl rfl rfl (Nat.le_of_ble_eq_true rfl) (Nat.le_of_ble_eq_true rfl) (ev_Judge_gap _ _ ⟨rfl, rfl⟩ hv2 _ q8)) ?_
  refine Go.t (Go_sg bk_Sander_steam 56 1 (c2 := (some 114, [some (.ref 159), some (.ref v1), some (.ref v2), some (.int v3), some (.int v4), some (.int v5), some (.int v6), none, none], [.int v3, .int x6], z4)) (ps := []) rfl trivial) ?_
  refine Go_icmp_gt bk_Sander_steam 57 rfl (fun c9 => ?_) (fun c9 => ?_)
  · have h := ifT c9 h
    exact Go.t (Go.fg (LSub.cs (LSub.cs (LSub.cs (LSub.cs (LSub.cs (LSub.cs (LSub.cn (LSub.cn (LSub.cn (LSub.nil))))))))))) (t_Sander_steam_b140 v1 v2 v3 v4 v5 hv1 hv2 z4 h)
  · have h := ifF c9 h
    refine Go.t (Go_sg bk_Sander_steam 58 12 (c2 := (some 140, [some (.ref 159), some (.ref v1), some (.ref v2), some (.int v3), some (.int v4), some (.int v5), some (.int v6), none, none], [], sI (sI (sI (sI z4 159 1 (1 : Int32)) 159 2 v6) 159 3 v4) 159 4 v5)) (ps := [(shk 159 = 7 ∧ bz (1 : Int32) = true), shk 159 = 7, shk 159 = 7, shk 159 = 7]) rfl ⟨⟨rfl, rfl⟩, rfl, rfl, rfl, trivial⟩) ?_
    exact Go.t (Go.fg (LSub.cs (LSub.cs (LSub.cs (LSub.cs (LSub.cs (LSub.cs (LSub.cn (LSub.cn (LSub.cn (LSub.nil))))))))))) (t_Sander_steam_b140 v1 v2 v3 v4 v5 hv1 hv2 (sI (sI (sI (sI z4 159 1 (1 : Int32)) 159 2 v6) 159 3 v4) 159 4 v5) h)
def Sander_steam_l19 (v1 : Nat) (v2 : Nat) (v3 : Int32) (v4 : Int32) (v5 : Int32) (σ : MH) : Option (((Int32 × MH) ⊕ ((MH)))) := if (9 : Int32) < v5 then some (.inr (σ)) else (if σ.1 159 1 = (0 : Int32) then (Sander_steam_b55 v1 v2 v3 v4 v5 (v4 + (jabs v5)) σ) else (if v4 + (jabs v5) < σ.1 159 2 then (Sander_steam_b55 v1 v2 v3 v4 v5 (v4 + (jabs v5)) σ) else (Sander_steam_b140 v1 v2 v3 v4 v5 σ)))
set_option maxRecDepth 20000 in
set_option maxHeartbeats 2000000 in
theorem t_Sander_steam_l19 (v1 : Nat) (v2 : Nat) (v3 : Int32) (v4 : Int32) (v5 : Int32) (hv1 : IA v1 8) (hv2 : IA v2 8) (σ : MH) {o} (h : Sander_steam_l19 v1 v2 v3 v4 v5 σ = some o) : Go m_Sander_steam 3 (cH_Sander_steam_19 v1 v2 v3 v4 (v5, σ)) (cS (cH_Sander_steam_19 v1 v2 v3 v4) (cR_Sander_steam_19 v1 v2 v3 v4) o) := by
  unfold Sander_steam_l19 at h
  unfold cH_Sander_steam_19
  refine Go.t (Go_sg bk_Sander_steam 10 2 (c2 := (some 23, [some (.ref 159), some (.ref v1), some (.ref v2), some (.int v3), some (.int v4), some (.int v5), none, none, none], [.int (9 : Int32), .int v5], σ)) (ps := []) rfl trivial) ?_
  refine Go_icmp_gt bk_Sander_steam 12 rfl (fun c12 => ?_) (fun c12 => ?_)
  · have h := ifT c12 h
    have h := Option.some.inj h
    subst h
    exact Go.fg (LSub.cs (LSub.cs (LSub.cs (LSub.cs (LSub.cs (LSub.cn (LSub.cn (LSub.cn (LSub.cn (LSub.nil))))))))))
  · have h := ifF c12 h
    refine Go.t (Go_sg bk_Sander_steam 13 2 (c2 := (some 30, [some (.ref 159), some (.ref v1), some (.ref v2), some (.int v3), some (.int v4), some (.int v5), none, none, none], [.int v5, .int v4], σ)) (ps := []) rfl trivial) ?_
    refine Go.t (Go_mabs bk_Sander_steam 15 rfl tw1113 (Nat.le_of_ble_eq_true rfl) (Nat.le_of_ble_eq_true rfl)) ?_
    refine Go.t (Go_sg bk_Sander_steam 16 4 (c2 := (some 40, [some (.ref 159), some (.ref v1), some (.ref v2), some (.int v3), some (.int v4), some (.int v5), some (.int (v4 + (jabs v5))), none, none], [.int (σ.1 159 1)], σ)) (ps := [shk 159 = 7]) rfl ⟨rfl, trivial⟩) ?_
    refine Go_if_eq bk_Sander_steam 20 rfl (fun c11 => ?_) (fun c11 => ?_)
    · have h := ifT c11 h
      exact Go.t (Go.fg (LSub.cs (LSub.cs (LSub.cs (LSub.cs (LSub.cs (LSub.cs (LSub.cs (LSub.cn (LSub.cn (LSub.nil))))))))))) (t_Sander_steam_b55 v1 v2 v3 v4 v5 (v4 + (jabs v5)) hv1 hv2 σ h)
    · have h := ifF c11 h
      refine Go.t (Go_sg bk_Sander_steam 21 3 (c2 := (some 49, [some (.ref 159), some (.ref v1), some (.ref v2), some (.int v3), some (.int v4), some (.int v5), some (.int (v4 + (jabs v5))), none, none], [.int (σ.1 159 2), .int (v4 + (jabs v5))], σ)) (ps := [shk 159 = 7]) rfl ⟨rfl, trivial⟩) ?_
      refine Go_icmp_lt bk_Sander_steam 24 rfl (fun c10 => ?_) (fun c10 => ?_)
      · have h := ifT c10 h
        exact Go.t (Go.fg (LSub.cs (LSub.cs (LSub.cs (LSub.cs (LSub.cs (LSub.cs (LSub.cs (LSub.cn (LSub.cn (LSub.nil))))))))))) (t_Sander_steam_b55 v1 v2 v3 v4 v5 (v4 + (jabs v5)) hv1 hv2 σ h)
      · have h := ifF c10 h
        refine Go.t (Go_sg bk_Sander_steam 25 1 (c2 := (some 140, [some (.ref 159), some (.ref v1), some (.ref v2), some (.int v3), some (.int v4), some (.int v5), some (.int (v4 + (jabs v5))), none, none], [], σ)) (ps := []) rfl trivial) ?_
        exact Go.t (Go.fg (LSub.cs (LSub.cs (LSub.cs (LSub.cs (LSub.cs (LSub.cs (LSub.cn (LSub.cn (LSub.cn (LSub.nil))))))))))) (t_Sander_steam_b140 v1 v2 v3 v4 v5 hv1 hv2 σ h)
def Sander_steam_L19 (v1 : Nat) (v2 : Nat) (v3 : Int32) (v4 : Int32) (s : Int32 × MH) : Option ((MH)) := itr (fun s : Int32 × MH => Sander_steam_l19 v1 v2 v3 v4 s.1 s.2) FU s
set_option maxRecDepth 20000 in
set_option maxHeartbeats 2000000 in
theorem t_Sander_steam_L19 (v1 : Nat) (v2 : Nat) (v3 : Int32) (v4 : Int32) (hv1 : IA v1 8) (hv2 : IA v2 8) (s : Int32 × MH) {r} (h : Sander_steam_L19 v1 v2 v3 v4 s = some r) : Go m_Sander_steam 3 (cH_Sander_steam_19 v1 v2 v3 v4 s) (cR_Sander_steam_19 v1 v2 v3 v4 r) := Go_itr (fun s o ho => t_Sander_steam_l19 v1 v2 v3 v4 s.1 hv1 hv2 s.2 ho) FU s r h
def Sander_steam_l8 (v1 : Nat) (v2 : Nat) (v3 : Int32) (v4 : Int32) (σ : MH) : Option (((Int32 × MH) ⊕ ((MH)))) := if (8 : Int32) ≤ v4 then some (.inr (σ)) else ((Sander_steam_L19 v1 v2 v3 v4 ((-9 : Int32), σ)).bind fun z13 => some (.inl (v4 + (1 : Int32), z13)))
set_option maxRecDepth 20000 in
set_option maxHeartbeats 2000000 in
theorem t_Sander_steam_l8 (v1 : Nat) (v2 : Nat) (v3 : Int32) (v4 : Int32) (hv1 : IA v1 8) (hv2 : IA v2 8) (σ : MH) {o} (h : Sander_steam_l8 v1 v2 v3 v4 σ = some o) : Go m_Sander_steam 3 (cH_Sander_steam_8 v1 v2 v3 (v4, σ)) (cS (cH_Sander_steam_8 v1 v2 v3) (cR_Sander_steam_8 v1 v2 v3) o) := by
  unfold Sander_steam_l8 at h
  unfold cH_Sander_steam_8
  refine Go.t (Go_sg bk_Sander_steam 5 2 (c2 := (some 12, [some (.ref 159), some (.ref v1), some (.ref v2), some (.int v3), some (.int v4), none, none, none, none], [.int (8 : Int32), .int v4], σ)) (ps := []) rfl trivial) ?_
  refine Go_icmp_ge bk_Sander_steam 7 rfl (fun c15 => ?_) (fun c15 => ?_)
  · have h := ifT c15 h
    have h := Option.some.inj h
    subst h
    exact Go_ret0 bk_Sander_steam 74 rfl
  · have h := ifF c15 h
    refine Go.t (Go_sg bk_Sander_steam 8 2 (c2 := (some 19, [some (.ref 159), some (.ref v1), some (.ref v2), some (.int v3), some (.int v4), some (.int (-9 : Int32)), none, none, none], [], σ)) (ps := []) rfl trivial) ?_
    obtain ⟨z13, q14, h⟩ := bdS h
    refine Go.t (Go.t (Go.fg (LSub.cs (LSub.cs (LSub.cs (LSub.cs (LSub.cs (LSub.cs (LSub.cn (LSub.cn (LSub.cn (LSub.nil))))))))))) (t_Sander_steam_L19 v1 v2 v3 v4 hv1 hv2 _ q14)) ?_
    refine Go.t (Go_sg bk_Sander_steam 72 2 (c2 := (some 8, [some (.ref 159), some (.ref v1), some (.ref v2), some (.int v3), some (.int (v4 + (1 : Int32))), none, none, none, none], [], z13)) (ps := []) rfl trivial) ?_
    have h := Option.some.inj h
    subst h
    exact Go.fg (LSub.cs (LSub.cs (LSub.cs (LSub.cs (LSub.cs (LSub.cn (LSub.cn (LSub.cn (LSub.cn (LSub.nil))))))))))
def Sander_steam_L8 (v1 : Nat) (v2 : Nat) (v3 : Int32) (s : Int32 × MH) : Option ((MH)) := itr (fun s : Int32 × MH => Sander_steam_l8 v1 v2 v3 s.1 s.2) FU s
set_option maxRecDepth 20000 in
set_option maxHeartbeats 2000000 in
theorem t_Sander_steam_L8 (v1 : Nat) (v2 : Nat) (v3 : Int32) (hv1 : IA v1 8) (hv2 : IA v2 8) (s : Int32 × MH) {r} (h : Sander_steam_L8 v1 v2 v3 s = some r) : Go m_Sander_steam 3 (cH_Sander_steam_8 v1 v2 v3 s) (cR_Sander_steam_8 v1 v2 v3 r) := Go_itr (fun s o ho => t_Sander_steam_l8 v1 v2 v3 s.1 hv1 hv2 s.2 ho) FU s r h
def Sander_steam0 (v1 : Nat) (v2 : Nat) (v3 : Int32) (σ : MH) : Option (MH) := (Sander_steam_L8 v1 v2 v3 ((0 : Int32), sI σ 159 1 (0 : Int32))).bind fun z16 => some (z16)
set_option maxRecDepth 20000 in
set_option maxHeartbeats 2000000 in
theorem t_Sander_steam0 (v1 : Nat) (v2 : Nat) (v3 : Int32) (hv1 : IA v1 8) (hv2 : IA v2 8) (σ : MH) {o} (h : Sander_steam0 v1 v2 v3 σ = some o) : Go m_Sander_steam 3 (some 0, [some (.ref 159), some (.ref v1), some (.ref v2), some (.int v3), none, none, none, none, none], [], σ) ((none, [], [], o)) := by
  unfold Sander_steam0 at h
  refine Go.t (Go_sg bk_Sander_steam 0 5 (c2 := (some 8, [some (.ref 159), some (.ref v1), some (.ref v2), some (.int v3), some (.int (0 : Int32)), none, none, none, none], [], sI σ 159 1 (0 : Int32))) (ps := [(shk 159 = 7 ∧ bz (0 : Int32) = true)]) rfl ⟨⟨rfl, rfl⟩, trivial⟩) ?_
  obtain ⟨z16, q17, h⟩ := bdS h
  refine Go.t (Go.t (Go.fg (LSub.cs (LSub.cs (LSub.cs (LSub.cs (LSub.cs (LSub.cn (LSub.cn (LSub.cn (LSub.cn (LSub.nil))))))))))) (t_Sander_steam_L8 v1 v2 v3 hv1 hv2 _ q17)) ?_
  have h := Option.some.inj h
  subst h
  exact Go.rf
def Sander_steam (v1 : Nat) (v2 : Nat) (v3 : Int32) (σ : MH) : Option (MH) := Sander_steam0 v1 v2 v3 σ
set_option maxRecDepth 20000 in
set_option maxHeartbeats 2000000 in
theorem ev_Sander_steam (v1 : Nat) (v2 : Nat) (v3 : Int32) (hv1 : IA v1 8) (hv2 : IA v2 8) (σ : MH) {o} (h : Sander_steam v1 v2 v3 σ = some o) : Ev m_Sander_steam 3 [.ref 159, .ref v1, .ref v2, .int v3] σ none o := Ev.of2 (by decide +kernel) rfl (Nat.le_of_ble_eq_true rfl) rfl (t_Sander_steam0 v1 v2 v3 hv1 hv2 σ h)
