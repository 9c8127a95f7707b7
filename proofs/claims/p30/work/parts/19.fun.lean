/-! FUNCTIONS: Md_byLaw Md_allowed Md_fit Md_wearsBy Md_wearsAll Md_triesIn Md_draws Md_creak Md_daysGo Md_days Md_copiesRow Md_wedTwos Md_tried Md_fitting Md_personIs Md_piece Md_likes Md_slack Md_laysFits Md_locks -/
def cH_Md_byLaw_2 (v1 : Int32) (v2 : Int32) (s : Int32 × MH) : MC := (some 2, [some (.ref 166), some (.int v1), some (.int v2), some (.int s.1), none], [], s.2)
def cR_Md_byLaw_2 (v1 : Int32) (v2 : Int32) : ((Int32 × MH) ⊕ (Int32 × MH)) → MC := (cS (fun r : Int32 × MH => ((some 43, [some (.ref 166), none, some (.int v2), some (.int r.1), none], [], r.2) : MC)) (fun r : Int32 × MH => ((none, [], [.int r.1], r.2) : MC)))
def Md_byLaw_b83 (v1 : Int32) (v2 : Int32) (v3 : Int32) (σ : MH) : Option (((Int32 × MH) ⊕ ((Int32 × MH) ⊕ (Int32 × MH)))) := some (.inl (v3 + (1 : Int32), σ))
set_option maxRecDepth 20000 in
set_option maxHeartbeats 2000000 in
theorem t_Md_byLaw_b83 (v1 : Int32) (v2 : Int32) (v3 : Int32)   (σ : MH) {o} (h : Md_byLaw_b83 v1 v2 v3 σ = some o) : Go m_Md_byLaw 3 (some 83, [some (.ref 166), some (.int v1), some (.int v2), some (.int v3), none], [], σ) (cS (cH_Md_byLaw_2 v1 v2) (cR_Md_byLaw_2 v1 v2) o) := by
  unfold Md_byLaw_b83 at h
  refine Go.t (Go_sg bk_Md_byLaw 47 2 (c2 := (some 2, [some (.ref 166), some (.int v1), some (.int v2), some (.int (v3 + (1 : Int32))), none], [], σ)) (ps := []) rfl trivial) ?_
  have h := Option.some.inj h
  subst h
  exact Go.fg (LSub.cs (LSub.cs (LSub.cs (LSub.cs (LSub.cn (LSub.nil))))))
def Md_byLaw_l2 (v1 : Int32) (v2 : Int32) (v3 : Int32) (σ : MH) : Option (((Int32 × MH) ⊕ ((Int32 × MH) ⊕ (Int32 × MH)))) := if σ.1 166 13 ≤ v3 then some (.inr (.inr ((0 : Int32), σ))) else (if inb v3 16 = true then if σ.1 178 v3.toNatClampNeg = v1 then ((Md_comesTo (σ.1 180 v3.toNatClampNeg) (σ.1 181 v3.toNatClampNeg) σ).bind fun (x2, σ3) => if x2 = (1 : Int32) then some (.inr (.inl (v3, σ3))) else (Md_byLaw_b83 v1 v2 v3 σ3)) else (Md_byLaw_b83 v1 v2 v3 σ) else none)
set_option maxRecDepth 20000 in
set_option maxHeartbeats 2000000 in
theorem t_Md_byLaw_l2 (v1 : Int32) (v2 : Int32) (v3 : Int32)  (σ : MH) {o} (h : Md_byLaw_l2 v1 v2 v3 σ = some o) : Go m_Md_byLaw 3 (cH_Md_byLaw_2 v1 v2 (v3, σ)) (cS (cH_Md_byLaw_2 v1 v2) (cR_Md_byLaw_2 v1 v2) o) := by
  unfold Md_byLaw_l2 at h
  unfold cH_Md_byLaw_2
  refine Go.t (Go_sg bk_Md_byLaw 2 3 (c2 := (some 7, [some (.ref 166), some (.int v1), some (.int v2), some (.int v3), none], [.int (σ.1 166 13), .int v3], σ)) (ps := [shk 166 = 11]) rfl ⟨rfl, trivial⟩) ?_
  refine Go_icmp_ge bk_Md_byLaw 5 rfl (fun c7 => ?_) (fun c7 => ?_)
  · have h := ifT c7 h
    have h := Option.some.inj h
    subst h
    refine Go.t (Go_sg bk_Md_byLaw 49 1 (c2 := (some 90, [some (.ref 166), some (.int v1), some (.int v2), some (.int v3), none], [.int (0 : Int32)], σ)) (ps := []) rfl trivial) ?_
    exact Go_reti bk_Md_byLaw 50 rfl
  · have h := ifF c7 h
    obtain ⟨g1, h⟩ := gdS h
    refine Go.t (Go_sg bk_Md_byLaw 6 5 (c2 := (some 17, [some (.ref 166), some (.int v1), some (.int v2), some (.int v3), none], [.int v1, .int (σ.1 178 v3.toNatClampNeg)], σ)) (ps := [shk 166 = 11, IA 178 16 ∧ inb v3 16 = true]) rfl ⟨rfl, ⟨⟨rfl, rfl⟩, g1⟩, trivial⟩) ?_
    refine Go_icmp_ne bk_Md_byLaw 11 rfl (fun c6 => ?_) (fun c6 => ?_)
    · have h := ifF c6 h
      exact Go.t (Go.fg (LSub.cs (LSub.cs (LSub.cs (LSub.cs (LSub.cn (LSub.nil))))))) (t_Md_byLaw_b83 v1 v2 v3 σ h)
    · have h := ifT c6 h
      refine Go.t (Go_sg bk_Md_byLaw 12 9 (c2 := (some 33, [some (.ref 166), some (.int v1), some (.int v2), some (.int v3), none], [.int (σ.1 181 v3.toNatClampNeg), .int (σ.1 180 v3.toNatClampNeg), .ref 166], σ)) (ps := [shk 166 = 11, IA 180 16 ∧ inb v3 16 = true, shk 166 = 11, IA 181 16 ∧ inb v3 16 = true]) rfl ⟨rfl, ⟨⟨rfl, rfl⟩, g1⟩, rfl, ⟨⟨rfl, rfl⟩, g1⟩, trivial⟩) ?_
      obtain ⟨⟨x2, σ3⟩, q4, h⟩ := bdS h
      dsimp only at h
      refine Go.t (Go_callV bk_Md_byLaw 21 rfl nk_Md_comesTo tw1572 tw1574 tw81 (ci := 11) rfl (as := [.int (σ.1 180 v3.toNatClampNeg), .int (σ.1 181 v3.toNatClampNeg)]) (S := []) rfl rfl rfl rfl (Nat.le_of_ble_eq_true rfl) (Nat.le_of_ble_eq_true rfl) (ev_Md_comesTo _ _ _ q4)) ?_
      refine Go.t (Go_sg bk_Md_byLaw 22 1 (c2 := (some 37, [some (.ref 166), some (.int v1), some (.int v2), some (.int v3), none], [.int (1 : Int32), .int x2], σ3)) (ps := []) rfl trivial) ?_
      refine Go_icmp_eq bk_Md_byLaw 23 rfl (fun c5 => ?_) (fun c5 => ?_)
      · have h := ifT c5 h
        have h := Option.some.inj h
        subst h
        exact Go.fg (LSub.cs (LSub.cn (LSub.cs (LSub.cs (LSub.cn (LSub.nil))))))
      · have h := ifF c5 h
        refine Go.t (Go_sg bk_Md_byLaw 24 1 (c2 := (some 83, [some (.ref 166), some (.int v1), some (.int v2), some (.int v3), none], [], σ3)) (ps := []) rfl trivial) ?_
        exact Go.t (Go.fg (LSub.cs (LSub.cs (LSub.cs (LSub.cs (LSub.cn (LSub.nil))))))) (t_Md_byLaw_b83 v1 v2 v3 σ3 h)
def Md_byLaw_L2 (v1 : Int32) (v2 : Int32) (s : Int32 × MH) : Option ((Int32 × MH) ⊕ (Int32 × MH)) := itr (fun s : Int32 × MH => Md_byLaw_l2 v1 v2 s.1 s.2) FU s
set_option maxRecDepth 20000 in
set_option maxHeartbeats 2000000 in
theorem t_Md_byLaw_L2 (v1 : Int32) (v2 : Int32)  (s : Int32 × MH) {r} (h : Md_byLaw_L2 v1 v2 s = some r) : Go m_Md_byLaw 3 (cH_Md_byLaw_2 v1 v2 s) (cR_Md_byLaw_2 v1 v2 r) := Go_itr (fun s o ho => t_Md_byLaw_l2 v1 v2 s.1 s.2 ho) FU s r h
def Md_byLaw0 (v1 : Int32) (v2 : Int32) (σ : MH) : Option (Int32 × MH) := (Md_byLaw_L2 v1 v2 ((0 : Int32), σ)).bind fun z8 => (match z8 with | .inl z8a => if inb z8a.1 16 = true then (Md_comesTo (z8a.2.1 179 z8a.1.toNatClampNeg) (z8a.2.1 180 z8a.1.toNatClampNeg) z8a.2).bind fun (x11, σ12) => if (0 : Int32) ≤ x11 then (if x11 ≤ v2 then some (x11, σ12) else some (v2, σ12)) else some ((0 : Int32), σ12) else none | .inr z8b => some (z8b.1, z8b.2))
set_option maxRecDepth 20000 in
set_option maxHeartbeats 2000000 in
theorem t_Md_byLaw0 (v1 : Int32) (v2 : Int32)  (σ : MH) {o} (h : Md_byLaw0 v1 v2 σ = some o) : Go m_Md_byLaw 3 (some 0, [some (.ref 166), some (.int v1), some (.int v2), none, none], [], σ) ((none, [], [.int o.1], o.2)) := by
  unfold Md_byLaw0 at h
  refine Go.t (Go_sg bk_Md_byLaw 0 2 (c2 := (some 2, [some (.ref 166), some (.int v1), some (.int v2), some (.int (0 : Int32)), none], [], σ)) (ps := []) rfl trivial) ?_
  obtain ⟨z8, q9, h⟩ := bdS h
  refine Go.t (Go.t (Go.fg (LSub.cs (LSub.cs (LSub.cs (LSub.cs (LSub.cn (LSub.nil))))))) (t_Md_byLaw_L2 v1 v2 _ q9)) ?_
  rcases z8 with z8a | z8b
  · dsimp only at h
    obtain ⟨g10, h⟩ := gdS h
    refine Go.t (Go_sg bk_Md_byLaw 25 9 (c2 := (some 56, [some (.ref 166), none, some (.int v2), some (.int z8a.1), none], [.int (z8a.2.1 180 z8a.1.toNatClampNeg), .int (z8a.2.1 179 z8a.1.toNatClampNeg), .ref 166], z8a.2)) (ps := [shk 166 = 11, IA 179 16 ∧ inb z8a.1 16 = true, shk 166 = 11, IA 180 16 ∧ inb z8a.1 16 = true]) rfl ⟨rfl, ⟨⟨rfl, rfl⟩, g10⟩, rfl, ⟨⟨rfl, rfl⟩, g10⟩, trivial⟩) ?_
    obtain ⟨⟨x11, σ12⟩, q13, h⟩ := bdS h
    dsimp only at h
    refine Go.t (Go_callV bk_Md_byLaw 34 rfl nk_Md_comesTo tw1572 tw1574 tw81 (ci := 11) rfl (as := [.int (z8a.2.1 179 z8a.1.toNatClampNeg), .int (z8a.2.1 180 z8a.1.toNatClampNeg)]) (S := []) rfl rfl rfl rfl (Nat.le_of_ble_eq_true rfl) (Nat.le_of_ble_eq_true rfl) (ev_Md_comesTo _ _ _ q13)) ?_
    refine Go.t (Go_sg bk_Md_byLaw 35 2 (c2 := (some 63, [some (.ref 166), none, some (.int v2), some (.int z8a.1), some (.int x11)], [.int x11], σ12)) (ps := []) rfl trivial) ?_
    refine Go_if_ge bk_Md_byLaw 37 rfl (fun c15 => ?_) (fun c15 => ?_)
    · have h := ifT c15 h
      refine Go.t (Go_sg bk_Md_byLaw 40 2 (c2 := (some 73, [some (.ref 166), none, some (.int v2), some (.int z8a.1), some (.int x11)], [.int v2, .int x11], σ12)) (ps := []) rfl trivial) ?_
      refine Go_icmp_le bk_Md_byLaw 42 rfl (fun c14 => ?_) (fun c14 => ?_)
      · have h := ifT c14 h
        have h := Option.some.inj h
        subst h
        refine Go.t (Go_sg bk_Md_byLaw 45 1 (c2 := (some 82, [some (.ref 166), none, some (.int v2), some (.int z8a.1), some (.int x11)], [.int x11], σ12)) (ps := []) rfl trivial) ?_
        exact Go_reti bk_Md_byLaw 46 rfl
      · have h := ifF c14 h
        refine Go.t (Go_sg bk_Md_byLaw 43 2 (c2 := (some 82, [some (.ref 166), none, some (.int v2), some (.int z8a.1), some (.int x11)], [.int v2], σ12)) (ps := []) rfl trivial) ?_
        have h := Option.some.inj h
        subst h
        exact Go_reti bk_Md_byLaw 46 rfl
    · have h := ifF c15 h
      refine Go.t (Go_sg bk_Md_byLaw 38 2 (c2 := (some 82, [some (.ref 166), none, some (.int v2), some (.int z8a.1), some (.int x11)], [.int (0 : Int32)], σ12)) (ps := []) rfl trivial) ?_
      have h := Option.some.inj h
      subst h
      exact Go_reti bk_Md_byLaw 46 rfl
  · dsimp only at h
    have h := Option.some.inj h
    subst h
    exact Go.rf
def Md_byLaw (v1 : Int32) (v2 : Int32) (σ : MH) : Option (Int32 × MH) := Md_byLaw0 v1 v2 σ
set_option maxRecDepth 20000 in
set_option maxHeartbeats 2000000 in
theorem ev_Md_byLaw (v1 : Int32) (v2 : Int32)  (σ : MH) {o} (h : Md_byLaw v1 v2 σ = some o) : Ev m_Md_byLaw 3 [.ref 166, .int v1, .int v2] σ (some (.int o.1)) o.2 := Ev.of2 (by decide +kernel) rfl (Nat.le_of_ble_eq_true rfl) ⟨.int, rfl, rfl⟩ (t_Md_byLaw0 v1 v2 σ h)
def Md_allowed_b70  (σ : MH) : Option (Int32 × MH) := (Md_byLaw (102 : Int32) (99 : Int32) σ).bind fun (x6, σ7) => some (x6, σ7)
set_option maxRecDepth 20000 in
set_option maxHeartbeats 2000000 in
theorem t_Md_allowed_b70    (σ : MH) {o} (h : Md_allowed_b70 σ = some o) : Go m_Md_allowed 4 (some 70, [some (.ref 166), none, none, none], [], σ) ((none, [], [.int o.1], o.2)) := by
  unfold Md_allowed_b70 at h
  refine Go.t (Go_sg bk_Md_allowed 46 3 (c2 := (some 75, [some (.ref 166), none, none, none], [.int (99 : Int32), .int (102 : Int32), .ref 166], σ)) (ps := []) rfl trivial) ?_
  obtain ⟨⟨x6, σ7⟩, q8, h⟩ := bdS h
  dsimp only at h
  refine Go.t (Go_callV bk_Md_allowed 49 rfl nk_Md_byLaw tw1568 tw1570 tw80 (ci := 11) rfl (as := [.int (102 : Int32), .int (99 : Int32)]) (S := []) rfl rfl rfl rfl (Nat.le_of_ble_eq_true rfl) (Nat.le_of_ble_eq_true rfl) (ev_Md_byLaw _ _ _ q8)) ?_
  have h := Option.some.inj h
  subst h
  exact Go_reti bk_Md_allowed 50 rfl
def Md_allowed_b48 (v1 : Int32) (v2 : Int32) (s0 : Int32) (σ : MH) : Option (Int32 × MH) := if s0 = (0 : Int32) then ((Md_feels v2 v1 (0 : Int32) σ).bind fun σ4 => Md_allowed_b70 σ4) else ((Md_feels v1 v2 (0 : Int32) σ).bind fun σ10 => Md_allowed_b70 σ10)
set_option maxRecDepth 20000 in
set_option maxHeartbeats 2000000 in
theorem t_Md_allowed_b48 (v1 : Int32) (v2 : Int32) (s0 : Int32)   (σ : MH) {o} (h : Md_allowed_b48 v1 v2 s0 σ = some o) : Go m_Md_allowed 4 (some 48, [some (.ref 166), some (.int v1), some (.int v2), none], [.int s0], σ) ((none, [], [.int o.1], o.2)) := by
  unfold Md_allowed_b48 at h
  refine Go.t (Go_sg bk_Md_allowed 32 2 (c2 := (some 50, [some (.ref 166), some (.int v1), some (.int v2), some (.int s0)], [.int s0], σ)) (ps := []) rfl trivial) ?_
  refine Go_if_eq bk_Md_allowed 34 rfl (fun c12 => ?_) (fun c12 => ?_)
  · have h := ifT c12 h
    refine Go.t (Go_sg bk_Md_allowed 41 4 (c2 := (some 67, [some (.ref 166), some (.int v1), some (.int v2), some (.int s0)], [.int (0 : Int32), .int v1, .int v2, .ref 166], σ)) (ps := []) rfl trivial) ?_
    obtain ⟨σ4, q5, h⟩ := bdS h
    refine Go.t (Go_callV bk_Md_allowed 45 rfl nk_Md_feels tw1561 tw1563 tw79 (ci := 11) rfl (as := [.int v2, .int v1, .int (0 : Int32)]) (S := []) rfl rfl rfl rfl (Nat.le_of_ble_eq_true rfl) (Nat.le_of_ble_eq_true rfl) (ev_Md_feels _ _ _ _ q5)) ?_
    exact Go.t (Go.fg (LSub.cs (LSub.cn (LSub.cn (LSub.cn (LSub.nil)))))) (t_Md_allowed_b70 σ4 h)
  · have h := ifF c12 h
    refine Go.t (Go_sg bk_Md_allowed 35 4 (c2 := (some 57, [some (.ref 166), some (.int v1), some (.int v2), some (.int s0)], [.int (0 : Int32), .int v2, .int v1, .ref 166], σ)) (ps := []) rfl trivial) ?_
    obtain ⟨σ10, q11, h⟩ := bdS h
    refine Go.t (Go_callV bk_Md_allowed 39 rfl nk_Md_feels tw1561 tw1563 tw79 (ci := 11) rfl (as := [.int v1, .int v2, .int (0 : Int32)]) (S := []) rfl rfl rfl rfl (Nat.le_of_ble_eq_true rfl) (Nat.le_of_ble_eq_true rfl) (ev_Md_feels _ _ _ _ q11)) ?_
    refine Go.t (Go_sg bk_Md_allowed 40 1 (c2 := (some 70, [some (.ref 166), some (.int v1), some (.int v2), some (.int s0)], [], σ10)) (ps := []) rfl trivial) ?_
    exact Go.t (Go.fg (LSub.cs (LSub.cn (LSub.cn (LSub.cn (LSub.nil)))))) (t_Md_allowed_b70 σ10 h)
def Md_allowed_b43 (v1 : Int32) (v2 : Int32) (σ : MH) : Option (Int32 × MH) := Md_allowed_b48 v1 v2 (1 : Int32) σ
set_option maxRecDepth 20000 in
set_option maxHeartbeats 2000000 in
theorem t_Md_allowed_b43 (v1 : Int32) (v2 : Int32)   (σ : MH) {o} (h : Md_allowed_b43 v1 v2 σ = some o) : Go m_Md_allowed 4 (some 43, [some (.ref 166), some (.int v1), some (.int v2), none], [], σ) ((none, [], [.int o.1], o.2)) := by
  unfold Md_allowed_b43 at h
  refine Go.t (Go_sg bk_Md_allowed 29 2 (c2 := (some 48, [some (.ref 166), some (.int v1), some (.int v2), none], [.int (1 : Int32)], σ)) (ps := []) rfl trivial) ?_
  exact Go.t (Go.fg (LSub.cs (LSub.cs (LSub.cs (LSub.cn (LSub.nil)))))) (t_Md_allowed_b48 v1 v2 (1 : Int32) σ h)
def Md_allowed_b47 (v1 : Int32) (v2 : Int32) (σ : MH) : Option (Int32 × MH) := Md_allowed_b48 v1 v2 (0 : Int32) σ
set_option maxRecDepth 20000 in
set_option maxHeartbeats 2000000 in
theorem t_Md_allowed_b47 (v1 : Int32) (v2 : Int32)   (σ : MH) {o} (h : Md_allowed_b47 v1 v2 σ = some o) : Go m_Md_allowed 4 (some 47, [some (.ref 166), some (.int v1), some (.int v2), none], [], σ) ((none, [], [.int o.1], o.2)) := by
  unfold Md_allowed_b47 at h
  refine Go.t (Go_sg bk_Md_allowed 31 1 (c2 := (some 48, [some (.ref 166), some (.int v1), some (.int v2), none], [.int (0 : Int32)], σ)) (ps := []) rfl trivial) ?_
  exact Go.t (Go.fg (LSub.cs (LSub.cs (LSub.cs (LSub.cn (LSub.nil)))))) (t_Md_allowed_b48 v1 v2 (0 : Int32) σ h)
def Md_allowed0 (v1 : Int32) (v2 : Int32) (σ : MH) : Option (Int32 × MH) := if inb ((0 : Int32) + v1) 1936 = true then if inb ((0 : Int32) + v2) 1936 = true then if σ.1 167 ((0 : Int32) + v1).toNatClampNeg < σ.1 167 ((0 : Int32) + v2).toNatClampNeg then (Md_allowed_b43 v1 v2 σ) else (if σ.1 167 ((0 : Int32) + v1).toNatClampNeg = σ.1 167 ((0 : Int32) + v2).toNatClampNeg then (if v2 ≤ v1 then (Md_allowed_b47 v1 v2 σ) else (Md_allowed_b43 v1 v2 σ)) else (Md_allowed_b47 v1 v2 σ)) else none else none
set_option maxRecDepth 20000 in
set_option maxHeartbeats 2000000 in
theorem t_Md_allowed0 (v1 : Int32) (v2 : Int32)  (σ : MH) {o} (h : Md_allowed0 v1 v2 σ = some o) : Go m_Md_allowed 4 (some 0, [some (.ref 166), some (.int v1), some (.int v2), none], [], σ) ((none, [], [.int o.1], o.2)) := by
  unfold Md_allowed0 at h
  obtain ⟨g1, h⟩ := gdS h
  obtain ⟨g2, h⟩ := gdS h
  refine Go.t (Go_sg bk_Md_allowed 0 12 (c2 := (some 16, [some (.ref 166), some (.int v1), some (.int v2), none], [.int (σ.1 167 ((0 : Int32) + v2).toNatClampNeg), .int (σ.1 167 ((0 : Int32) + v1).toNatClampNeg)], σ)) (ps := [shk 166 = 11, IA 167 1936 ∧ inb ((0 : Int32) + v1) 1936 = true, shk 166 = 11, IA 167 1936 ∧ inb ((0 : Int32) + v2) 1936 = true]) rfl ⟨rfl, ⟨⟨rfl, rfl⟩, g1⟩, rfl, ⟨⟨rfl, rfl⟩, g2⟩, trivial⟩) ?_
  refine Go_icmp_lt bk_Md_allowed 12 rfl (fun c15 => ?_) (fun c15 => ?_)
  · have h := ifT c15 h
    exact Go.t (Go.fg (LSub.cs (LSub.cs (LSub.cs (LSub.cn (LSub.nil)))))) (t_Md_allowed_b43 v1 v2 σ h)
  · have h := ifF c15 h
    refine Go.t (Go_sg bk_Md_allowed 13 12 (c2 := (some 35, [some (.ref 166), some (.int v1), some (.int v2), none], [.int (σ.1 167 ((0 : Int32) + v2).toNatClampNeg), .int (σ.1 167 ((0 : Int32) + v1).toNatClampNeg)], σ)) (ps := [shk 166 = 11, IA 167 1936 ∧ inb ((0 : Int32) + v1) 1936 = true, shk 166 = 11, IA 167 1936 ∧ inb ((0 : Int32) + v2) 1936 = true]) rfl ⟨rfl, ⟨⟨rfl, rfl⟩, g1⟩, rfl, ⟨⟨rfl, rfl⟩, g2⟩, trivial⟩) ?_
    refine Go_icmp_ne bk_Md_allowed 25 rfl (fun c14 => ?_) (fun c14 => ?_)
    · have h := ifF c14 h
      exact Go.t (Go.fg (LSub.cs (LSub.cs (LSub.cs (LSub.cn (LSub.nil)))))) (t_Md_allowed_b47 v1 v2 σ h)
    · have h := ifT c14 h
      refine Go.t (Go_sg bk_Md_allowed 26 2 (c2 := (some 40, [some (.ref 166), some (.int v1), some (.int v2), none], [.int v2, .int v1], σ)) (ps := []) rfl trivial) ?_
      refine Go_icmp_ge bk_Md_allowed 28 rfl (fun c13 => ?_) (fun c13 => ?_)
      · have h := ifT c13 h
        exact Go.t (Go.fg (LSub.cs (LSub.cs (LSub.cs (LSub.cn (LSub.nil)))))) (t_Md_allowed_b47 v1 v2 σ h)
      · have h := ifF c13 h
        exact Go.t (Go.fg (LSub.cs (LSub.cs (LSub.cs (LSub.cn (LSub.nil)))))) (t_Md_allowed_b43 v1 v2 σ h)
def Md_allowed (v1 : Int32) (v2 : Int32) (σ : MH) : Option (Int32 × MH) := Md_allowed0 v1 v2 σ
set_option maxRecDepth 20000 in
set_option maxHeartbeats 2000000 in
theorem ev_Md_allowed (v1 : Int32) (v2 : Int32)  (σ : MH) {o} (h : Md_allowed v1 v2 σ = some o) : Ev m_Md_allowed 4 [.ref 166, .int v1, .int v2] σ (some (.int o.1)) o.2 := Ev.of2 (by decide +kernel) rfl (Nat.le_of_ble_eq_true rfl) ⟨.int, rfl, rfl⟩ (t_Md_allowed0 v1 v2 σ h)
def Md_fit0 (v1 : Int32) (v2 : Int32) (σ : MH) : Option (Int32 × MH) := (Md_slackBy v1 v2 σ).bind fun x1 => if x1 = (-1 : Int32) then some ((0 : Int32), σ) else ((Md_allowed v1 v2 σ).bind fun (x4, σ5) => if x4 < x1 then some ((0 : Int32), σ5) else some ((1 : Int32), σ5))
set_option maxRecDepth 20000 in
set_option maxHeartbeats 2000000 in
theorem t_Md_fit0 (v1 : Int32) (v2 : Int32)  (σ : MH) {o} (h : Md_fit0 v1 v2 σ = some o) : Go m_Md_fit 5 (some 0, [some (.ref 166), some (.int v1), some (.int v2), none], [], σ) ((none, [], [.int o.1], o.2)) := by
  unfold Md_fit0 at h
  refine Go.t (Go_sg bk_Md_fit 0 3 (c2 := (some 3, [some (.ref 166), some (.int v1), some (.int v2), none], [.int v2, .int v1, .ref 166], σ)) (ps := []) rfl trivial) ?_
  obtain ⟨x1, q3, h⟩ := bdS h
  refine Go.t (Go_callV bk_Md_fit 3 rfl nk_Md_slackBy tw1538 tw1540 tw75 (ci := 11) rfl (as := [.int v1, .int v2]) (S := []) rfl rfl rfl rfl (Nat.le_of_ble_eq_true rfl) (Nat.le_of_ble_eq_true rfl) (ev_Md_slackBy _ _ _ q3)) ?_
  refine Go.t (Go_sg bk_Md_fit 4 3 (c2 := (some 9, [some (.ref 166), some (.int v1), some (.int v2), some (.int x1)], [.int (-1 : Int32), .int x1], σ)) (ps := []) rfl trivial) ?_
  refine Go_icmp_eq bk_Md_fit 7 rfl (fun c8 => ?_) (fun c8 => ?_)
  · have h := ifT c8 h
    have h := Option.some.inj h
    subst h
    refine Go.t (Go_sg bk_Md_fit 16 1 (c2 := (some 27, [some (.ref 166), some (.int v1), some (.int v2), some (.int x1)], [.int (0 : Int32)], σ)) (ps := []) rfl trivial) ?_
    exact Go_reti bk_Md_fit 17 rfl
  · have h := ifF c8 h
    refine Go.t (Go_sg bk_Md_fit 8 4 (c2 := (some 16, [some (.ref 166), some (.int v1), some (.int v2), some (.int x1)], [.int v2, .int v1, .ref 166, .int x1], σ)) (ps := []) rfl trivial) ?_
    obtain ⟨⟨x4, σ5⟩, q6, h⟩ := bdS h
    dsimp only at h
    refine Go.t (Go_callV bk_Md_fit 12 rfl nk_Md_allowed tw1557 tw1559 tw78 (ci := 11) rfl (as := [.int v1, .int v2]) (S := [.int x1]) rfl rfl rfl rfl (Nat.le_of_ble_eq_true rfl) (Nat.le_of_ble_eq_true rfl) (ev_Md_allowed _ _ _ q6)) ?_
    refine Go_icmp_gt bk_Md_fit 13 rfl (fun c7 => ?_) (fun c7 => ?_)
    · have h := ifT c7 h
      have h := Option.some.inj h
      subst h
      refine Go.t (Go_sg bk_Md_fit 16 1 (c2 := (some 27, [some (.ref 166), some (.int v1), some (.int v2), some (.int x1)], [.int (0 : Int32)], σ5)) (ps := []) rfl trivial) ?_
      exact Go_reti bk_Md_fit 17 rfl
    · have h := ifF c7 h
      refine Go.t (Go_sg bk_Md_fit 14 2 (c2 := (some 27, [some (.ref 166), some (.int v1), some (.int v2), some (.int x1)], [.int (1 : Int32)], σ5)) (ps := []) rfl trivial) ?_
      have h := Option.some.inj h
      subst h
      exact Go_reti bk_Md_fit 17 rfl
def Md_fit (v1 : Int32) (v2 : Int32) (σ : MH) : Option (Int32 × MH) := bzo (Md_fit0 v1 v2 σ)
set_option maxRecDepth 20000 in
set_option maxHeartbeats 2000000 in
theorem ev_Md_fit (v1 : Int32) (v2 : Int32)  (σ : MH) {o} (h : Md_fit v1 v2 σ = some o) : Ev m_Md_fit 5 [.ref 166, .int v1, .int v2] σ (some (.int o.1)) o.2 := Ev.of2 (by decide +kernel) rfl (Nat.le_of_ble_eq_true rfl) ⟨.boolean, rfl, nrB (bzo2 h)⟩ (t_Md_fit0 v1 v2 σ (bzo1 h))
def Md_wearsBy0 (v1 : Int32) (v2 : Int32) (σ : MH) : Option (Int32 × MH) := (Md_slackBy v1 v2 σ).bind fun x1 => (Md_feels v1 v2 x1 σ).bind fun σ5 => (Md_byLaw (119 : Int32) (9 : Int32) σ5).bind fun (x7, σ8) => some (x7, σ8)
set_option maxRecDepth 20000 in
set_option maxHeartbeats 2000000 in
theorem t_Md_wearsBy0 (v1 : Int32) (v2 : Int32)  (σ : MH) {o} (h : Md_wearsBy0 v1 v2 σ = some o) : Go m_Md_wearsBy 4 (some 0, [some (.ref 166), some (.int v1), some (.int v2)], [], σ) ((none, [], [.int o.1], o.2)) := by
  unfold Md_wearsBy0 at h
  refine Go.t (Go_sg bk_Md_wearsBy 0 6 (c2 := (some 6, [some (.ref 166), some (.int v1), some (.int v2)], [.int v2, .int v1, .ref 166, .int v2, .int v1, .ref 166], σ)) (ps := []) rfl trivial) ?_
  obtain ⟨x1, q3, h⟩ := bdS h
  refine Go.t (Go_callV bk_Md_wearsBy 6 rfl nk_Md_slackBy tw1538 tw1540 tw75 (ci := 11) rfl (as := [.int v1, .int v2]) (S := [.int v2, .int v1, .ref 166]) rfl rfl rfl rfl (Nat.le_of_ble_eq_true rfl) (Nat.le_of_ble_eq_true rfl) (ev_Md_slackBy _ _ _ q3)) ?_
  obtain ⟨σ5, q6, h⟩ := bdS h
  refine Go.t (Go_callV bk_Md_wearsBy 7 rfl nk_Md_feels tw1561 tw1563 tw79 (ci := 11) rfl (as := [.int v1, .int v2, .int x1]) (S := []) rfl rfl rfl rfl (Nat.le_of_ble_eq_true rfl) (Nat.le_of_ble_eq_true rfl) (ev_Md_feels _ _ _ _ q6)) ?_
  refine Go.t (Go_sg bk_Md_wearsBy 8 3 (c2 := (some 17, [some (.ref 166), some (.int v1), some (.int v2)], [.int (9 : Int32), .int (119 : Int32), .ref 166], σ5)) (ps := []) rfl trivial) ?_
  obtain ⟨⟨x7, σ8⟩, q9, h⟩ := bdS h
  dsimp only at h
  refine Go.t (Go_callV bk_Md_wearsBy 11 rfl nk_Md_byLaw tw1568 tw1570 tw80 (ci := 11) rfl (as := [.int (119 : Int32), .int (9 : Int32)]) (S := []) rfl rfl rfl rfl (Nat.le_of_ble_eq_true rfl) (Nat.le_of_ble_eq_true rfl) (ev_Md_byLaw _ _ _ q9)) ?_
  have h := Option.some.inj h
  subst h
  exact Go_reti bk_Md_wearsBy 12 rfl
def Md_wearsBy (v1 : Int32) (v2 : Int32) (σ : MH) : Option (Int32 × MH) := Md_wearsBy0 v1 v2 σ
set_option maxRecDepth 20000 in
set_option maxHeartbeats 2000000 in
theorem ev_Md_wearsBy (v1 : Int32) (v2 : Int32)  (σ : MH) {o} (h : Md_wearsBy v1 v2 σ = some o) : Ev m_Md_wearsBy 4 [.ref 166, .int v1, .int v2] σ (some (.int o.1)) o.2 := Ev.of2 (by decide +kernel) rfl (Nat.le_of_ble_eq_true rfl) ⟨.int, rfl, rfl⟩ (t_Md_wearsBy0 v1 v2 σ h)
def cH_Md_wearsAll_2 (v1 : Int32) (v2 : Int32) (s : Int32 × MH) : MC := (some 2, [some (.ref 166), some (.int v1), some (.int v2), some (.int s.1)], [], s.2)
def cR_Md_wearsAll_2 (v1 : Int32) (v2 : Int32) : ((MH)) → MC := (fun r : MH => ((none, [], [], r) : MC))
def Md_wearsAll_b49 (v1 : Int32) (v2 : Int32) (v3 : Int32) (σ : MH) : Option (((Int32 × MH) ⊕ ((MH)))) := some (.inl (v3 + (1 : Int32), σ))
set_option maxRecDepth 20000 in
set_option maxHeartbeats 2000000 in
theorem t_Md_wearsAll_b49 (v1 : Int32) (v2 : Int32) (v3 : Int32)   (σ : MH) {o} (h : Md_wearsAll_b49 v1 v2 v3 σ = some o) : Go m_Md_wearsAll 2 (some 49, [some (.ref 166), some (.int v1), some (.int v2), some (.int v3)], [], σ) (cS (cH_Md_wearsAll_2 v1 v2) (cR_Md_wearsAll_2 v1 v2) o) := by
  unfold Md_wearsAll_b49 at h
  refine Go.t (Go_sg bk_Md_wearsAll 30 2 (c2 := (some 2, [some (.ref 166), some (.int v1), some (.int v2), some (.int (v3 + (1 : Int32)))], [], σ)) (ps := []) rfl trivial) ?_
  have h := Option.some.inj h
  subst h
  exact Go.fg (LSub.cs (LSub.cs (LSub.cs (LSub.cs (LSub.nil)))))
def Md_wearsAll_l2 (v1 : Int32) (v2 : Int32) (v3 : Int32) (σ : MH) : Option (((Int32 × MH) ⊕ ((MH)))) := if (12 : Int32) ≤ v3 then some (.inr (σ)) else (if inb ((48 : Int32) + v1) 1936 = true then (Md_has (σ.1 167 ((48 : Int32) + v1).toNatClampNeg) v3 σ).bind fun x2 => if x2 = (0 : Int32) then (Md_wearsAll_b49 v1 v2 v3 σ) else (if inb ((72 : Int32) + v3) 1936 = true then (Md_min (99 : Int32) ((σ.1 167 ((72 : Int32) + v3).toNatClampNeg) + v2) σ).bind fun x6 => Md_wearsAll_b49 v1 v2 v3 (sI σ 167 ((72 : Int32) + v3).toNatClampNeg x6) else none) else none)
set_option maxRecDepth 20000 in
set_option maxHeartbeats 2000000 in
theorem t_Md_wearsAll_l2 (v1 : Int32) (v2 : Int32) (v3 : Int32)  (σ : MH) {o} (h : Md_wearsAll_l2 v1 v2 v3 σ = some o) : Go m_Md_wearsAll 2 (cH_Md_wearsAll_2 v1 v2 (v3, σ)) (cS (cH_Md_wearsAll_2 v1 v2) (cR_Md_wearsAll_2 v1 v2) o) := by
  unfold Md_wearsAll_l2 at h
  unfold cH_Md_wearsAll_2
  refine Go.t (Go_sg bk_Md_wearsAll 2 2 (c2 := (some 5, [some (.ref 166), some (.int v1), some (.int v2), some (.int v3)], [.int (12 : Int32), .int v3], σ)) (ps := []) rfl trivial) ?_
  refine Go_icmp_ge bk_Md_wearsAll 4 rfl (fun c10 => ?_) (fun c10 => ?_)
  · have h := ifT c10 h
    have h := Option.some.inj h
    subst h
    exact Go_ret0 bk_Md_wearsAll 32 rfl
  · have h := ifF c10 h
    obtain ⟨g1, h⟩ := gdS h
    refine Go.t (Go_sg bk_Md_wearsAll 5 7 (c2 := (some 18, [some (.ref 166), some (.int v1), some (.int v2), some (.int v3)], [.int v3, .int (σ.1 167 ((48 : Int32) + v1).toNatClampNeg)], σ)) (ps := [shk 166 = 11, IA 167 1936 ∧ inb ((48 : Int32) + v1) 1936 = true]) rfl ⟨rfl, ⟨⟨rfl, rfl⟩, g1⟩, trivial⟩) ?_
    obtain ⟨x2, q4, h⟩ := bdS h
    refine Go.t (Go_callS bk_Md_wearsAll 12 rfl nk_Md_has tw1367 tw1368 (as := [.int (σ.1 167 ((48 : Int32) + v1).toNatClampNeg), .int v3]) (S := []) rfl rfl rfl (Nat.le_of_ble_eq_true rfl) (Nat.le_of_ble_eq_true rfl) (ev_Md_has _ _ _ q4)) ?_
    refine Go_if_eq bk_Md_wearsAll 13 rfl (fun c9 => ?_) (fun c9 => ?_)
    · have h := ifT c9 h
      exact Go.t (Go.fg (LSub.cs (LSub.cs (LSub.cs (LSub.cs (LSub.nil)))))) (t_Md_wearsAll_b49 v1 v2 v3 σ h)
    · have h := ifF c9 h
      obtain ⟨g5, h⟩ := gdS h
      refine Go.t (Go_sg bk_Md_wearsAll 14 14 (c2 := (some 45, [some (.ref 166), some (.int v1), some (.int v2), some (.int v3)], [.int ((σ.1 167 ((72 : Int32) + v3).toNatClampNeg) + v2), .int (99 : Int32), .int ((72 : Int32) + v3), .ref 167], σ)) (ps := [shk 166 = 11, shk 166 = 11, IA 167 1936 ∧ inb ((72 : Int32) + v3) 1936 = true]) rfl ⟨rfl, rfl, ⟨⟨rfl, rfl⟩, g5⟩, trivial⟩) ?_
      obtain ⟨x6, q8, h⟩ := bdS h
      refine Go.t (Go_callS bk_Md_wearsAll 28 rfl nk_Md_min tw1554 tw1555 (as := [.int (99 : Int32), .int ((σ.1 167 ((72 : Int32) + v3).toNatClampNeg) + v2)]) (S := [.int ((72 : Int32) + v3), .ref 167]) rfl rfl rfl (Nat.le_of_ble_eq_true rfl) (Nat.le_of_ble_eq_true rfl) (ev_Md_min _ _ _ q8)) ?_
      refine Go.t (Go_sg bk_Md_wearsAll 29 1 (c2 := (some 49, [some (.ref 166), some (.int v1), some (.int v2), some (.int v3)], [], sI σ 167 ((72 : Int32) + v3).toNatClampNeg x6)) (ps := [IA 167 1936 ∧ inb ((72 : Int32) + v3) 1936 = true]) rfl ⟨⟨⟨rfl, rfl⟩, g5⟩, trivial⟩) ?_
      exact Go.t (Go.fg (LSub.cs (LSub.cs (LSub.cs (LSub.cs (LSub.nil)))))) (t_Md_wearsAll_b49 v1 v2 v3 (sI σ 167 ((72 : Int32) + v3).toNatClampNeg x6) h)
def Md_wearsAll_L2 (v1 : Int32) (v2 : Int32) (s : Int32 × MH) : Option ((MH)) := itr (fun s : Int32 × MH => Md_wearsAll_l2 v1 v2 s.1 s.2) FU s
set_option maxRecDepth 20000 in
set_option maxHeartbeats 2000000 in
theorem t_Md_wearsAll_L2 (v1 : Int32) (v2 : Int32)  (s : Int32 × MH) {r} (h : Md_wearsAll_L2 v1 v2 s = some r) : Go m_Md_wearsAll 2 (cH_Md_wearsAll_2 v1 v2 s) (cR_Md_wearsAll_2 v1 v2 r) := Go_itr (fun s o ho => t_Md_wearsAll_l2 v1 v2 s.1 s.2 ho) FU s r h
def Md_wearsAll0 (v1 : Int32) (v2 : Int32) (σ : MH) : Option (MH) := (Md_wearsAll_L2 v1 v2 ((0 : Int32), σ)).bind fun z11 => some (z11)
set_option maxRecDepth 20000 in
set_option maxHeartbeats 2000000 in
theorem t_Md_wearsAll0 (v1 : Int32) (v2 : Int32)  (σ : MH) {o} (h : Md_wearsAll0 v1 v2 σ = some o) : Go m_Md_wearsAll 2 (some 0, [some (.ref 166), some (.int v1), some (.int v2), none], [], σ) ((none, [], [], o)) := by
  unfold Md_wearsAll0 at h
  refine Go.t (Go_sg bk_Md_wearsAll 0 2 (c2 := (some 2, [some (.ref 166), some (.int v1), some (.int v2), some (.int (0 : Int32))], [], σ)) (ps := []) rfl trivial) ?_
  obtain ⟨z11, q12, h⟩ := bdS h
  refine Go.t (Go.t (Go.fg (LSub.cs (LSub.cs (LSub.cs (LSub.cs (LSub.nil)))))) (t_Md_wearsAll_L2 v1 v2 _ q12)) ?_
  have h := Option.some.inj h
  subst h
  exact Go.rf
def Md_wearsAll (v1 : Int32) (v2 : Int32) (σ : MH) : Option (MH) := Md_wearsAll0 v1 v2 σ
set_option maxRecDepth 20000 in
set_option maxHeartbeats 2000000 in
theorem ev_Md_wearsAll (v1 : Int32) (v2 : Int32)  (σ : MH) {o} (h : Md_wearsAll v1 v2 σ = some o) : Ev m_Md_wearsAll 2 [.ref 166, .int v1, .int v2] σ none o := Ev.of2 (by decide +kernel) rfl (Nat.le_of_ble_eq_true rfl) rfl (t_Md_wearsAll0 v1 v2 σ h)
def cH_Md_triesIn_35 (v1 : Int32) (v2 : Int32) (σ : MH) (s : Int32) : MC := (some 35, [some (.ref 166), some (.int v1), some (.int v2), some (.int s), none], [], σ)
def cR_Md_triesIn_35 (v1 : Int32) (v2 : Int32) (σ : MH) : ((Int32)) → MC := (fun r : Int32 => ((some 97, [some (.ref 166), none, some (.int v2), some (.int r), none], [], σ) : MC))
def Md_triesIn_b90 (v1 : Int32) (v2 : Int32) (v3 : Int32) (σ : MH) : Option (((Int32) ⊕ ((Int32)))) := some (.inl (v3 + (1 : Int32)))
set_option maxRecDepth 20000 in
set_option maxHeartbeats 2000000 in
theorem t_Md_triesIn_b90 (v1 : Int32) (v2 : Int32) (v3 : Int32)   (σ : MH) {o} (h : Md_triesIn_b90 v1 v2 v3 σ = some o) : Go m_Md_triesIn 6 (some 90, [some (.ref 166), some (.int v1), some (.int v2), some (.int v3), none], [], σ) (cS (cH_Md_triesIn_35 v1 v2 σ) (cR_Md_triesIn_35 v1 v2 σ) o) := by
  unfold Md_triesIn_b90 at h
  refine Go.t (Go_sg bk_Md_triesIn 54 5 (c2 := (some 35, [some (.ref 166), some (.int v1), some (.int v2), some (.int (v3 + (1 : Int32))), none], [], σ)) (ps := []) rfl trivial) ?_
  have h := Option.some.inj h
  subst h
  exact Go.fg (LSub.cs (LSub.cs (LSub.cs (LSub.cs (LSub.cn (LSub.nil))))))
def Md_triesIn_l35 (v1 : Int32) (v2 : Int32) (v3 : Int32) (σ : MH) : Option (((Int32) ⊕ ((Int32)))) := if (12 : Int32) ≤ v3 then some (.inr (v3)) else ((Md_isFree v3 σ).bind fun x6 => if x6 = (0 : Int32) then (Md_triesIn_b90 v1 v2 v3 σ) else (if inb ((0 : Int32) + v3) 1936 = true then if σ.1 167 ((0 : Int32) + v3).toNatClampNeg = (1 : Int32) then (if inb ((12 : Int32) + v3) 1936 = true then if σ.1 167 ((12 : Int32) + v3).toNatClampNeg = v1 then (if inb ((60 : Int32) + v2) 1936 = true then (Md_has (σ.1 167 ((60 : Int32) + v2).toNatClampNeg) v3 σ).bind fun x12 => if x12 = (0 : Int32) then some (.inr (v3)) else (Md_triesIn_b90 v1 v2 v3 σ) else none) else (Md_triesIn_b90 v1 v2 v3 σ) else none) else (Md_triesIn_b90 v1 v2 v3 σ) else none))
set_option maxRecDepth 20000 in
set_option maxHeartbeats 2000000 in
theorem t_Md_triesIn_l35 (v1 : Int32) (v2 : Int32) (v3 : Int32)  (σ : MH) {o} (h : Md_triesIn_l35 v1 v2 v3 σ = some o) : Go m_Md_triesIn 6 (cH_Md_triesIn_35 v1 v2 σ (v3)) (cS (cH_Md_triesIn_35 v1 v2 σ) (cR_Md_triesIn_35 v1 v2 σ) o) := by
  unfold Md_triesIn_l35 at h
  unfold cH_Md_triesIn_35
  refine Go.t (Go_sg bk_Md_triesIn 22 2 (c2 := (some 38, [some (.ref 166), some (.int v1), some (.int v2), some (.int v3), none], [.int (12 : Int32), .int v3], σ)) (ps := []) rfl trivial) ?_
  refine Go_icmp_ge bk_Md_triesIn 24 rfl (fun c19 => ?_) (fun c19 => ?_)
  · have h := ifT c19 h
    have h := Option.some.inj h
    subst h
    exact Go.fg (LSub.cs (LSub.cn (LSub.cs (LSub.cs (LSub.cn (LSub.nil))))))
  · have h := ifF c19 h
    refine Go.t (Go_sg bk_Md_triesIn 25 2 (c2 := (some 43, [some (.ref 166), some (.int v1), some (.int v2), some (.int v3), none], [.int v3, .ref 166], σ)) (ps := []) rfl trivial) ?_
    obtain ⟨x6, q8, h⟩ := bdS h
    refine Go.t (Go_callV bk_Md_triesIn 27 rfl nk_Md_isFree tw1393 tw1395 tw47 (ci := 11) rfl (as := [.int v3]) (S := []) rfl rfl rfl rfl (Nat.le_of_ble_eq_true rfl) (Nat.le_of_ble_eq_true rfl) (ev_Md_isFree _ _ q8)) ?_
    refine Go_if_eq bk_Md_triesIn 28 rfl (fun c18 => ?_) (fun c18 => ?_)
    · have h := ifT c18 h
      exact Go.t (Go.fg (LSub.cs (LSub.cs (LSub.cs (LSub.cs (LSub.cn (LSub.nil))))))) (t_Md_triesIn_b90 v1 v2 v3 σ h)
    · have h := ifF c18 h
      obtain ⟨g9, h⟩ := gdS h
      refine Go.t (Go_sg bk_Md_triesIn 29 7 (c2 := (some 58, [some (.ref 166), some (.int v1), some (.int v2), some (.int v3), none], [.int (1 : Int32), .int (σ.1 167 ((0 : Int32) + v3).toNatClampNeg)], σ)) (ps := [shk 166 = 11, IA 167 1936 ∧ inb ((0 : Int32) + v3) 1936 = true]) rfl ⟨rfl, ⟨⟨rfl, rfl⟩, g9⟩, trivial⟩) ?_
      refine Go_icmp_ne bk_Md_triesIn 36 rfl (fun c17 => ?_) (fun c17 => ?_)
      · have h := ifF c17 h
        exact Go.t (Go.fg (LSub.cs (LSub.cs (LSub.cs (LSub.cs (LSub.cn (LSub.nil))))))) (t_Md_triesIn_b90 v1 v2 v3 σ h)
      · have h := ifT c17 h
        obtain ⟨g10, h⟩ := gdS h
        refine Go.t (Go_sg bk_Md_triesIn 37 7 (c2 := (some 71, [some (.ref 166), some (.int v1), some (.int v2), some (.int v3), none], [.int v1, .int (σ.1 167 ((12 : Int32) + v3).toNatClampNeg)], σ)) (ps := [shk 166 = 11, IA 167 1936 ∧ inb ((12 : Int32) + v3) 1936 = true]) rfl ⟨rfl, ⟨⟨rfl, rfl⟩, g10⟩, trivial⟩) ?_
        refine Go_icmp_ne bk_Md_triesIn 44 rfl (fun c16 => ?_) (fun c16 => ?_)
        · have h := ifF c16 h
          exact Go.t (Go.fg (LSub.cs (LSub.cs (LSub.cs (LSub.cs (LSub.cn (LSub.nil))))))) (t_Md_triesIn_b90 v1 v2 v3 σ h)
        · have h := ifT c16 h
          obtain ⟨g11, h⟩ := gdS h
          refine Go.t (Go_sg bk_Md_triesIn 45 7 (c2 := (some 84, [some (.ref 166), some (.int v1), some (.int v2), some (.int v3), none], [.int v3, .int (σ.1 167 ((60 : Int32) + v2).toNatClampNeg)], σ)) (ps := [shk 166 = 11, IA 167 1936 ∧ inb ((60 : Int32) + v2) 1936 = true]) rfl ⟨rfl, ⟨⟨rfl, rfl⟩, g11⟩, trivial⟩) ?_
          obtain ⟨x12, q14, h⟩ := bdS h
          refine Go.t (Go_callS bk_Md_triesIn 52 rfl nk_Md_has tw1367 tw1368 (as := [.int (σ.1 167 ((60 : Int32) + v2).toNatClampNeg), .int v3]) (S := []) rfl rfl rfl (Nat.le_of_ble_eq_true rfl) (Nat.le_of_ble_eq_true rfl) (ev_Md_has _ _ _ q14)) ?_
          refine Go_if_eq bk_Md_triesIn 53 rfl (fun c15 => ?_) (fun c15 => ?_)
          · have h := ifT c15 h
            have h := Option.some.inj h
            subst h
            exact Go.fg (LSub.cs (LSub.cn (LSub.cs (LSub.cs (LSub.cn (LSub.nil))))))
          · have h := ifF c15 h
            exact Go.t (Go.fg (LSub.cs (LSub.cs (LSub.cs (LSub.cs (LSub.cn (LSub.nil))))))) (t_Md_triesIn_b90 v1 v2 v3 σ h)
def Md_triesIn_L35 (v1 : Int32) (v2 : Int32) (σ : MH) (s : Int32) : Option ((Int32)) := itr (fun s : Int32 => Md_triesIn_l35 v1 v2 s σ) FU s
set_option maxRecDepth 20000 in
set_option maxHeartbeats 2000000 in
theorem t_Md_triesIn_L35 (v1 : Int32) (v2 : Int32)  (σ : MH) (s : Int32) {r} (h : Md_triesIn_L35 v1 v2 σ s = some r) : Go m_Md_triesIn 6 (cH_Md_triesIn_35 v1 v2 σ s) (cR_Md_triesIn_35 v1 v2 σ r) := Go_itr (fun s o ho => t_Md_triesIn_l35 v1 v2 s σ ho) FU s r h
def Md_triesIn_b97 (v2 : Int32) (v3 : Int32) (σ : MH) : Option (MH) := if v3 = (12 : Int32) then some (σ) else ((Md_haveTried v2 v3 (sI σ 166 32 ((σ.1 166 32) + (1 : Int32)))).bind fun σ23 => (Md_fit v2 v3 σ23).bind fun (x25, σ26) => if x25 = (0 : Int32) then ((Md_wearsBy v2 v3 σ26).bind fun (x28, σ29) => (Md_wearsAll v2 x28 σ29).bind fun σ32 => (Md_wearsAll v3 x28 σ32).bind fun σ35 => some (σ35)) else ((Md_wedsTwo v2 v3 σ26).bind fun σ38 => some (sI σ38 166 31 ((σ38.1 166 31) + (1 : Int32)))))
set_option maxRecDepth 20000 in
set_option maxHeartbeats 2000000 in
theorem t_Md_triesIn_b97 (v2 : Int32) (v3 : Int32)   (σ : MH) {o} (h : Md_triesIn_b97 v2 v3 σ = some o) : Go m_Md_triesIn 6 (some 97, [some (.ref 166), none, some (.int v2), some (.int v3), none], [], σ) ((none, [], [], o)) := by
  unfold Md_triesIn_b97 at h
  refine Go.t (Go_sg bk_Md_triesIn 59 2 (c2 := (some 100, [some (.ref 166), none, some (.int v2), some (.int v3), none], [.int (12 : Int32), .int v3], σ)) (ps := []) rfl trivial) ?_
  refine Go_icmp_ne bk_Md_triesIn 61 rfl (fun c41 => ?_) (fun c41 => ?_)
  · have h := ifF c41 h
    refine Go.t (Go_sg bk_Md_triesIn 63 9 (c2 := (some 117, [some (.ref 166), none, some (.int v2), some (.int v3), none], [.int v3, .int v2, .ref 166], sI σ 166 32 ((σ.1 166 32) + (1 : Int32)))) (ps := [shk 166 = 11, shk 166 = 11]) rfl ⟨rfl, rfl, trivial⟩) ?_
    obtain ⟨σ23, q24, h⟩ := bdS h
    refine Go.t (Go_callV bk_Md_triesIn 72 rfl nk_Md_haveTried tw1530 tw1532 tw73 (ci := 11) rfl (as := [.int v2, .int v3]) (S := []) rfl rfl rfl rfl (Nat.le_of_ble_eq_true rfl) (Nat.le_of_ble_eq_true rfl) (ev_Md_haveTried _ _ _ q24)) ?_
    refine Go.t (Go_sg bk_Md_triesIn 73 3 (c2 := (some 123, [some (.ref 166), none, some (.int v2), some (.int v3), none], [.int v3, .int v2, .ref 166], σ23)) (ps := []) rfl trivial) ?_
    obtain ⟨⟨x25, σ26⟩, q27, h⟩ := bdS h
    dsimp only at h
    refine Go.t (Go_callV bk_Md_triesIn 76 rfl nk_Md_fit tw1534 tw1536 tw74 (ci := 11) rfl (as := [.int v2, .int v3]) (S := []) rfl rfl rfl rfl (Nat.le_of_ble_eq_true rfl) (Nat.le_of_ble_eq_true rfl) (ev_Md_fit _ _ _ q27)) ?_
    refine Go_if_eq bk_Md_triesIn 77 rfl (fun c40 => ?_) (fun c40 => ?_)
    · have h := ifT c40 h
      refine Go.t (Go_sg bk_Md_triesIn 89 3 (c2 := (some 149, [some (.ref 166), none, some (.int v2), some (.int v3), none], [.int v3, .int v2, .ref 166], σ26)) (ps := []) rfl trivial) ?_
      obtain ⟨⟨x28, σ29⟩, q30, h⟩ := bdS h
      dsimp only at h
      refine Go.t (Go_callV bk_Md_triesIn 92 rfl nk_Md_wearsBy tw1579 tw1581 tw82 (ci := 11) rfl (as := [.int v2, .int v3]) (S := []) rfl rfl rfl rfl (Nat.le_of_ble_eq_true rfl) (Nat.le_of_ble_eq_true rfl) (ev_Md_wearsBy _ _ _ q30)) ?_
      refine Go.t (Go_sg bk_Md_triesIn 93 4 (c2 := (some 158, [some (.ref 166), none, some (.int v2), some (.int v3), some (.int x28)], [.int x28, .int v2, .ref 166], σ29)) (ps := []) rfl trivial) ?_
      obtain ⟨σ32, q33, h⟩ := bdS h
      refine Go.t (Go_callV bk_Md_triesIn 97 rfl nk_Md_wearsAll tw1583 tw1585 tw83 (ci := 11) rfl (as := [.int v2, .int x28]) (S := []) rfl rfl rfl rfl (Nat.le_of_ble_eq_true rfl) (Nat.le_of_ble_eq_true rfl) (ev_Md_wearsAll _ _ _ q33)) ?_
      refine Go.t (Go_sg bk_Md_triesIn 98 3 (c2 := (some 165, [some (.ref 166), none, some (.int v2), some (.int v3), some (.int x28)], [.int x28, .int v3, .ref 166], σ32)) (ps := []) rfl trivial) ?_
      obtain ⟨σ35, q36, h⟩ := bdS h
      refine Go.t (Go_callV bk_Md_triesIn 101 rfl nk_Md_wearsAll tw1583 tw1585 tw83 (ci := 11) rfl (as := [.int v3, .int x28]) (S := []) rfl rfl rfl rfl (Nat.le_of_ble_eq_true rfl) (Nat.le_of_ble_eq_true rfl) (ev_Md_wearsAll _ _ _ q36)) ?_
      have h := Option.some.inj h
      subst h
      exact Go_ret0 bk_Md_triesIn 102 rfl
    · have h := ifF c40 h
      refine Go.t (Go_sg bk_Md_triesIn 78 3 (c2 := (some 132, [some (.ref 166), none, some (.int v2), some (.int v3), none], [.int v3, .int v2, .ref 166], σ26)) (ps := []) rfl trivial) ?_
      obtain ⟨σ38, q39, h⟩ := bdS h
      refine Go.t (Go_callV bk_Md_triesIn 81 rfl nk_Md_wedsTwo tw1397 tw1399 tw48 (ci := 11) rfl (as := [.int v2, .int v3]) (S := []) rfl rfl rfl rfl (Nat.le_of_ble_eq_true rfl) (Nat.le_of_ble_eq_true rfl) (ev_Md_wedsTwo _ _ _ q39)) ?_
      have h := Option.some.inj h
      subst h
      refine Go.t (Go_sg bk_Md_triesIn 82 6 (c2 := (some 145, [some (.ref 166), none, some (.int v2), some (.int v3), none], [], sI σ38 166 31 ((σ38.1 166 31) + (1 : Int32)))) (ps := [shk 166 = 11, shk 166 = 11]) rfl ⟨rfl, rfl, trivial⟩) ?_
      exact Go_ret0 bk_Md_triesIn 88 rfl
  · have h := ifT c41 h
    have h := Option.some.inj h
    subst h
    exact Go_ret0 bk_Md_triesIn 62 rfl
def Md_triesIn0 (v1 : Int32) (v2 : Int32) (σ : MH) : Option (MH) := (Md_isFree v2 σ).bind fun x1 => if x1 = (0 : Int32) then some (σ) else (if inb ((0 : Int32) + v2) 1936 = true then if σ.1 167 ((0 : Int32) + v2).toNatClampNeg = (0 : Int32) then (if inb ((12 : Int32) + v2) 1936 = true then if σ.1 167 ((12 : Int32) + v2).toNatClampNeg = v1 then ((Md_triesIn_L35 v1 v2 σ ((0 : Int32))).bind fun z20 => Md_triesIn_b97 v2 z20 σ) else some (σ) else none) else some (σ) else none)
set_option maxRecDepth 20000 in
set_option maxHeartbeats 2000000 in
theorem t_Md_triesIn0 (v1 : Int32) (v2 : Int32)  (σ : MH) {o} (h : Md_triesIn0 v1 v2 σ = some o) : Go m_Md_triesIn 6 (some 0, [some (.ref 166), some (.int v1), some (.int v2), none, none], [], σ) ((none, [], [], o)) := by
  unfold Md_triesIn0 at h
  refine Go.t (Go_sg bk_Md_triesIn 0 2 (c2 := (some 2, [some (.ref 166), some (.int v1), some (.int v2), none, none], [.int v2, .ref 166], σ)) (ps := []) rfl trivial) ?_
  obtain ⟨x1, q3, h⟩ := bdS h
  refine Go.t (Go_callV bk_Md_triesIn 2 rfl nk_Md_isFree tw1393 tw1395 tw47 (ci := 11) rfl (as := [.int v2]) (S := []) rfl rfl rfl rfl (Nat.le_of_ble_eq_true rfl) (Nat.le_of_ble_eq_true rfl) (ev_Md_isFree _ _ q3)) ?_
  refine Go_if_eq bk_Md_triesIn 3 rfl (fun c44 => ?_) (fun c44 => ?_)
  · have h := ifT c44 h
    have h := Option.some.inj h
    subst h
    exact Go_ret0 bk_Md_triesIn 19 rfl
  · have h := ifF c44 h
    obtain ⟨g4, h⟩ := gdS h
    refine Go.t (Go_sg bk_Md_triesIn 4 6 (c2 := (some 16, [some (.ref 166), some (.int v1), some (.int v2), none, none], [.int (σ.1 167 ((0 : Int32) + v2).toNatClampNeg)], σ)) (ps := [shk 166 = 11, IA 167 1936 ∧ inb ((0 : Int32) + v2) 1936 = true]) rfl ⟨rfl, ⟨⟨rfl, rfl⟩, g4⟩, trivial⟩) ?_
    refine Go_if_ne bk_Md_triesIn 10 rfl (fun c43 => ?_) (fun c43 => ?_)
    · have h := ifF c43 h
      have h := Option.some.inj h
      subst h
      exact Go_ret0 bk_Md_triesIn 19 rfl
    · have h := ifT c43 h
      obtain ⟨g5, h⟩ := gdS h
      refine Go.t (Go_sg bk_Md_triesIn 11 7 (c2 := (some 29, [some (.ref 166), some (.int v1), some (.int v2), none, none], [.int v1, .int (σ.1 167 ((12 : Int32) + v2).toNatClampNeg)], σ)) (ps := [shk 166 = 11, IA 167 1936 ∧ inb ((12 : Int32) + v2) 1936 = true]) rfl ⟨rfl, ⟨⟨rfl, rfl⟩, g5⟩, trivial⟩) ?_
      refine Go_icmp_eq bk_Md_triesIn 18 rfl (fun c42 => ?_) (fun c42 => ?_)
      · have h := ifT c42 h
        refine Go.t (Go_sg bk_Md_triesIn 20 2 (c2 := (some 35, [some (.ref 166), some (.int v1), some (.int v2), some (.int (0 : Int32)), none], [], σ)) (ps := []) rfl trivial) ?_
        obtain ⟨z20, q21, h⟩ := bdS h
        refine Go.t (Go.t (Go.fg (LSub.cs (LSub.cs (LSub.cs (LSub.cs (LSub.cn (LSub.nil))))))) (t_Md_triesIn_L35 v1 v2 σ _ q21)) ?_
        exact Go.t (Go.fg (LSub.cs (LSub.cn (LSub.cs (LSub.cs (LSub.cn (LSub.nil))))))) (t_Md_triesIn_b97 v2 z20 σ h)
      · have h := ifF c42 h
        have h := Option.some.inj h
        subst h
        exact Go_ret0 bk_Md_triesIn 19 rfl
def Md_triesIn (v1 : Int32) (v2 : Int32) (σ : MH) : Option (MH) := Md_triesIn0 v1 v2 σ
set_option maxRecDepth 20000 in
set_option maxHeartbeats 2000000 in
theorem ev_Md_triesIn (v1 : Int32) (v2 : Int32)  (σ : MH) {o} (h : Md_triesIn v1 v2 σ = some o) : Ev m_Md_triesIn 6 [.ref 166, .int v1, .int v2] σ none o := Ev.of2 (by decide +kernel) rfl (Nat.le_of_ble_eq_true rfl) rfl (t_Md_triesIn0 v1 v2 σ h)
def Md_draws0  (σ : MH) : Option (Int32 × MH) := some (jrem ((sI σ 167 111 (jrem (((25173 : Int32) * (σ.1 167 111)) + (13849 : Int32)) (65536 : Int32))).1 167 111) (10 : Int32), sI σ 167 111 (jrem (((25173 : Int32) * (σ.1 167 111)) + (13849 : Int32)) (65536 : Int32)))
set_option maxRecDepth 20000 in
set_option maxHeartbeats 2000000 in
theorem t_Md_draws0   (σ : MH) {o} (h : Md_draws0 σ = some o) : Go m_Md_draws 1 (some 0, [some (.ref 166)], [], σ) ((none, [], [.int o.1], o.2)) := by
  unfold Md_draws0 at h
  have h := Option.some.inj h
  subst h
  refine Go.t (Go_sg bk_Md_draws 0 20 (c2 := (some 36, [some (.ref 166)], [.int (jrem ((sI σ 167 111 (jrem (((25173 : Int32) * (σ.1 167 111)) + (13849 : Int32)) (65536 : Int32))).1 167 111) (10 : Int32))], sI σ 167 111 (jrem (((25173 : Int32) * (σ.1 167 111)) + (13849 : Int32)) (65536 : Int32)))) (ps := [shk 166 = 11, shk 166 = 11, IA 167 1936 ∧ inb (111 : Int32) 1936 = true, (65536 : Int32) ≠ 0, IA 167 1936 ∧ inb (111 : Int32) 1936 = true, shk 166 = 11, IA 167 1936 ∧ inb (111 : Int32) 1936 = true, (10 : Int32) ≠ 0]) rfl ⟨rfl, rfl, ⟨⟨rfl, rfl⟩, (inbN 111 1936 rfl)⟩, (by decide), ⟨⟨rfl, rfl⟩, (inbN 111 1936 rfl)⟩, rfl, ⟨⟨rfl, rfl⟩, (inbN 111 1936 rfl)⟩, (by decide), trivial⟩) ?_
  exact Go_reti bk_Md_draws 20 rfl
def Md_draws  (σ : MH) : Option (Int32 × MH) := Md_draws0 σ
set_option maxRecDepth 20000 in
set_option maxHeartbeats 2000000 in
theorem ev_Md_draws   (σ : MH) {o} (h : Md_draws σ = some o) : Ev m_Md_draws 1 [.ref 166] σ (some (.int o.1)) o.2 := Ev.of2 (by decide +kernel) rfl (Nat.le_of_ble_eq_true rfl) ⟨.int, rfl, rfl⟩ (t_Md_draws0 σ h)
def Md_creak_b95 (v1 : Int32) (v2 : Int32) (σ : MH) : Option (MH) := (Md_slackBy v1 v2 σ).bind fun x14 => (Md_feels v1 v2 x14 σ).bind fun σ18 => if inb ((36 : Int32) + v1) 1936 = true then (Md_byLaw (98 : Int32) (99 : Int32) σ18).bind fun (x21, σ22) => if x21 < σ18.1 167 ((36 : Int32) + v1).toNatClampNeg then ((Md_parts v1 σ22).bind fun σ25 => (Md_haveTried v1 v2 σ25).bind fun σ28 => some (sI σ28 166 33 ((σ28.1 166 33) + (1 : Int32)))) else some (σ22) else none
set_option maxRecDepth 20000 in
set_option maxHeartbeats 2000000 in
theorem t_Md_creak_b95 (v1 : Int32) (v2 : Int32)   (σ : MH) {o} (h : Md_creak_b95 v1 v2 σ = some o) : Go m_Md_creak 4 (some 95, [some (.ref 166), some (.int v1), some (.int v2), none], [], σ) ((none, [], [], o)) := by
  unfold Md_creak_b95 at h
  refine Go.t (Go_sg bk_Md_creak 60 6 (c2 := (some 101, [some (.ref 166), some (.int v1), some (.int v2), none], [.int v2, .int v1, .ref 166, .int v2, .int v1, .ref 166], σ)) (ps := []) rfl trivial) ?_
  obtain ⟨x14, q16, h⟩ := bdS h
  refine Go.t (Go_callV bk_Md_creak 66 rfl nk_Md_slackBy tw1538 tw1540 tw75 (ci := 11) rfl (as := [.int v1, .int v2]) (S := [.int v2, .int v1, .ref 166]) rfl rfl rfl rfl (Nat.le_of_ble_eq_true rfl) (Nat.le_of_ble_eq_true rfl) (ev_Md_slackBy _ _ _ q16)) ?_
  obtain ⟨σ18, q19, h⟩ := bdS h
  refine Go.t (Go_callV bk_Md_creak 67 rfl nk_Md_feels tw1561 tw1563 tw79 (ci := 11) rfl (as := [.int v1, .int v2, .int x14]) (S := []) rfl rfl rfl rfl (Nat.le_of_ble_eq_true rfl) (Nat.le_of_ble_eq_true rfl) (ev_Md_feels _ _ _ _ q19)) ?_
  obtain ⟨g20, h⟩ := gdS h
  refine Go.t (Go_sg bk_Md_creak 68 9 (c2 := (some 121, [some (.ref 166), some (.int v1), some (.int v2), none], [.int (99 : Int32), .int (98 : Int32), .ref 166, .int (σ18.1 167 ((36 : Int32) + v1).toNatClampNeg)], σ18)) (ps := [shk 166 = 11, IA 167 1936 ∧ inb ((36 : Int32) + v1) 1936 = true]) rfl ⟨rfl, ⟨⟨rfl, rfl⟩, g20⟩, trivial⟩) ?_
  obtain ⟨⟨x21, σ22⟩, q23, h⟩ := bdS h
  dsimp only at h
  refine Go.t (Go_callV bk_Md_creak 77 rfl nk_Md_byLaw tw1568 tw1570 tw80 (ci := 11) rfl (as := [.int (98 : Int32), .int (99 : Int32)]) (S := [.int (σ18.1 167 ((36 : Int32) + v1).toNatClampNeg)]) rfl rfl rfl rfl (Nat.le_of_ble_eq_true rfl) (Nat.le_of_ble_eq_true rfl) (ev_Md_byLaw _ _ _ q23)) ?_
  refine Go_icmp_gt bk_Md_creak 78 rfl (fun c30 => ?_) (fun c30 => ?_)
  · have h := ifT c30 h
    refine Go.t (Go_sg bk_Md_creak 80 2 (c2 := (some 130, [some (.ref 166), some (.int v1), some (.int v2), none], [.int v1, .ref 166], σ22)) (ps := []) rfl trivial) ?_
    obtain ⟨σ25, q26, h⟩ := bdS h
    refine Go.t (Go_callV bk_Md_creak 82 rfl nk_Md_parts tw1385 tw1387 tw46 (ci := 11) rfl (as := [.int v1]) (S := []) rfl rfl rfl rfl (Nat.le_of_ble_eq_true rfl) (Nat.le_of_ble_eq_true rfl) (ev_Md_parts _ _ q26)) ?_
    refine Go.t (Go_sg bk_Md_creak 83 3 (c2 := (some 136, [some (.ref 166), some (.int v1), some (.int v2), none], [.int v2, .int v1, .ref 166], σ25)) (ps := []) rfl trivial) ?_
    obtain ⟨σ28, q29, h⟩ := bdS h
    refine Go.t (Go_callV bk_Md_creak 86 rfl nk_Md_haveTried tw1530 tw1532 tw73 (ci := 11) rfl (as := [.int v1, .int v2]) (S := []) rfl rfl rfl rfl (Nat.le_of_ble_eq_true rfl) (Nat.le_of_ble_eq_true rfl) (ev_Md_haveTried _ _ _ q29)) ?_
    have h := Option.some.inj h
    subst h
    refine Go.t (Go_sg bk_Md_creak 87 6 (c2 := (some 149, [some (.ref 166), some (.int v1), some (.int v2), none], [], sI σ28 166 33 ((σ28.1 166 33) + (1 : Int32)))) (ps := [shk 166 = 11, shk 166 = 11]) rfl ⟨rfl, rfl, trivial⟩) ?_
    exact Go_ret0 bk_Md_creak 93 rfl
  · have h := ifF c30 h
    have h := Option.some.inj h
    subst h
    exact Go_ret0 bk_Md_creak 79 rfl
def Md_creak0 (v1 : Int32) (σ : MH) : Option (MH) := if inb ((24 : Int32) + v1) 1936 = true then if v1 ≤ σ.1 167 ((24 : Int32) + v1).toNatClampNeg then ((Md_draws σ).bind fun (x2, σ3) => (Md_slackBy v1 (σ.1 167 ((24 : Int32) + v1).toNatClampNeg) σ3).bind fun x5 => (Md_feels v1 (σ.1 167 ((24 : Int32) + v1).toNatClampNeg) x5 σ3).bind fun σ9 => (Md_byLaw (99 : Int32) (10 : Int32) σ9).bind fun (x11, σ12) => if x11 ≤ x2 then (Md_creak_b95 v1 (σ.1 167 ((24 : Int32) + v1).toNatClampNeg) σ12) else (if inb ((36 : Int32) + v1) 1936 = true then (Md_min (99 : Int32) ((σ12.1 167 ((36 : Int32) + v1).toNatClampNeg) + (1 : Int32)) σ12).bind fun x32 => if inb ((36 : Int32) + (σ.1 167 ((24 : Int32) + v1).toNatClampNeg)) 1936 = true then (Md_min (99 : Int32) (((sI σ12 167 ((36 : Int32) + v1).toNatClampNeg x32).1 167 ((36 : Int32) + (σ.1 167 ((24 : Int32) + v1).toNatClampNeg)).toNatClampNeg) + (1 : Int32)) (sI σ12 167 ((36 : Int32) + v1).toNatClampNeg x32)).bind fun x36 => Md_creak_b95 v1 (σ.1 167 ((24 : Int32) + v1).toNatClampNeg) (sI (sI σ12 167 ((36 : Int32) + v1).toNatClampNeg x32) 167 ((36 : Int32) + (σ.1 167 ((24 : Int32) + v1).toNatClampNeg)).toNatClampNeg x36) else none else none)) else some (σ) else none
set_option maxRecDepth 20000 in
set_option maxHeartbeats 2000000 in
theorem t_Md_creak0 (v1 : Int32)  (σ : MH) {o} (h : Md_creak0 v1 σ = some o) : Go m_Md_creak 4 (some 0, [some (.ref 166), some (.int v1), none, none], [], σ) ((none, [], [], o)) := by
  unfold Md_creak0 at h
  obtain ⟨g1, h⟩ := gdS h
  refine Go.t (Go_sg bk_Md_creak 0 9 (c2 := (some 12, [some (.ref 166), some (.int v1), some (.int (σ.1 167 ((24 : Int32) + v1).toNatClampNeg)), none], [.int v1, .int (σ.1 167 ((24 : Int32) + v1).toNatClampNeg)], σ)) (ps := [shk 166 = 11, IA 167 1936 ∧ inb ((24 : Int32) + v1) 1936 = true]) rfl ⟨rfl, ⟨⟨rfl, rfl⟩, g1⟩, trivial⟩) ?_
  refine Go_icmp_ge bk_Md_creak 9 rfl (fun c40 => ?_) (fun c40 => ?_)
  · have h := ifT c40 h
    refine Go.t (Go_sg bk_Md_creak 11 1 (c2 := (some 17, [some (.ref 166), some (.int v1), some (.int (σ.1 167 ((24 : Int32) + v1).toNatClampNeg)), none], [.ref 166], σ)) (ps := []) rfl trivial) ?_
    obtain ⟨⟨x2, σ3⟩, q4, h⟩ := bdS h
    dsimp only at h
    refine Go.t (Go_callV bk_Md_creak 12 rfl nk_Md_draws tw1591 tw1593 tw85 (ci := 11) rfl (as := []) (S := []) rfl rfl rfl rfl (Nat.le_of_ble_eq_true rfl) (Nat.le_of_ble_eq_true rfl) (ev_Md_draws _ q4)) ?_
    refine Go.t (Go_sg bk_Md_creak 13 7 (c2 := (some 27, [some (.ref 166), some (.int v1), some (.int (σ.1 167 ((24 : Int32) + v1).toNatClampNeg)), some (.int x2)], [.int (σ.1 167 ((24 : Int32) + v1).toNatClampNeg), .int v1, .ref 166, .int (σ.1 167 ((24 : Int32) + v1).toNatClampNeg), .int v1, .ref 166], σ3)) (ps := []) rfl trivial) ?_
    obtain ⟨x5, q7, h⟩ := bdS h
    refine Go.t (Go_callV bk_Md_creak 20 rfl nk_Md_slackBy tw1538 tw1540 tw75 (ci := 11) rfl (as := [.int v1, .int (σ.1 167 ((24 : Int32) + v1).toNatClampNeg)]) (S := [.int (σ.1 167 ((24 : Int32) + v1).toNatClampNeg), .int v1, .ref 166]) rfl rfl rfl rfl (Nat.le_of_ble_eq_true rfl) (Nat.le_of_ble_eq_true rfl) (ev_Md_slackBy _ _ _ q7)) ?_
    obtain ⟨σ9, q10, h⟩ := bdS h
    refine Go.t (Go_callV bk_Md_creak 21 rfl nk_Md_feels tw1561 tw1563 tw79 (ci := 11) rfl (as := [.int v1, .int (σ.1 167 ((24 : Int32) + v1).toNatClampNeg), .int x5]) (S := []) rfl rfl rfl rfl (Nat.le_of_ble_eq_true rfl) (Nat.le_of_ble_eq_true rfl) (ev_Md_feels _ _ _ _ q10)) ?_
    refine Go.t (Go_sg bk_Md_creak 22 4 (c2 := (some 39, [some (.ref 166), some (.int v1), some (.int (σ.1 167 ((24 : Int32) + v1).toNatClampNeg)), some (.int x2)], [.int (10 : Int32), .int (99 : Int32), .ref 166, .int x2], σ9)) (ps := []) rfl trivial) ?_
    obtain ⟨⟨x11, σ12⟩, q13, h⟩ := bdS h
    dsimp only at h
    refine Go.t (Go_callV bk_Md_creak 26 rfl nk_Md_byLaw tw1568 tw1570 tw80 (ci := 11) rfl (as := [.int (99 : Int32), .int (10 : Int32)]) (S := [.int x2]) rfl rfl rfl rfl (Nat.le_of_ble_eq_true rfl) (Nat.le_of_ble_eq_true rfl) (ev_Md_byLaw _ _ _ q13)) ?_
    refine Go_icmp_ge bk_Md_creak 27 rfl (fun c39 => ?_) (fun c39 => ?_)
    · have h := ifT c39 h
      exact Go.t (Go.fg (LSub.cs (LSub.cs (LSub.cs (LSub.cn (LSub.nil)))))) (t_Md_creak_b95 v1 (σ.1 167 ((24 : Int32) + v1).toNatClampNeg) σ12 h)
    · have h := ifF c39 h
      obtain ⟨g31, h⟩ := gdS h
      refine Go.t (Go_sg bk_Md_creak 28 14 (c2 := (some 66, [some (.ref 166), some (.int v1), some (.int (σ.1 167 ((24 : Int32) + v1).toNatClampNeg)), some (.int x2)], [.int ((σ12.1 167 ((36 : Int32) + v1).toNatClampNeg) + (1 : Int32)), .int (99 : Int32), .int ((36 : Int32) + v1), .ref 167], σ12)) (ps := [shk 166 = 11, shk 166 = 11, IA 167 1936 ∧ inb ((36 : Int32) + v1) 1936 = true]) rfl ⟨rfl, rfl, ⟨⟨rfl, rfl⟩, g31⟩, trivial⟩) ?_
      obtain ⟨x32, q34, h⟩ := bdS h
      refine Go.t (Go_callS bk_Md_creak 42 rfl nk_Md_min tw1554 tw1555 (as := [.int (99 : Int32), .int ((σ12.1 167 ((36 : Int32) + v1).toNatClampNeg) + (1 : Int32))]) (S := [.int ((36 : Int32) + v1), .ref 167]) rfl rfl rfl (Nat.le_of_ble_eq_true rfl) (Nat.le_of_ble_eq_true rfl) (ev_Md_min _ _ _ q34)) ?_
      obtain ⟨g35, h⟩ := gdS h
      refine Go.t (Go_sg bk_Md_creak 43 15 (c2 := (some 91, [some (.ref 166), some (.int v1), some (.int (σ.1 167 ((24 : Int32) + v1).toNatClampNeg)), some (.int x2)], [.int (((sI σ12 167 ((36 : Int32) + v1).toNatClampNeg x32).1 167 ((36 : Int32) + (σ.1 167 ((24 : Int32) + v1).toNatClampNeg)).toNatClampNeg) + (1 : Int32)), .int (99 : Int32), .int ((36 : Int32) + (σ.1 167 ((24 : Int32) + v1).toNatClampNeg)), .ref 167], sI σ12 167 ((36 : Int32) + v1).toNatClampNeg x32)) (ps := [IA 167 1936 ∧ inb ((36 : Int32) + v1) 1936 = true, shk 166 = 11, shk 166 = 11, IA 167 1936 ∧ inb ((36 : Int32) + (σ.1 167 ((24 : Int32) + v1).toNatClampNeg)) 1936 = true]) rfl ⟨⟨⟨rfl, rfl⟩, g31⟩, rfl, rfl, ⟨⟨rfl, rfl⟩, g35⟩, trivial⟩) ?_
      obtain ⟨x36, q38, h⟩ := bdS h
      refine Go.t (Go_callS bk_Md_creak 58 rfl nk_Md_min tw1554 tw1555 (as := [.int (99 : Int32), .int (((sI σ12 167 ((36 : Int32) + v1).toNatClampNeg x32).1 167 ((36 : Int32) + (σ.1 167 ((24 : Int32) + v1).toNatClampNeg)).toNatClampNeg) + (1 : Int32))]) (S := [.int ((36 : Int32) + (σ.1 167 ((24 : Int32) + v1).toNatClampNeg)), .ref 167]) rfl rfl rfl (Nat.le_of_ble_eq_true rfl) (Nat.le_of_ble_eq_true rfl) (ev_Md_min _ _ _ q38)) ?_
      refine Go.t (Go_sg bk_Md_creak 59 1 (c2 := (some 95, [some (.ref 166), some (.int v1), some (.int (σ.1 167 ((24 : Int32) + v1).toNatClampNeg)), some (.int x2)], [], sI (sI σ12 167 ((36 : Int32) + v1).toNatClampNeg x32) 167 ((36 : Int32) + (σ.1 167 ((24 : Int32) + v1).toNatClampNeg)).toNatClampNeg x36)) (ps := [IA 167 1936 ∧ inb ((36 : Int32) + (σ.1 167 ((24 : Int32) + v1).toNatClampNeg)) 1936 = true]) rfl ⟨⟨⟨rfl, rfl⟩, g35⟩, trivial⟩) ?_
      exact Go.t (Go.fg (LSub.cs (LSub.cs (LSub.cs (LSub.cn (LSub.nil)))))) (t_Md_creak_b95 v1 (σ.1 167 ((24 : Int32) + v1).toNatClampNeg) (sI (sI σ12 167 ((36 : Int32) + v1).toNatClampNeg x32) 167 ((36 : Int32) + (σ.1 167 ((24 : Int32) + v1).toNatClampNeg)).toNatClampNeg x36) h)
  · have h := ifF c40 h
    have h := Option.some.inj h
    subst h
    exact Go_ret0 bk_Md_creak 10 rfl
def Md_creak (v1 : Int32) (σ : MH) : Option (MH) := Md_creak0 v1 σ
set_option maxRecDepth 20000 in
set_option maxHeartbeats 2000000 in
theorem ev_Md_creak (v1 : Int32)  (σ : MH) {o} (h : Md_creak v1 σ = some o) : Ev m_Md_creak 4 [.ref 166, .int v1] σ none o := Ev.of2 (by decide +kernel) rfl (Nat.le_of_ble_eq_true rfl) rfl (t_Md_creak0 v1 σ h)
def cH_Md_daysGo_17 (v1 : Int32) (s : Int32 × MH) : MC := (some 17, [some (.ref 166), some (.int v1), some (.int s.1), none, none], [], s.2)
def cR_Md_daysGo_17 (v1 : Int32) : ((MH)) → MC := (fun r : MH => ((none, [], [], r) : MC))
def cH_Md_daysGo_37 (v1 : Int32) (v2 : Int32) (s : Int32 × MH) : MC := (some 37, [some (.ref 166), some (.int v1), some (.int v2), some (.int s.1), none], [], s.2)
def cR_Md_daysGo_37 (v1 : Int32) (v2 : Int32) : ((MH)) → MC := (fun r : MH => ((some 54, [some (.ref 166), some (.int v1), some (.int v2), none, none], [], r) : MC))
def Md_daysGo_l37 (v1 : Int32) (v2 : Int32) (v3 : Int32) (σ : MH) : Option (((Int32 × MH) ⊕ ((MH)))) := if (12 : Int32) ≤ v3 then some (.inr (σ)) else ((Md_travels v3 σ).bind fun σ2 => some (.inl (v3 + (1 : Int32), σ2)))
set_option maxRecDepth 20000 in
set_option maxHeartbeats 2000000 in
theorem t_Md_daysGo_l37 (v1 : Int32) (v2 : Int32) (v3 : Int32)  (σ : MH) {o} (h : Md_daysGo_l37 v1 v2 v3 σ = some o) : Go m_Md_daysGo 7 (cH_Md_daysGo_37 v1 v2 (v3, σ)) (cS (cH_Md_daysGo_37 v1 v2) (cR_Md_daysGo_37 v1 v2) o) := by
  unfold Md_daysGo_l37 at h
  unfold cH_Md_daysGo_37
  refine Go.t (Go_sg bk_Md_daysGo 22 2 (c2 := (some 40, [some (.ref 166), some (.int v1), some (.int v2), some (.int v3), none], [.int (12 : Int32), .int v3], σ)) (ps := []) rfl trivial) ?_
  refine Go_icmp_ge bk_Md_daysGo 24 rfl (fun c4 => ?_) (fun c4 => ?_)
  · have h := ifT c4 h
    have h := Option.some.inj h
    subst h
    exact Go.fg (LSub.cs (LSub.cs (LSub.cs (LSub.cn (LSub.cn (LSub.nil))))))
  · have h := ifF c4 h
    refine Go.t (Go_sg bk_Md_daysGo 25 2 (c2 := (some 45, [some (.ref 166), some (.int v1), some (.int v2), some (.int v3), none], [.int v3, .ref 166], σ)) (ps := []) rfl trivial) ?_
    obtain ⟨σ2, q3, h⟩ := bdS h
    refine Go.t (Go_callV bk_Md_daysGo 27 rfl nk_Md_travels tw1522 tw1524 tw71 (ci := 11) rfl (as := [.int v3]) (S := []) rfl rfl rfl rfl (Nat.le_of_ble_eq_true rfl) (Nat.le_of_ble_eq_true rfl) (ev_Md_travels _ _ q3)) ?_
    refine Go.t (Go_sg bk_Md_daysGo 28 2 (c2 := (some 37, [some (.ref 166), some (.int v1), some (.int v2), some (.int (v3 + (1 : Int32))), none], [], σ2)) (ps := []) rfl trivial) ?_
    have h := Option.some.inj h
    subst h
    exact Go.fg (LSub.cs (LSub.cs (LSub.cs (LSub.cs (LSub.cn (LSub.nil))))))
def Md_daysGo_L37 (v1 : Int32) (v2 : Int32) (s : Int32 × MH) : Option ((MH)) := itr (fun s : Int32 × MH => Md_daysGo_l37 v1 v2 s.1 s.2) FU s
set_option maxRecDepth 20000 in
set_option maxHeartbeats 2000000 in
theorem t_Md_daysGo_L37 (v1 : Int32) (v2 : Int32)  (s : Int32 × MH) {r} (h : Md_daysGo_L37 v1 v2 s = some r) : Go m_Md_daysGo 7 (cH_Md_daysGo_37 v1 v2 s) (cR_Md_daysGo_37 v1 v2 r) := Go_itr (fun s o ho => t_Md_daysGo_l37 v1 v2 s.1 s.2 ho) FU s r h
def cH_Md_daysGo_56 (v1 : Int32) (v2 : Int32) (s : Int32 × MH) : MC := (some 56, [some (.ref 166), some (.int v1), some (.int v2), some (.int s.1), none], [], s.2)
def cR_Md_daysGo_56 (v1 : Int32) (v2 : Int32) : ((MH)) → MC := (fun r : MH => ((some 91, [some (.ref 166), some (.int v1), some (.int v2), none, none], [], r) : MC))
def cH_Md_daysGo_65 (v1 : Int32) (v2 : Int32) (v3 : Int32) (s : Int32 × MH) : MC := (some 65, [some (.ref 166), some (.int v1), some (.int v2), some (.int v3), some (.int s.1)], [], s.2)
def cR_Md_daysGo_65 (v1 : Int32) (v2 : Int32) (v3 : Int32) : ((MH)) → MC := (fun r : MH => ((some 85, [some (.ref 166), some (.int v1), some (.int v2), some (.int v3), none], [], r) : MC))
def Md_daysGo_l65 (v1 : Int32) (v2 : Int32) (v3 : Int32) (v4 : Int32) (σ : MH) : Option (((Int32 × MH) ⊕ ((MH)))) := if (12 : Int32) ≤ v4 then some (.inr (σ)) else ((Md_triesIn v3 v4 σ).bind fun σ8 => some (.inl (v4 + (1 : Int32), σ8)))
set_option maxRecDepth 20000 in
set_option maxHeartbeats 2000000 in
theorem t_Md_daysGo_l65 (v1 : Int32) (v2 : Int32) (v3 : Int32) (v4 : Int32)  (σ : MH) {o} (h : Md_daysGo_l65 v1 v2 v3 v4 σ = some o) : Go m_Md_daysGo 7 (cH_Md_daysGo_65 v1 v2 v3 (v4, σ)) (cS (cH_Md_daysGo_65 v1 v2 v3) (cR_Md_daysGo_65 v1 v2 v3) o) := by
  unfold Md_daysGo_l65 at h
  unfold cH_Md_daysGo_65
  refine Go.t (Go_sg bk_Md_daysGo 37 2 (c2 := (some 69, [some (.ref 166), some (.int v1), some (.int v2), some (.int v3), some (.int v4)], [.int (12 : Int32), .int v4], σ)) (ps := []) rfl trivial) ?_
  refine Go_icmp_ge bk_Md_daysGo 39 rfl (fun c10 => ?_) (fun c10 => ?_)
  · have h := ifT c10 h
    have h := Option.some.inj h
    subst h
    exact Go.fg (LSub.cs (LSub.cs (LSub.cs (LSub.cs (LSub.cn (LSub.nil))))))
  · have h := ifF c10 h
    refine Go.t (Go_sg bk_Md_daysGo 40 3 (c2 := (some 76, [some (.ref 166), some (.int v1), some (.int v2), some (.int v3), some (.int v4)], [.int v4, .int v3, .ref 166], σ)) (ps := []) rfl trivial) ?_
    obtain ⟨σ8, q9, h⟩ := bdS h
    refine Go.t (Go_callV bk_Md_daysGo 43 rfl nk_Md_triesIn tw1526 tw1528 tw72 (ci := 11) rfl (as := [.int v3, .int v4]) (S := []) rfl rfl rfl rfl (Nat.le_of_ble_eq_true rfl) (Nat.le_of_ble_eq_true rfl) (ev_Md_triesIn _ _ _ q9)) ?_
    refine Go.t (Go_sg bk_Md_daysGo 44 2 (c2 := (some 65, [some (.ref 166), some (.int v1), some (.int v2), some (.int v3), some (.int (v4 + (1 : Int32)))], [], σ8)) (ps := []) rfl trivial) ?_
    have h := Option.some.inj h
    subst h
    exact Go.fg (LSub.cs (LSub.cs (LSub.cs (LSub.cs (LSub.cs (LSub.nil))))))
def Md_daysGo_L65 (v1 : Int32) (v2 : Int32) (v3 : Int32) (s : Int32 × MH) : Option ((MH)) := itr (fun s : Int32 × MH => Md_daysGo_l65 v1 v2 v3 s.1 s.2) FU s
set_option maxRecDepth 20000 in
set_option maxHeartbeats 2000000 in
theorem t_Md_daysGo_L65 (v1 : Int32) (v2 : Int32) (v3 : Int32)  (s : Int32 × MH) {r} (h : Md_daysGo_L65 v1 v2 v3 s = some r) : Go m_Md_daysGo 7 (cH_Md_daysGo_65 v1 v2 v3 s) (cR_Md_daysGo_65 v1 v2 v3 r) := Go_itr (fun s o ho => t_Md_daysGo_l65 v1 v2 v3 s.1 s.2 ho) FU s r h
def Md_daysGo_l56 (v1 : Int32) (v2 : Int32) (v3 : Int32) (σ : MH) : Option (((Int32 × MH) ⊕ ((MH)))) := if (6 : Int32) ≤ v3 then some (.inr (σ)) else ((Md_daysGo_L65 v1 v2 v3 ((0 : Int32), σ)).bind fun z11 => some (.inl (v3 + (1 : Int32), z11)))
set_option maxRecDepth 20000 in
set_option maxHeartbeats 2000000 in
theorem t_Md_daysGo_l56 (v1 : Int32) (v2 : Int32) (v3 : Int32)  (σ : MH) {o} (h : Md_daysGo_l56 v1 v2 v3 σ = some o) : Go m_Md_daysGo 7 (cH_Md_daysGo_56 v1 v2 (v3, σ)) (cS (cH_Md_daysGo_56 v1 v2) (cR_Md_daysGo_56 v1 v2) o) := by
  unfold Md_daysGo_l56 at h
  unfold cH_Md_daysGo_56
  refine Go.t (Go_sg bk_Md_daysGo 32 2 (c2 := (some 59, [some (.ref 166), some (.int v1), some (.int v2), some (.int v3), none], [.int (6 : Int32), .int v3], σ)) (ps := []) rfl trivial) ?_
  refine Go_icmp_ge bk_Md_daysGo 34 rfl (fun c13 => ?_) (fun c13 => ?_)
  · have h := ifT c13 h
    have h := Option.some.inj h
    subst h
    exact Go.fg (LSub.cs (LSub.cs (LSub.cs (LSub.cn (LSub.cn (LSub.nil))))))
  · have h := ifF c13 h
    refine Go.t (Go_sg bk_Md_daysGo 35 2 (c2 := (some 65, [some (.ref 166), some (.int v1), some (.int v2), some (.int v3), some (.int (0 : Int32))], [], σ)) (ps := []) rfl trivial) ?_
    obtain ⟨z11, q12, h⟩ := bdS h
    refine Go.t (Go.t (Go.fg (LSub.cs (LSub.cs (LSub.cs (LSub.cs (LSub.cs (LSub.nil))))))) (t_Md_daysGo_L65 v1 v2 v3 _ q12)) ?_
    refine Go.t (Go_sg bk_Md_daysGo 46 2 (c2 := (some 56, [some (.ref 166), some (.int v1), some (.int v2), some (.int (v3 + (1 : Int32))), none], [], z11)) (ps := []) rfl trivial) ?_
    have h := Option.some.inj h
    subst h
    exact Go.fg (LSub.cs (LSub.cs (LSub.cs (LSub.cs (LSub.cn (LSub.nil))))))
def Md_daysGo_L56 (v1 : Int32) (v2 : Int32) (s : Int32 × MH) : Option ((MH)) := itr (fun s : Int32 × MH => Md_daysGo_l56 v1 v2 s.1 s.2) FU s
set_option maxRecDepth 20000 in
set_option maxHeartbeats 2000000 in
theorem t_Md_daysGo_L56 (v1 : Int32) (v2 : Int32)  (s : Int32 × MH) {r} (h : Md_daysGo_L56 v1 v2 s = some r) : Go m_Md_daysGo 7 (cH_Md_daysGo_56 v1 v2 s) (cR_Md_daysGo_56 v1 v2 r) := Go_itr (fun s o ho => t_Md_daysGo_l56 v1 v2 s.1 s.2 ho) FU s r h
def cH_Md_daysGo_93 (v1 : Int32) (v2 : Int32) (s : Int32 × MH) : MC := (some 93, [some (.ref 166), some (.int v1), some (.int v2), some (.int s.1), none], [], s.2)
def cR_Md_daysGo_93 (v1 : Int32) (v2 : Int32) : ((MH)) → MC := (fun r : MH => ((some 110, [some (.ref 166), some (.int v1), some (.int v2), none, none], [], r) : MC))
def Md_daysGo_l93 (v1 : Int32) (v2 : Int32) (v3 : Int32) (σ : MH) : Option (((Int32 × MH) ⊕ ((MH)))) := if (12 : Int32) ≤ v3 then some (.inr (σ)) else ((Md_creak v3 σ).bind fun σ17 => some (.inl (v3 + (1 : Int32), σ17)))
set_option maxRecDepth 20000 in
set_option maxHeartbeats 2000000 in
theorem t_Md_daysGo_l93 (v1 : Int32) (v2 : Int32) (v3 : Int32)  (σ : MH) {o} (h : Md_daysGo_l93 v1 v2 v3 σ = some o) : Go m_Md_daysGo 7 (cH_Md_daysGo_93 v1 v2 (v3, σ)) (cS (cH_Md_daysGo_93 v1 v2) (cR_Md_daysGo_93 v1 v2) o) := by
  unfold Md_daysGo_l93 at h
  unfold cH_Md_daysGo_93
  refine Go.t (Go_sg bk_Md_daysGo 50 2 (c2 := (some 96, [some (.ref 166), some (.int v1), some (.int v2), some (.int v3), none], [.int (12 : Int32), .int v3], σ)) (ps := []) rfl trivial) ?_
  refine Go_icmp_ge bk_Md_daysGo 52 rfl (fun c19 => ?_) (fun c19 => ?_)
  · have h := ifT c19 h
    have h := Option.some.inj h
    subst h
    exact Go.fg (LSub.cs (LSub.cs (LSub.cs (LSub.cn (LSub.cn (LSub.nil))))))
  · have h := ifF c19 h
    refine Go.t (Go_sg bk_Md_daysGo 53 2 (c2 := (some 101, [some (.ref 166), some (.int v1), some (.int v2), some (.int v3), none], [.int v3, .ref 166], σ)) (ps := []) rfl trivial) ?_
    obtain ⟨σ17, q18, h⟩ := bdS h
    refine Go.t (Go_callV bk_Md_daysGo 55 rfl nk_Md_creak tw1587 tw1589 tw84 (ci := 11) rfl (as := [.int v3]) (S := []) rfl rfl rfl rfl (Nat.le_of_ble_eq_true rfl) (Nat.le_of_ble_eq_true rfl) (ev_Md_creak _ _ q18)) ?_
    refine Go.t (Go_sg bk_Md_daysGo 56 2 (c2 := (some 93, [some (.ref 166), some (.int v1), some (.int v2), some (.int (v3 + (1 : Int32))), none], [], σ17)) (ps := []) rfl trivial) ?_
    have h := Option.some.inj h
    subst h
    exact Go.fg (LSub.cs (LSub.cs (LSub.cs (LSub.cs (LSub.cn (LSub.nil))))))
def Md_daysGo_L93 (v1 : Int32) (v2 : Int32) (s : Int32 × MH) : Option ((MH)) := itr (fun s : Int32 × MH => Md_daysGo_l93 v1 v2 s.1 s.2) FU s
set_option maxRecDepth 20000 in
set_option maxHeartbeats 2000000 in
theorem t_Md_daysGo_L93 (v1 : Int32) (v2 : Int32)  (s : Int32 × MH) {r} (h : Md_daysGo_L93 v1 v2 s = some r) : Go m_Md_daysGo 7 (cH_Md_daysGo_93 v1 v2 s) (cR_Md_daysGo_93 v1 v2 r) := Go_itr (fun s o ho => t_Md_daysGo_l93 v1 v2 s.1 s.2 ho) FU s r h
def Md_daysGo_l17 (v1 : Int32) (v2 : Int32) (σ : MH) : Option (((Int32 × MH) ⊕ ((MH)))) := if v1 ≤ v2 then some (.inr (σ)) else (if (9999 : Int32) ≤ σ.1 167 110 then some (.inr (σ)) else ((Md_daysGo_L37 v1 v2 ((0 : Int32), σ)).bind fun z5 => (Md_daysGo_L56 v1 v2 ((0 : Int32), z5)).bind fun z14 => (Md_daysGo_L93 v1 v2 ((0 : Int32), z14)).bind fun z20 => some (.inl (v2 + (1 : Int32), sI z20 167 110 ((z20.1 167 110) + (1 : Int32))))))
set_option maxRecDepth 20000 in
set_option maxHeartbeats 2000000 in
theorem t_Md_daysGo_l17 (v1 : Int32) (v2 : Int32)  (σ : MH) {o} (h : Md_daysGo_l17 v1 v2 σ = some o) : Go m_Md_daysGo 7 (cH_Md_daysGo_17 v1 (v2, σ)) (cS (cH_Md_daysGo_17 v1) (cR_Md_daysGo_17 v1) o) := by
  unfold Md_daysGo_l17 at h
  unfold cH_Md_daysGo_17
  refine Go.t (Go_sg bk_Md_daysGo 11 2 (c2 := (some 19, [some (.ref 166), some (.int v1), some (.int v2), none, none], [.int v1, .int v2], σ)) (ps := []) rfl trivial) ?_
  refine Go_icmp_ge bk_Md_daysGo 13 rfl (fun c23 => ?_) (fun c23 => ?_)
  · have h := ifT c23 h
    have h := Option.some.inj h
    subst h
    exact Go_ret0 bk_Md_daysGo 70 rfl
  · have h := ifF c23 h
    refine Go.t (Go_sg bk_Md_daysGo 14 5 (c2 := (some 32, [some (.ref 166), some (.int v1), some (.int v2), none, none], [.int (9999 : Int32), .int (σ.1 167 110)], σ)) (ps := [shk 166 = 11, IA 167 1936 ∧ inb (110 : Int32) 1936 = true]) rfl ⟨rfl, ⟨⟨rfl, rfl⟩, (inbN 110 1936 rfl)⟩, trivial⟩) ?_
    refine Go_icmp_ge bk_Md_daysGo 19 rfl (fun c22 => ?_) (fun c22 => ?_)
    · have h := ifT c22 h
      have h := Option.some.inj h
      subst h
      exact Go_ret0 bk_Md_daysGo 70 rfl
    · have h := ifF c22 h
      refine Go.t (Go_sg bk_Md_daysGo 20 2 (c2 := (some 37, [some (.ref 166), some (.int v1), some (.int v2), some (.int (0 : Int32)), none], [], σ)) (ps := []) rfl trivial) ?_
      obtain ⟨z5, q6, h⟩ := bdS h
      refine Go.t (Go.t (Go.fg (LSub.cs (LSub.cs (LSub.cs (LSub.cs (LSub.cn (LSub.nil))))))) (t_Md_daysGo_L37 v1 v2 _ q6)) ?_
      refine Go.t (Go_sg bk_Md_daysGo 30 2 (c2 := (some 56, [some (.ref 166), some (.int v1), some (.int v2), some (.int (0 : Int32)), none], [], z5)) (ps := []) rfl trivial) ?_
      obtain ⟨z14, q15, h⟩ := bdS h
      refine Go.t (Go.t (Go.fg (LSub.cs (LSub.cs (LSub.cs (LSub.cs (LSub.cn (LSub.nil))))))) (t_Md_daysGo_L56 v1 v2 _ q15)) ?_
      refine Go.t (Go_sg bk_Md_daysGo 48 2 (c2 := (some 93, [some (.ref 166), some (.int v1), some (.int v2), some (.int (0 : Int32)), none], [], z14)) (ps := []) rfl trivial) ?_
      obtain ⟨z20, q21, h⟩ := bdS h
      refine Go.t (Go.t (Go.fg (LSub.cs (LSub.cs (LSub.cs (LSub.cs (LSub.cn (LSub.nil))))))) (t_Md_daysGo_L93 v1 v2 _ q21)) ?_
      refine Go.t (Go_sg bk_Md_daysGo 58 12 (c2 := (some 17, [some (.ref 166), some (.int v1), some (.int (v2 + (1 : Int32))), none, none], [], sI z20 167 110 ((z20.1 167 110) + (1 : Int32)))) (ps := [shk 166 = 11, shk 166 = 11, IA 167 1936 ∧ inb (110 : Int32) 1936 = true, IA 167 1936 ∧ inb (110 : Int32) 1936 = true]) rfl ⟨rfl, rfl, ⟨⟨rfl, rfl⟩, (inbN 110 1936 rfl)⟩, ⟨⟨rfl, rfl⟩, (inbN 110 1936 rfl)⟩, trivial⟩) ?_
      have h := Option.some.inj h
      subst h
      exact Go.fg (LSub.cs (LSub.cs (LSub.cs (LSub.cn (LSub.cn (LSub.nil))))))
def Md_daysGo_L17 (v1 : Int32) (s : Int32 × MH) : Option ((MH)) := itr (fun s : Int32 × MH => Md_daysGo_l17 v1 s.1 s.2) FU s
set_option maxRecDepth 20000 in
set_option maxHeartbeats 2000000 in
theorem t_Md_daysGo_L17 (v1 : Int32)  (s : Int32 × MH) {r} (h : Md_daysGo_L17 v1 s = some r) : Go m_Md_daysGo 7 (cH_Md_daysGo_17 v1 s) (cR_Md_daysGo_17 v1 r) := Go_itr (fun s o ho => t_Md_daysGo_l17 v1 s.1 s.2 ho) FU s r h
def Md_daysGo0 (v1 : Int32) (σ : MH) : Option (MH) := (Md_daysGo_L17 v1 ((0 : Int32), sI (sI (sI σ 166 31 (0 : Int32)) 166 32 (0 : Int32)) 166 33 (0 : Int32))).bind fun z24 => some (z24)
set_option maxRecDepth 20000 in
set_option maxHeartbeats 2000000 in
theorem t_Md_daysGo0 (v1 : Int32)  (σ : MH) {o} (h : Md_daysGo0 v1 σ = some o) : Go m_Md_daysGo 7 (some 0, [some (.ref 166), some (.int v1), none, none, none], [], σ) ((none, [], [], o)) := by
  unfold Md_daysGo0 at h
  refine Go.t (Go_sg bk_Md_daysGo 0 11 (c2 := (some 17, [some (.ref 166), some (.int v1), some (.int (0 : Int32)), none, none], [], sI (sI (sI σ 166 31 (0 : Int32)) 166 32 (0 : Int32)) 166 33 (0 : Int32))) (ps := [shk 166 = 11, shk 166 = 11, shk 166 = 11]) rfl ⟨rfl, rfl, rfl, trivial⟩) ?_
  obtain ⟨z24, q25, h⟩ := bdS h
  refine Go.t (Go.t (Go.fg (LSub.cs (LSub.cs (LSub.cs (LSub.cn (LSub.cn (LSub.nil))))))) (t_Md_daysGo_L17 v1 _ q25)) ?_
  have h := Option.some.inj h
  subst h
  exact Go.rf
def Md_daysGo (v1 : Int32) (σ : MH) : Option (MH) := Md_daysGo0 v1 σ
set_option maxRecDepth 20000 in
set_option maxHeartbeats 2000000 in
theorem ev_Md_daysGo (v1 : Int32)  (σ : MH) {o} (h : Md_daysGo v1 σ = some o) : Ev m_Md_daysGo 7 [.ref 166, .int v1] σ none o := Ev.of2 (by decide +kernel) rfl (Nat.le_of_ble_eq_true rfl) rfl (t_Md_daysGo0 v1 σ h)
def Md_days0 (v1 : Int32) (σ : MH) : Option (Int32 × MH) := (Md_in v1 (1 : Int32) (60 : Int32) σ).bind fun x1 => if x1 = (0 : Int32) then some ((-1 : Int32), σ) else ((Md_daysGo v1 σ).bind fun σ5 => some (σ5.1 166 31, σ5))
set_option maxRecDepth 20000 in
set_option maxHeartbeats 2000000 in
theorem t_Md_days0 (v1 : Int32)  (σ : MH) {o} (h : Md_days0 v1 σ = some o) : Go m_Md_days 8 (some 0, [some (.ref 166), some (.int v1)], [], σ) ((none, [], [.int o.1], o.2)) := by
  unfold Md_days0 at h
  refine Go.t (Go_sg bk_Md_days 0 3 (c2 := (some 4, [some (.ref 166), some (.int v1)], [.int (60 : Int32), .int (1 : Int32), .int v1], σ)) (ps := []) rfl trivial) ?_
  obtain ⟨x1, q3, h⟩ := bdS h
  refine Go.t (Go_callS bk_Md_days 3 rfl nk_Md_in tw1370 tw1371 (as := [.int v1, .int (1 : Int32), .int (60 : Int32)]) (S := []) rfl rfl rfl (Nat.le_of_ble_eq_true rfl) (Nat.le_of_ble_eq_true rfl) (ev_Md_in _ _ _ _ q3)) ?_
  refine Go_if_ne bk_Md_days 4 rfl (fun c7 => ?_) (fun c7 => ?_)
  · have h := ifF c7 h
    refine Go.t (Go_sg bk_Md_days 7 2 (c2 := (some 14, [some (.ref 166), some (.int v1)], [.int v1, .ref 166], σ)) (ps := []) rfl trivial) ?_
    obtain ⟨σ5, q6, h⟩ := bdS h
    refine Go.t (Go_callV bk_Md_days 9 rfl nk_Md_daysGo tw1518 tw1520 tw70 (ci := 11) rfl (as := [.int v1]) (S := []) rfl rfl rfl rfl (Nat.le_of_ble_eq_true rfl) (Nat.le_of_ble_eq_true rfl) (ev_Md_daysGo _ _ q6)) ?_
    have h := Option.some.inj h
    subst h
    refine Go.t (Go_sg bk_Md_days 10 2 (c2 := (some 21, [some (.ref 166), some (.int v1)], [.int (σ5.1 166 31)], σ5)) (ps := [shk 166 = 11]) rfl ⟨rfl, trivial⟩) ?_
    exact Go_reti bk_Md_days 12 rfl
  · have h := ifT c7 h
    have h := Option.some.inj h
    subst h
    refine Go.t (Go_sg bk_Md_days 5 1 (c2 := (some 11, [some (.ref 166), some (.int v1)], [.int (-1 : Int32)], σ)) (ps := []) rfl trivial) ?_
    exact Go_reti bk_Md_days 6 rfl
def Md_days (v1 : Int32) (σ : MH) : Option (Int32 × MH) := Md_days0 v1 σ
set_option maxRecDepth 20000 in
set_option maxHeartbeats 2000000 in
theorem ev_Md_days (v1 : Int32)  (σ : MH) {o} (h : Md_days v1 σ = some o) : Ev m_Md_days 8 [.ref 166, .int v1] σ (some (.int o.1)) o.2 := Ev.of2 (by decide +kernel) rfl (Nat.le_of_ble_eq_true rfl) ⟨.int, rfl, rfl⟩ (t_Md_days0 v1 σ h)
def cH_Md_copiesRow_2 (v0 : Nat) (v1 : Nat) (s : Int32 × MH) : MC := (some 2, [some (.ref v0), some (.ref v1), some (.int s.1)], [], s.2)
def cR_Md_copiesRow_2 (v0 : Nat) (v1 : Nat) : ((MH)) → MC := (fun r : MH => ((none, [], [], r) : MC))
def Md_copiesRow_l2 (v0 : Nat) (v1 : Nat) (v2 : Int32) (σ : MH) : Option (((Int32 × MH) ⊕ ((MH)))) := if (1936 : Int32) ≤ v2 then some (.inr (σ)) else (if inb v2 1936 = true then some (.inl (v2 + (1 : Int32), sI σ v1 v2.toNatClampNeg (σ.1 v0 v2.toNatClampNeg))) else none)
set_option maxRecDepth 20000 in
set_option maxHeartbeats 2000000 in
theorem t_Md_copiesRow_l2 (v0 : Nat) (v1 : Nat) (v2 : Int32) (hv0 : IA v0 1936) (hv1 : IA v1 1936) (σ : MH) {o} (h : Md_copiesRow_l2 v0 v1 v2 σ = some o) : Go m_Md_copiesRow 1 (cH_Md_copiesRow_2 v0 v1 (v2, σ)) (cS (cH_Md_copiesRow_2 v0 v1) (cR_Md_copiesRow_2 v0 v1) o) := by
  unfold Md_copiesRow_l2 at h
  unfold cH_Md_copiesRow_2
  refine Go.t (Go_sg bk_Md_copiesRow 2 2 (c2 := (some 6, [some (.ref v0), some (.ref v1), some (.int v2)], [.int (1936 : Int32), .int v2], σ)) (ps := []) rfl trivial) ?_
  refine Go_icmp_ge bk_Md_copiesRow 4 rfl (fun c2 => ?_) (fun c2 => ?_)
  · have h := ifT c2 h
    have h := Option.some.inj h
    subst h
    exact Go_ret0 bk_Md_copiesRow 13 rfl
  · have h := ifF c2 h
    obtain ⟨g1, h⟩ := gdS h
    refine Go.t (Go_sg bk_Md_copiesRow 5 8 (c2 := (some 2, [some (.ref v0), some (.ref v1), some (.int (v2 + (1 : Int32)))], [], sI σ v1 v2.toNatClampNeg (σ.1 v0 v2.toNatClampNeg))) (ps := [IA v0 1936 ∧ inb v2 1936 = true, IA v1 1936 ∧ inb v2 1936 = true]) rfl ⟨⟨hv0, g1⟩, ⟨hv1, g1⟩, trivial⟩) ?_
    have h := Option.some.inj h
    subst h
    exact Go.fg (LSub.cs (LSub.cs (LSub.cs (LSub.nil))))
def Md_copiesRow_L2 (v0 : Nat) (v1 : Nat) (s : Int32 × MH) : Option ((MH)) := itr (fun s : Int32 × MH => Md_copiesRow_l2 v0 v1 s.1 s.2) FU s
set_option maxRecDepth 20000 in
set_option maxHeartbeats 2000000 in
theorem t_Md_copiesRow_L2 (v0 : Nat) (v1 : Nat) (hv0 : IA v0 1936) (hv1 : IA v1 1936) (s : Int32 × MH) {r} (h : Md_copiesRow_L2 v0 v1 s = some r) : Go m_Md_copiesRow 1 (cH_Md_copiesRow_2 v0 v1 s) (cR_Md_copiesRow_2 v0 v1 r) := Go_itr (fun s o ho => t_Md_copiesRow_l2 v0 v1 s.1 hv0 hv1 s.2 ho) FU s r h
def Md_copiesRow0 (v0 : Nat) (v1 : Nat) (σ : MH) : Option (MH) := (Md_copiesRow_L2 v0 v1 ((0 : Int32), σ)).bind fun z3 => some (z3)
set_option maxRecDepth 20000 in
set_option maxHeartbeats 2000000 in
theorem t_Md_copiesRow0 (v0 : Nat) (v1 : Nat) (hv0 : IA v0 1936) (hv1 : IA v1 1936) (σ : MH) {o} (h : Md_copiesRow0 v0 v1 σ = some o) : Go m_Md_copiesRow 1 (some 0, [some (.ref v0), some (.ref v1), none], [], σ) ((none, [], [], o)) := by
  unfold Md_copiesRow0 at h
  refine Go.t (Go_sg bk_Md_copiesRow 0 2 (c2 := (some 2, [some (.ref v0), some (.ref v1), some (.int (0 : Int32))], [], σ)) (ps := []) rfl trivial) ?_
  obtain ⟨z3, q4, h⟩ := bdS h
  refine Go.t (Go.t (Go.fg (LSub.cs (LSub.cs (LSub.cs (LSub.nil))))) (t_Md_copiesRow_L2 v0 v1 hv0 hv1 _ q4)) ?_
  have h := Option.some.inj h
  subst h
  exact Go.rf
def Md_copiesRow (v0 : Nat) (v1 : Nat) (σ : MH) : Option (MH) := Md_copiesRow0 v0 v1 σ
set_option maxRecDepth 20000 in
set_option maxHeartbeats 2000000 in
theorem ev_Md_copiesRow (v0 : Nat) (v1 : Nat) (hv0 : IA v0 1936) (hv1 : IA v1 1936) (σ : MH) {o} (h : Md_copiesRow v0 v1 σ = some o) : Ev m_Md_copiesRow 1 [.ref v0, .ref v1] σ none o := Ev.of2 (by decide +kernel) rfl (Nat.le_of_ble_eq_true rfl) rfl (t_Md_copiesRow0 v0 v1 hv0 hv1 σ h)
def cH_Md_wedTwos_4  (σ : MH) (s : Int32 × Int32) : MC := (some 4, [some (.ref 166), some (.int s.1), some (.int s.2)], [], σ)
def cR_Md_wedTwos_4  (σ : MH) : ((Int32)) → MC := (fun r : Int32 => ((none, [], [.int r], σ) : MC))
def Md_wedTwos_b29 (v2 : Int32) (s0 : Int32) (s1 : Int32) (σ : MH) : Option (((Int32 × Int32) ⊕ ((Int32)))) := some (.inl (s1 + s0, v2 + (1 : Int32)))
set_option maxRecDepth 20000 in
set_option maxHeartbeats 2000000 in
theorem t_Md_wedTwos_b29 (v2 : Int32) (s0 : Int32) (s1 : Int32)   (σ : MH) {o} (h : Md_wedTwos_b29 v2 s0 s1 σ = some o) : Go m_Md_wedTwos 1 (some 29, [some (.ref 166), none, some (.int v2)], [.int s0, .int s1], σ) (cS (cH_Md_wedTwos_4  σ) (cR_Md_wedTwos_4  σ) o) := by
  unfold Md_wedTwos_b29 at h
  refine Go.t (Go_sg bk_Md_wedTwos 19 4 (c2 := (some 4, [some (.ref 166), some (.int (s1 + s0)), some (.int (v2 + (1 : Int32)))], [], σ)) (ps := []) rfl trivial) ?_
  have h := Option.some.inj h
  subst h
  exact Go.fg (LSub.cs (LSub.cs (LSub.cs (LSub.nil))))
def Md_wedTwos_l4 (v1 : Int32) (v2 : Int32) (σ : MH) : Option (((Int32 × Int32) ⊕ ((Int32)))) := if (12 : Int32) ≤ v2 then some (.inr (v1)) else (if inb ((24 : Int32) + v2) 1936 = true then if σ.1 167 ((24 : Int32) + v2).toNatClampNeg ≤ v2 then (Md_wedTwos_b29 v2 (0 : Int32) v1 σ) else (Md_wedTwos_b29 v2 (1 : Int32) v1 σ) else none)
set_option maxRecDepth 20000 in
set_option maxHeartbeats 2000000 in
theorem t_Md_wedTwos_l4 (v1 : Int32) (v2 : Int32)  (σ : MH) {o} (h : Md_wedTwos_l4 v1 v2 σ = some o) : Go m_Md_wedTwos 1 (cH_Md_wedTwos_4 σ (v1, v2)) (cS (cH_Md_wedTwos_4  σ) (cR_Md_wedTwos_4  σ) o) := by
  unfold Md_wedTwos_l4 at h
  unfold cH_Md_wedTwos_4
  refine Go.t (Go_sg bk_Md_wedTwos 4 2 (c2 := (some 7, [some (.ref 166), some (.int v1), some (.int v2)], [.int (12 : Int32), .int v2], σ)) (ps := []) rfl trivial) ?_
  refine Go_icmp_ge bk_Md_wedTwos 6 rfl (fun c3 => ?_) (fun c3 => ?_)
  · have h := ifT c3 h
    have h := Option.some.inj h
    subst h
    refine Go.t (Go_sg bk_Md_wedTwos 23 1 (c2 := (some 38, [some (.ref 166), some (.int v1), some (.int v2)], [.int v1], σ)) (ps := []) rfl trivial) ?_
    exact Go_reti bk_Md_wedTwos 24 rfl
  · have h := ifF c3 h
    obtain ⟨g1, h⟩ := gdS h
    refine Go.t (Go_sg bk_Md_wedTwos 7 8 (c2 := (some 21, [some (.ref 166), some (.int v1), some (.int v2)], [.int v2, .int (σ.1 167 ((24 : Int32) + v2).toNatClampNeg), .int v1], σ)) (ps := [shk 166 = 11, IA 167 1936 ∧ inb ((24 : Int32) + v2) 1936 = true]) rfl ⟨rfl, ⟨⟨rfl, rfl⟩, g1⟩, trivial⟩) ?_
    refine Go_icmp_le bk_Md_wedTwos 15 rfl (fun c2 => ?_) (fun c2 => ?_)
    · have h := ifT c2 h
      refine Go.t (Go_sg bk_Md_wedTwos 18 1 (c2 := (some 29, [some (.ref 166), some (.int v1), some (.int v2)], [.int (0 : Int32), .int v1], σ)) (ps := []) rfl trivial) ?_
      exact Go.t (Go.fg (LSub.cs (LSub.cn (LSub.cs (LSub.nil))))) (t_Md_wedTwos_b29 v2 (0 : Int32) v1 σ h)
    · have h := ifF c2 h
      refine Go.t (Go_sg bk_Md_wedTwos 16 2 (c2 := (some 29, [some (.ref 166), some (.int v1), some (.int v2)], [.int (1 : Int32), .int v1], σ)) (ps := []) rfl trivial) ?_
      exact Go.t (Go.fg (LSub.cs (LSub.cn (LSub.cs (LSub.nil))))) (t_Md_wedTwos_b29 v2 (1 : Int32) v1 σ h)
def Md_wedTwos_L4  (σ : MH) (s : Int32 × Int32) : Option ((Int32)) := itr (fun s : Int32 × Int32 => Md_wedTwos_l4 s.1 s.2 σ) FU s
set_option maxRecDepth 20000 in
set_option maxHeartbeats 2000000 in
theorem t_Md_wedTwos_L4   (σ : MH) (s : Int32 × Int32) {r} (h : Md_wedTwos_L4 σ s = some r) : Go m_Md_wedTwos 1 (cH_Md_wedTwos_4 σ s) (cR_Md_wedTwos_4 σ r) := Go_itr (fun s o ho => t_Md_wedTwos_l4 s.1 s.2 σ ho) FU s r h
def Md_wedTwos0  (σ : MH) : Option (Int32) := (Md_wedTwos_L4 σ ((0 : Int32), (0 : Int32))).bind fun z4 => some (z4)
set_option maxRecDepth 20000 in
set_option maxHeartbeats 2000000 in
theorem t_Md_wedTwos0   (σ : MH) {o} (h : Md_wedTwos0 σ = some o) : Go m_Md_wedTwos 1 (some 0, [some (.ref 166), none, none], [], σ) ((none, [], [.int o], σ)) := by
  unfold Md_wedTwos0 at h
  refine Go.t (Go_sg bk_Md_wedTwos 0 4 (c2 := (some 4, [some (.ref 166), some (.int (0 : Int32)), some (.int (0 : Int32))], [], σ)) (ps := []) rfl trivial) ?_
  obtain ⟨z4, q5, h⟩ := bdS h
  refine Go.t (Go.t (Go.fg (LSub.cs (LSub.cs (LSub.cs (LSub.nil))))) (t_Md_wedTwos_L4 σ _ q5)) ?_
  have h := Option.some.inj h
  subst h
  exact Go.rf
def Md_wedTwos  (σ : MH) : Option (Int32) := Md_wedTwos0 σ
set_option maxRecDepth 20000 in
set_option maxHeartbeats 2000000 in
theorem ev_Md_wedTwos   (σ : MH) {o} (h : Md_wedTwos σ = some o) : Ev m_Md_wedTwos 1 [.ref 166] σ (some (.int o)) σ := Ev.of2 (by decide +kernel) rfl (Nat.le_of_ble_eq_true rfl) ⟨.int, rfl, rfl⟩ (t_Md_wedTwos0 σ h)
def Md_tried_b160 (s0 : Int32) (σ : MH) : Option (Int32 × MH) := (Md_copiesRow 168 167 σ).bind fun σ15 => some (s0, σ15)
set_option maxRecDepth 20000 in
set_option maxHeartbeats 2000000 in
theorem t_Md_tried_b160 (s0 : Int32)   (σ : MH) {o} (h : Md_tried_b160 s0 σ = some o) : Go m_Md_tried 8 (some 160, [some (.ref 166), none, none, none, none], [.int s0], σ) ((none, [], [.int o.1], o.2)) := by
  unfold Md_tried_b160 at h
  refine Go.t (Go_sg bk_Md_tried 85 5 (c2 := (some 170, [some (.ref 166), none, none, none, some (.int s0)], [.ref 167, .ref 168], σ)) (ps := [shk 166 = 11, shk 166 = 11]) rfl ⟨rfl, rfl, trivial⟩) ?_
  obtain ⟨σ15, q16, h⟩ := bdS h
  refine Go.t (Go_callS bk_Md_tried 90 rfl nk_Md_copiesRow tw1600 tw1601 (as := [.ref 168, .ref 167]) (S := []) rfl rfl rfl (Nat.le_of_ble_eq_true rfl) (Nat.le_of_ble_eq_true rfl) (ev_Md_copiesRow _ _ ⟨rfl, rfl⟩ ⟨rfl, rfl⟩ _ q16)) ?_
  have h := Option.some.inj h
  subst h
  refine Go.t (Go_sg bk_Md_tried 91 1 (c2 := (some 175, [some (.ref 166), none, none, none, some (.int s0)], [.int s0], σ15)) (ps := []) rfl trivial) ?_
  exact Go_reti bk_Md_tried 92 rfl
def Md_tried_b47 (v1 : Int32) (v2 : Int32) (s0 : Int32) (σ : MH) : Option (Int32 × MH) := (Md_in v1 (1 : Int32) (60 : Int32) σ).bind fun x4 => if x4 = (0 : Int32) then some ((-1 : Int32), σ) else (if s0 = (0 : Int32) then some ((-1 : Int32), σ) else ((Md_copiesRow 167 168 σ).bind fun σ8 => (Md_daysGo v1 σ8).bind fun σ11 => if v2 = (0 : Int32) then (Md_tried_b160 (σ11.1 166 31) σ11) else (if v2 = (1 : Int32) then (Md_tried_b160 (σ11.1 166 32) σ11) else (if v2 = (2 : Int32) then (Md_tried_b160 (σ11.1 166 33) σ11) else (if v2 = (3 : Int32) then ((Md_wedTwos σ11).bind fun x19 => Md_tried_b160 x19 σ11) else (if (30 : Int32) ≤ v2 then (if inb (((72 : Int32) + v2) - (30 : Int32)) 1936 = true then Md_tried_b160 (σ11.1 167 (((72 : Int32) + v2) - (30 : Int32)).toNatClampNeg) σ11 else none) else (if inb (((24 : Int32) + v2) - (10 : Int32)) 1936 = true then Md_tried_b160 (σ11.1 167 (((24 : Int32) + v2) - (10 : Int32)).toNatClampNeg) σ11 else none)))))))
set_option maxRecDepth 20000 in
set_option maxHeartbeats 2000000 in
theorem t_Md_tried_b47 (v1 : Int32) (v2 : Int32) (s0 : Int32)   (σ : MH) {o} (h : Md_tried_b47 v1 v2 s0 σ = some o) : Go m_Md_tried 8 (some 47, [some (.ref 166), some (.int v1), some (.int v2), none, none], [.int s0], σ) ((none, [], [.int o.1], o.2)) := by
  unfold Md_tried_b47 at h
  refine Go.t (Go_sg bk_Md_tried 24 4 (c2 := (some 52, [some (.ref 166), some (.int v1), some (.int v2), some (.int s0), none], [.int (60 : Int32), .int (1 : Int32), .int v1], σ)) (ps := []) rfl trivial) ?_
  obtain ⟨x4, q6, h⟩ := bdS h
  refine Go.t (Go_callS bk_Md_tried 28 rfl nk_Md_in tw1370 tw1371 (as := [.int v1, .int (1 : Int32), .int (60 : Int32)]) (S := []) rfl rfl rfl (Nat.le_of_ble_eq_true rfl) (Nat.le_of_ble_eq_true rfl) (ev_Md_in _ _ _ _ q6)) ?_
  refine Go_if_eq bk_Md_tried 29 rfl (fun c27 => ?_) (fun c27 => ?_)
  · have h := ifT c27 h
    have h := Option.some.inj h
    subst h
    refine Go.t (Go_sg bk_Md_tried 32 1 (c2 := (some 63, [some (.ref 166), some (.int v1), some (.int v2), some (.int s0), none], [.int (-1 : Int32)], σ)) (ps := []) rfl trivial) ?_
    exact Go_reti bk_Md_tried 33 rfl
  · have h := ifF c27 h
    refine Go.t (Go_sg bk_Md_tried 30 1 (c2 := (some 59, [some (.ref 166), some (.int v1), some (.int v2), some (.int s0), none], [.int s0], σ)) (ps := []) rfl trivial) ?_
    refine Go_if_ne bk_Md_tried 31 rfl (fun c26 => ?_) (fun c26 => ?_)
    · have h := ifF c26 h
      refine Go.t (Go_sg bk_Md_tried 34 4 (c2 := (some 72, [some (.ref 166), some (.int v1), some (.int v2), some (.int s0), none], [.ref 168, .ref 167], σ)) (ps := [shk 166 = 11, shk 166 = 11]) rfl ⟨rfl, rfl, trivial⟩) ?_
      obtain ⟨σ8, q9, h⟩ := bdS h
      refine Go.t (Go_callS bk_Md_tried 38 rfl nk_Md_copiesRow tw1600 tw1601 (as := [.ref 167, .ref 168]) (S := []) rfl rfl rfl (Nat.le_of_ble_eq_true rfl) (Nat.le_of_ble_eq_true rfl) (ev_Md_copiesRow _ _ ⟨rfl, rfl⟩ ⟨rfl, rfl⟩ _ q9)) ?_
      refine Go.t (Go_sg bk_Md_tried 39 2 (c2 := (some 77, [some (.ref 166), some (.int v1), some (.int v2), some (.int s0), none], [.int v1, .ref 166], σ8)) (ps := []) rfl trivial) ?_
      obtain ⟨σ11, q12, h⟩ := bdS h
      refine Go.t (Go_callV bk_Md_tried 41 rfl nk_Md_daysGo tw1518 tw1520 tw70 (ci := 11) rfl (as := [.int v1]) (S := []) rfl rfl rfl rfl (Nat.le_of_ble_eq_true rfl) (Nat.le_of_ble_eq_true rfl) (ev_Md_daysGo _ _ q12)) ?_
      refine Go.t (Go_sg bk_Md_tried 42 1 (c2 := (some 81, [some (.ref 166), some (.int v1), some (.int v2), some (.int s0), none], [.int v2], σ11)) (ps := []) rfl trivial) ?_
      refine Go_if_ne bk_Md_tried 43 rfl (fun c25 => ?_) (fun c25 => ?_)
      · have h := ifF c25 h
        refine Go.t (Go_sg bk_Md_tried 47 2 (c2 := (some 93, [some (.ref 166), some (.int v1), some (.int v2), some (.int s0), none], [.int (1 : Int32), .int v2], σ11)) (ps := []) rfl trivial) ?_
        refine Go_icmp_ne bk_Md_tried 49 rfl (fun c24 => ?_) (fun c24 => ?_)
        · have h := ifF c24 h
          refine Go.t (Go_sg bk_Md_tried 53 2 (c2 := (some 105, [some (.ref 166), some (.int v1), some (.int v2), some (.int s0), none], [.int (2 : Int32), .int v2], σ11)) (ps := []) rfl trivial) ?_
          refine Go_icmp_ne bk_Md_tried 55 rfl (fun c23 => ?_) (fun c23 => ?_)
          · have h := ifF c23 h
            refine Go.t (Go_sg bk_Md_tried 59 2 (c2 := (some 117, [some (.ref 166), some (.int v1), some (.int v2), some (.int s0), none], [.int (3 : Int32), .int v2], σ11)) (ps := []) rfl trivial) ?_
            refine Go_icmp_ne bk_Md_tried 61 rfl (fun c22 => ?_) (fun c22 => ?_)
            · have h := ifF c22 h
              refine Go.t (Go_sg bk_Md_tried 65 2 (c2 := (some 130, [some (.ref 166), some (.int v1), some (.int v2), some (.int s0), none], [.int (30 : Int32), .int v2], σ11)) (ps := []) rfl trivial) ?_
              refine Go_icmp_ge bk_Md_tried 67 rfl (fun c18 => ?_) (fun c18 => ?_)
              · have h := ifT c18 h
                obtain ⟨g13, h⟩ := gdS h
                refine Go.t (Go_sg bk_Md_tried 77 8 (c2 := (some 160, [some (.ref 166), some (.int v1), some (.int v2), some (.int s0), none], [.int (σ11.1 167 (((72 : Int32) + v2) - (30 : Int32)).toNatClampNeg)], σ11)) (ps := [shk 166 = 11, IA 167 1936 ∧ inb (((72 : Int32) + v2) - (30 : Int32)) 1936 = true]) rfl ⟨rfl, ⟨⟨rfl, rfl⟩, g13⟩, trivial⟩) ?_
                exact Go.t (Go.fg (LSub.cs (LSub.cn (LSub.cn (LSub.cn (LSub.cn (LSub.nil))))))) (t_Md_tried_b160 (σ11.1 167 (((72 : Int32) + v2) - (30 : Int32)).toNatClampNeg) σ11 h)
              · have h := ifF c18 h
                obtain ⟨g17, h⟩ := gdS h
                refine Go.t (Go_sg bk_Md_tried 68 9 (c2 := (some 160, [some (.ref 166), some (.int v1), some (.int v2), some (.int s0), none], [.int (σ11.1 167 (((24 : Int32) + v2) - (10 : Int32)).toNatClampNeg)], σ11)) (ps := [shk 166 = 11, IA 167 1936 ∧ inb (((24 : Int32) + v2) - (10 : Int32)) 1936 = true]) rfl ⟨rfl, ⟨⟨rfl, rfl⟩, g17⟩, trivial⟩) ?_
                exact Go.t (Go.fg (LSub.cs (LSub.cn (LSub.cn (LSub.cn (LSub.cn (LSub.nil))))))) (t_Md_tried_b160 (σ11.1 167 (((24 : Int32) + v2) - (10 : Int32)).toNatClampNeg) σ11 h)
            · have h := ifT c22 h
              refine Go.t (Go_sg bk_Md_tried 62 1 (c2 := (some 121, [some (.ref 166), some (.int v1), some (.int v2), some (.int s0), none], [.ref 166], σ11)) (ps := []) rfl trivial) ?_
              obtain ⟨x19, q21, h⟩ := bdS h
              refine Go.t (Go_callV bk_Md_tried 63 rfl nk_Md_wedTwos tw1603 tw1605 tw86 (ci := 11) rfl (as := []) (S := []) rfl rfl rfl rfl (Nat.le_of_ble_eq_true rfl) (Nat.le_of_ble_eq_true rfl) (ev_Md_wedTwos _ q21)) ?_
              refine Go.t (Go_sg bk_Md_tried 64 1 (c2 := (some 160, [some (.ref 166), some (.int v1), some (.int v2), some (.int s0), none], [.int x19], σ11)) (ps := []) rfl trivial) ?_
              exact Go.t (Go.fg (LSub.cs (LSub.cn (LSub.cn (LSub.cn (LSub.cn (LSub.nil))))))) (t_Md_tried_b160 x19 σ11 h)
          · have h := ifT c23 h
            refine Go.t (Go_sg bk_Md_tried 56 3 (c2 := (some 160, [some (.ref 166), some (.int v1), some (.int v2), some (.int s0), none], [.int (σ11.1 166 33)], σ11)) (ps := [shk 166 = 11]) rfl ⟨rfl, trivial⟩) ?_
            exact Go.t (Go.fg (LSub.cs (LSub.cn (LSub.cn (LSub.cn (LSub.cn (LSub.nil))))))) (t_Md_tried_b160 (σ11.1 166 33) σ11 h)
        · have h := ifT c24 h
          refine Go.t (Go_sg bk_Md_tried 50 3 (c2 := (some 160, [some (.ref 166), some (.int v1), some (.int v2), some (.int s0), none], [.int (σ11.1 166 32)], σ11)) (ps := [shk 166 = 11]) rfl ⟨rfl, trivial⟩) ?_
          exact Go.t (Go.fg (LSub.cs (LSub.cn (LSub.cn (LSub.cn (LSub.cn (LSub.nil))))))) (t_Md_tried_b160 (σ11.1 166 32) σ11 h)
      · have h := ifT c25 h
        refine Go.t (Go_sg bk_Md_tried 44 3 (c2 := (some 160, [some (.ref 166), some (.int v1), some (.int v2), some (.int s0), none], [.int (σ11.1 166 31)], σ11)) (ps := [shk 166 = 11]) rfl ⟨rfl, trivial⟩) ?_
        exact Go.t (Go.fg (LSub.cs (LSub.cn (LSub.cn (LSub.cn (LSub.cn (LSub.nil))))))) (t_Md_tried_b160 (σ11.1 166 31) σ11 h)
    · have h := ifT c26 h
      have h := Option.some.inj h
      subst h
      refine Go.t (Go_sg bk_Md_tried 32 1 (c2 := (some 63, [some (.ref 166), some (.int v1), some (.int v2), some (.int s0), none], [.int (-1 : Int32)], σ)) (ps := []) rfl trivial) ?_
      exact Go_reti bk_Md_tried 33 rfl
def Md_tried_b42 (v1 : Int32) (v2 : Int32) (σ : MH) : Option (Int32 × MH) := Md_tried_b47 v1 v2 (1 : Int32) σ
set_option maxRecDepth 20000 in
set_option maxHeartbeats 2000000 in
theorem t_Md_tried_b42 (v1 : Int32) (v2 : Int32)   (σ : MH) {o} (h : Md_tried_b42 v1 v2 σ = some o) : Go m_Md_tried 8 (some 42, [some (.ref 166), some (.int v1), some (.int v2), none, none], [], σ) ((none, [], [.int o.1], o.2)) := by
  unfold Md_tried_b42 at h
  refine Go.t (Go_sg bk_Md_tried 21 2 (c2 := (some 47, [some (.ref 166), some (.int v1), some (.int v2), none, none], [.int (1 : Int32)], σ)) (ps := []) rfl trivial) ?_
  exact Go.t (Go.fg (LSub.cs (LSub.cs (LSub.cs (LSub.cn (LSub.cn (LSub.nil))))))) (t_Md_tried_b47 v1 v2 (1 : Int32) σ h)
def Md_tried_b31 (v1 : Int32) (v2 : Int32) (σ : MH) : Option (Int32 × MH) := (Md_in v2 (30 : Int32) (41 : Int32) σ).bind fun x31 => if x31 = (0 : Int32) then (Md_tried_b47 v1 v2 (0 : Int32) σ) else (Md_tried_b42 v1 v2 σ)
set_option maxRecDepth 20000 in
set_option maxHeartbeats 2000000 in
theorem t_Md_tried_b31 (v1 : Int32) (v2 : Int32)   (σ : MH) {o} (h : Md_tried_b31 v1 v2 σ = some o) : Go m_Md_tried 8 (some 31, [some (.ref 166), some (.int v1), some (.int v2), none, none], [], σ) ((none, [], [.int o.1], o.2)) := by
  unfold Md_tried_b31 at h
  refine Go.t (Go_sg bk_Md_tried 16 3 (c2 := (some 36, [some (.ref 166), some (.int v1), some (.int v2), none, none], [.int (41 : Int32), .int (30 : Int32), .int v2], σ)) (ps := []) rfl trivial) ?_
  obtain ⟨x31, q33, h⟩ := bdS h
  refine Go.t (Go_callS bk_Md_tried 19 rfl nk_Md_in tw1370 tw1371 (as := [.int v2, .int (30 : Int32), .int (41 : Int32)]) (S := []) rfl rfl rfl (Nat.le_of_ble_eq_true rfl) (Nat.le_of_ble_eq_true rfl) (ev_Md_in _ _ _ _ q33)) ?_
  refine Go_if_eq bk_Md_tried 20 rfl (fun c34 => ?_) (fun c34 => ?_)
  · have h := ifT c34 h
    refine Go.t (Go_sg bk_Md_tried 23 1 (c2 := (some 47, [some (.ref 166), some (.int v1), some (.int v2), none, none], [.int (0 : Int32)], σ)) (ps := []) rfl trivial) ?_
    exact Go.t (Go.fg (LSub.cs (LSub.cs (LSub.cs (LSub.cn (LSub.cn (LSub.nil))))))) (t_Md_tried_b47 v1 v2 (0 : Int32) σ h)
  · have h := ifF c34 h
    exact Go.t (Go.fg (LSub.cs (LSub.cs (LSub.cs (LSub.cn (LSub.cn (LSub.nil))))))) (t_Md_tried_b42 v1 v2 σ h)
def Md_tried0 (v1 : Int32) (v2 : Int32) (σ : MH) : Option (Int32 × MH) := (Md_in v2 (0 : Int32) (3 : Int32) σ).bind fun x1 => if x1 = (0 : Int32) then ((Md_in v2 (10 : Int32) (21 : Int32) σ).bind fun x28 => if x28 = (0 : Int32) then (Md_tried_b31 v1 v2 σ) else ((Md_isPerson (v2 - (10 : Int32)) σ).bind fun x35 => if x35 = (0 : Int32) then (Md_tried_b31 v1 v2 σ) else (Md_tried_b42 v1 v2 σ))) else (Md_tried_b42 v1 v2 σ)
set_option maxRecDepth 20000 in
set_option maxHeartbeats 2000000 in
theorem t_Md_tried0 (v1 : Int32) (v2 : Int32)  (σ : MH) {o} (h : Md_tried0 v1 v2 σ = some o) : Go m_Md_tried 8 (some 0, [some (.ref 166), some (.int v1), some (.int v2), none, none], [], σ) ((none, [], [.int o.1], o.2)) := by
  unfold Md_tried0 at h
  refine Go.t (Go_sg bk_Md_tried 0 3 (c2 := (some 3, [some (.ref 166), some (.int v1), some (.int v2), none, none], [.int (3 : Int32), .int (0 : Int32), .int v2], σ)) (ps := []) rfl trivial) ?_
  obtain ⟨x1, q3, h⟩ := bdS h
  refine Go.t (Go_callS bk_Md_tried 3 rfl nk_Md_in tw1370 tw1371 (as := [.int v2, .int (0 : Int32), .int (3 : Int32)]) (S := []) rfl rfl rfl (Nat.le_of_ble_eq_true rfl) (Nat.le_of_ble_eq_true rfl) (ev_Md_in _ _ _ _ q3)) ?_
  refine Go_if_ne bk_Md_tried 4 rfl (fun c40 => ?_) (fun c40 => ?_)
  · have h := ifF c40 h
    exact Go.t (Go.fg (LSub.cs (LSub.cs (LSub.cs (LSub.cn (LSub.cn (LSub.nil))))))) (t_Md_tried_b42 v1 v2 σ h)
  · have h := ifT c40 h
    refine Go.t (Go_sg bk_Md_tried 5 3 (c2 := (some 14, [some (.ref 166), some (.int v1), some (.int v2), none, none], [.int (21 : Int32), .int (10 : Int32), .int v2], σ)) (ps := []) rfl trivial) ?_
    obtain ⟨x28, q30, h⟩ := bdS h
    refine Go.t (Go_callS bk_Md_tried 8 rfl nk_Md_in tw1370 tw1371 (as := [.int v2, .int (10 : Int32), .int (21 : Int32)]) (S := []) rfl rfl rfl (Nat.le_of_ble_eq_true rfl) (Nat.le_of_ble_eq_true rfl) (ev_Md_in _ _ _ _ q30)) ?_
    refine Go_if_eq bk_Md_tried 9 rfl (fun c39 => ?_) (fun c39 => ?_)
    · have h := ifT c39 h
      exact Go.t (Go.fg (LSub.cs (LSub.cs (LSub.cs (LSub.cn (LSub.cn (LSub.nil))))))) (t_Md_tried_b31 v1 v2 σ h)
    · have h := ifF c39 h
      refine Go.t (Go_sg bk_Md_tried 10 4 (c2 := (some 25, [some (.ref 166), some (.int v1), some (.int v2), none, none], [.int (v2 - (10 : Int32)), .ref 166], σ)) (ps := []) rfl trivial) ?_
      obtain ⟨x35, q37, h⟩ := bdS h
      refine Go.t (Go_callV bk_Md_tried 14 rfl nk_Md_isPerson tw1363 tw1365 tw44 (ci := 11) rfl (as := [.int (v2 - (10 : Int32))]) (S := []) rfl rfl rfl rfl (Nat.le_of_ble_eq_true rfl) (Nat.le_of_ble_eq_true rfl) (ev_Md_isPerson _ _ q37)) ?_
      refine Go_if_ne bk_Md_tried 15 rfl (fun c38 => ?_) (fun c38 => ?_)
      · have h := ifF c38 h
        exact Go.t (Go.fg (LSub.cs (LSub.cs (LSub.cs (LSub.cn (LSub.cn (LSub.nil))))))) (t_Md_tried_b42 v1 v2 σ h)
      · have h := ifT c38 h
        exact Go.t (Go.fg (LSub.cs (LSub.cs (LSub.cs (LSub.cn (LSub.cn (LSub.nil))))))) (t_Md_tried_b31 v1 v2 σ h)
def Md_tried (v1 : Int32) (v2 : Int32) (σ : MH) : Option (Int32 × MH) := Md_tried0 v1 v2 σ
set_option maxRecDepth 20000 in
set_option maxHeartbeats 2000000 in
theorem ev_Md_tried (v1 : Int32) (v2 : Int32)  (σ : MH) {o} (h : Md_tried v1 v2 σ = some o) : Ev m_Md_tried 8 [.ref 166, .int v1, .int v2] σ (some (.int o.1)) o.2 := Ev.of2 (by decide +kernel) rfl (Nat.le_of_ble_eq_true rfl) ⟨.int, rfl, rfl⟩ (t_Md_tried0 v1 v2 σ h)
def cH_Md_fitting_4 (v1 : Int32) (s : Int32 × Int32 × MH) : MC := (some 4, [some (.ref 166), some (.int v1), some (.int s.1), some (.int s.2.1)], [], s.2.2)
def cR_Md_fitting_4 (v1 : Int32) : ((Int32 × MH)) → MC := (fun r : Int32 × MH => ((none, [], [.int r.1], r.2) : MC))
def Md_fitting_b38 (v1 : Int32) (v2 : Int32) (v3 : Int32) (σ : MH) : Option (((Int32 × Int32 × MH) ⊕ ((Int32 × MH)))) := some (.inl (v2, v3 + (1 : Int32), σ))
set_option maxRecDepth 20000 in
set_option maxHeartbeats 2000000 in
theorem t_Md_fitting_b38 (v1 : Int32) (v2 : Int32) (v3 : Int32)   (σ : MH) {o} (h : Md_fitting_b38 v1 v2 v3 σ = some o) : Go m_Md_fitting 6 (some 38, [some (.ref 166), some (.int v1), some (.int v2), some (.int v3)], [], σ) (cS (cH_Md_fitting_4 v1) (cR_Md_fitting_4 v1) o) := by
  unfold Md_fitting_b38 at h
  refine Go.t (Go_sg bk_Md_fitting 25 2 (c2 := (some 4, [some (.ref 166), some (.int v1), some (.int v2), some (.int (v3 + (1 : Int32)))], [], σ)) (ps := []) rfl trivial) ?_
  have h := Option.some.inj h
  subst h
  exact Go.fg (LSub.cs (LSub.cs (LSub.cs (LSub.cs (LSub.nil)))))
def Md_fitting_l4 (v1 : Int32) (v2 : Int32) (v3 : Int32) (σ : MH) : Option (((Int32 × Int32 × MH) ⊕ ((Int32 × MH)))) := if (12 : Int32) ≤ v3 then some (.inr (v2, σ)) else (if v3 = v1 then (Md_fitting_b38 v1 v2 v3 σ) else ((Md_lives v3 σ).bind fun x1 => if x1 = (0 : Int32) then (Md_fitting_b38 v1 v2 v3 σ) else ((Md_fit v1 v3 σ).bind fun (x4, σ5) => if x4 = (0 : Int32) then (Md_fitting_b38 v1 v2 v3 σ5) else (Md_fitting_b38 v1 (v2 ||| (jshl (1 : Int32) v3)) v3 σ5))))
set_option maxRecDepth 20000 in
set_option maxHeartbeats 2000000 in
theorem t_Md_fitting_l4 (v1 : Int32) (v2 : Int32) (v3 : Int32)  (σ : MH) {o} (h : Md_fitting_l4 v1 v2 v3 σ = some o) : Go m_Md_fitting 6 (cH_Md_fitting_4 v1 (v2, v3, σ)) (cS (cH_Md_fitting_4 v1) (cR_Md_fitting_4 v1) o) := by
  unfold Md_fitting_l4 at h
  unfold cH_Md_fitting_4
  refine Go.t (Go_sg bk_Md_fitting 4 2 (c2 := (some 7, [some (.ref 166), some (.int v1), some (.int v2), some (.int v3)], [.int (12 : Int32), .int v3], σ)) (ps := []) rfl trivial) ?_
  refine Go_icmp_ge bk_Md_fitting 6 rfl (fun c10 => ?_) (fun c10 => ?_)
  · have h := ifT c10 h
    have h := Option.some.inj h
    subst h
    refine Go.t (Go_sg bk_Md_fitting 27 1 (c2 := (some 45, [some (.ref 166), some (.int v1), some (.int v2), some (.int v3)], [.int v2], σ)) (ps := []) rfl trivial) ?_
    exact Go_reti bk_Md_fitting 28 rfl
  · have h := ifF c10 h
    refine Go.t (Go_sg bk_Md_fitting 7 2 (c2 := (some 12, [some (.ref 166), some (.int v1), some (.int v2), some (.int v3)], [.int v1, .int v3], σ)) (ps := []) rfl trivial) ?_
    refine Go_icmp_eq bk_Md_fitting 9 rfl (fun c9 => ?_) (fun c9 => ?_)
    · have h := ifT c9 h
      exact Go.t (Go.fg (LSub.cs (LSub.cs (LSub.cs (LSub.cs (LSub.nil)))))) (t_Md_fitting_b38 v1 v2 v3 σ h)
    · have h := ifF c9 h
      refine Go.t (Go_sg bk_Md_fitting 10 2 (c2 := (some 17, [some (.ref 166), some (.int v1), some (.int v2), some (.int v3)], [.int v3, .ref 166], σ)) (ps := []) rfl trivial) ?_
      obtain ⟨x1, q3, h⟩ := bdS h
      refine Go.t (Go_callV bk_Md_fitting 12 rfl nk_Md_lives tw1381 tw1383 tw45 (ci := 11) rfl (as := [.int v3]) (S := []) rfl rfl rfl rfl (Nat.le_of_ble_eq_true rfl) (Nat.le_of_ble_eq_true rfl) (ev_Md_lives _ _ q3)) ?_
      refine Go_if_eq bk_Md_fitting 13 rfl (fun c8 => ?_) (fun c8 => ?_)
      · have h := ifT c8 h
        exact Go.t (Go.fg (LSub.cs (LSub.cs (LSub.cs (LSub.cs (LSub.nil)))))) (t_Md_fitting_b38 v1 v2 v3 σ h)
      · have h := ifF c8 h
        refine Go.t (Go_sg bk_Md_fitting 14 3 (c2 := (some 26, [some (.ref 166), some (.int v1), some (.int v2), some (.int v3)], [.int v3, .int v1, .ref 166], σ)) (ps := []) rfl trivial) ?_
        obtain ⟨⟨x4, σ5⟩, q6, h⟩ := bdS h
        dsimp only at h
        refine Go.t (Go_callV bk_Md_fitting 17 rfl nk_Md_fit tw1534 tw1536 tw74 (ci := 11) rfl (as := [.int v1, .int v3]) (S := []) rfl rfl rfl rfl (Nat.le_of_ble_eq_true rfl) (Nat.le_of_ble_eq_true rfl) (ev_Md_fit _ _ _ q6)) ?_
        refine Go_if_eq bk_Md_fitting 18 rfl (fun c7 => ?_) (fun c7 => ?_)
        · have h := ifT c7 h
          exact Go.t (Go.fg (LSub.cs (LSub.cs (LSub.cs (LSub.cs (LSub.nil)))))) (t_Md_fitting_b38 v1 v2 v3 σ5 h)
        · have h := ifF c7 h
          refine Go.t (Go_sg bk_Md_fitting 19 6 (c2 := (some 38, [some (.ref 166), some (.int v1), some (.int (v2 ||| (jshl (1 : Int32) v3))), some (.int v3)], [], σ5)) (ps := []) rfl trivial) ?_
          exact Go.t (Go.fg (LSub.cs (LSub.cs (LSub.cs (LSub.cs (LSub.nil)))))) (t_Md_fitting_b38 v1 (v2 ||| (jshl (1 : Int32) v3)) v3 σ5 h)
def Md_fitting_L4 (v1 : Int32) (s : Int32 × Int32 × MH) : Option ((Int32 × MH)) := itr (fun s : Int32 × Int32 × MH => Md_fitting_l4 v1 s.1 s.2.1 s.2.2) FU s
set_option maxRecDepth 20000 in
set_option maxHeartbeats 2000000 in
theorem t_Md_fitting_L4 (v1 : Int32)  (s : Int32 × Int32 × MH) {r} (h : Md_fitting_L4 v1 s = some r) : Go m_Md_fitting 6 (cH_Md_fitting_4 v1 s) (cR_Md_fitting_4 v1 r) := Go_itr (fun s o ho => t_Md_fitting_l4 v1 s.1 s.2.1 s.2.2 ho) FU s r h
def Md_fitting0 (v1 : Int32) (σ : MH) : Option (Int32 × MH) := (Md_fitting_L4 v1 ((0 : Int32), (0 : Int32), σ)).bind fun z11 => some (z11.1, z11.2)
set_option maxRecDepth 20000 in
set_option maxHeartbeats 2000000 in
theorem t_Md_fitting0 (v1 : Int32)  (σ : MH) {o} (h : Md_fitting0 v1 σ = some o) : Go m_Md_fitting 6 (some 0, [some (.ref 166), some (.int v1), none, none], [], σ) ((none, [], [.int o.1], o.2)) := by
  unfold Md_fitting0 at h
  refine Go.t (Go_sg bk_Md_fitting 0 4 (c2 := (some 4, [some (.ref 166), some (.int v1), some (.int (0 : Int32)), some (.int (0 : Int32))], [], σ)) (ps := []) rfl trivial) ?_
  obtain ⟨z11, q12, h⟩ := bdS h
  refine Go.t (Go.t (Go.fg (LSub.cs (LSub.cs (LSub.cs (LSub.cs (LSub.nil)))))) (t_Md_fitting_L4 v1 _ q12)) ?_
  have h := Option.some.inj h
  subst h
  exact Go.rf
def Md_fitting (v1 : Int32) (σ : MH) : Option (Int32 × MH) := Md_fitting0 v1 σ
set_option maxRecDepth 20000 in
set_option maxHeartbeats 2000000 in
theorem ev_Md_fitting (v1 : Int32)  (σ : MH) {o} (h : Md_fitting v1 σ = some o) : Ev m_Md_fitting 6 [.ref 166, .int v1] σ (some (.int o.1)) o.2 := Ev.of2 (by decide +kernel) rfl (Nat.le_of_ble_eq_true rfl) ⟨.int, rfl, rfl⟩ (t_Md_fitting0 v1 σ h)
set_option maxRecDepth 20000 in
set_option maxHeartbeats 2000000 in
theorem dt_Md_personIs_11 : decode m_Md_personIs.2.1 11 = .ok (.tableswitch 148 0 8 #[49, 58, 68, 78, 88, 102, 112, 118, 138], 49) := by decide +kernel
def Md_personIs0 (v1 : Int32) (v2 : Int32) (σ : MH) : Option (Int32 × MH) := (Md_isPerson v1 σ).bind fun x1 => if x1 = (0 : Int32) then some ((-1 : Int32), σ) else (if v2 = (0 : Int32) then (if inb ((0 : Int32) + v1) 1936 = true then some (σ.1 167 ((0 : Int32) + v1).toNatClampNeg, σ) else none) else if v2 = (1 : Int32) then (if inb ((12 : Int32) + v1) 1936 = true then some (σ.1 167 ((12 : Int32) + v1).toNatClampNeg, σ) else none) else if v2 = (2 : Int32) then (if inb ((24 : Int32) + v1) 1936 = true then some (σ.1 167 ((24 : Int32) + v1).toNatClampNeg, σ) else none) else if v2 = (3 : Int32) then (if inb ((36 : Int32) + v1) 1936 = true then some (σ.1 167 ((36 : Int32) + v1).toNatClampNeg, σ) else none) else if v2 = (4 : Int32) then ((Md_lives v1 σ).bind fun x12 => if x12 = (0 : Int32) then some ((0 : Int32), σ) else some ((1 : Int32), σ)) else if v2 = (5 : Int32) then (if inb ((48 : Int32) + v1) 1936 = true then some (σ.1 167 ((48 : Int32) + v1).toNatClampNeg, σ) else none) else if v2 = (6 : Int32) then ((Md_fitting v1 σ).bind fun (x19, σ20) => some (x19, σ20)) else if v2 = (7 : Int32) then (if inb ((96 : Int32) + v1) 1936 = true then if inb ((84 : Int32) + v1) 1936 = true then some ((σ.1 167 ((96 : Int32) + v1).toNatClampNeg) - (σ.1 167 ((84 : Int32) + v1).toNatClampNeg), σ) else none else none) else if v2 = (8 : Int32) then (if inb ((60 : Int32) + v1) 1936 = true then some (σ.1 167 ((60 : Int32) + v1).toNatClampNeg, σ) else none) else some ((-1 : Int32), σ))
set_option maxRecDepth 20000 in
set_option maxHeartbeats 2000000 in
theorem t_Md_personIs0 (v1 : Int32) (v2 : Int32)  (σ : MH) {o} (h : Md_personIs0 v1 v2 σ = some o) : Go m_Md_personIs 7 (some 0, [some (.ref 166), some (.int v1), some (.int v2)], [], σ) ((none, [], [.int o.1], o.2)) := by
  unfold Md_personIs0 at h
  refine Go.t (Go_sg bk_Md_personIs 0 2 (c2 := (some 2, [some (.ref 166), some (.int v1), some (.int v2)], [.int v1, .ref 166], σ)) (ps := []) rfl trivial) ?_
  obtain ⟨x1, q3, h⟩ := bdS h
  refine Go.t (Go_callV bk_Md_personIs 2 rfl nk_Md_isPerson tw1363 tw1365 tw44 (ci := 11) rfl (as := [.int v1]) (S := []) rfl rfl rfl rfl (Nat.le_of_ble_eq_true rfl) (Nat.le_of_ble_eq_true rfl) (ev_Md_isPerson _ _ q3)) ?_
  refine Go_if_ne bk_Md_personIs 3 rfl (fun c28 => ?_) (fun c28 => ?_)
  · have h := ifF c28 h
    refine Go.t (Go_sg bk_Md_personIs 6 1 (c2 := (some 11, [some (.ref 166), some (.int v1), some (.int v2)], [.int v2], σ)) (ps := []) rfl trivial) ?_
    by_cases c5 : v2 = (0 : Int32)
    · have h := ifT c5 h
      refine Go.t (Go_tsi dt_Md_personIs_11 (tsw_in c5 0 8 rfl).1 (tsw_in c5 0 8 rfl).2 (by rw [c5]; rfl) (tgt := 60) (by decide)) ?_
      obtain ⟨g4, h⟩ := gdS h
      have h := Option.some.inj h
      subst h
      refine Go.t (Go_sg bk_Md_personIs 7 6 (c2 := (some 68, [some (.ref 166), some (.int v1), some (.int v2)], [.int (σ.1 167 ((0 : Int32) + v1).toNatClampNeg)], σ)) (ps := [shk 166 = 11, IA 167 1936 ∧ inb ((0 : Int32) + v1) 1936 = true]) rfl ⟨rfl, ⟨⟨rfl, rfl⟩, g4⟩, trivial⟩) ?_
      exact Go_reti bk_Md_personIs 13 rfl
    have h := ifF c5 h
    by_cases c7 : v2 = (1 : Int32)
    · have h := ifT c7 h
      refine Go.t (Go_tsi dt_Md_personIs_11 (tsw_in c7 0 8 rfl).1 (tsw_in c7 0 8 rfl).2 (by rw [c7]; rfl) (tgt := 69) (by decide)) ?_
      obtain ⟨g6, h⟩ := gdS h
      have h := Option.some.inj h
      subst h
      refine Go.t (Go_sg bk_Md_personIs 14 6 (c2 := (some 78, [some (.ref 166), some (.int v1), some (.int v2)], [.int (σ.1 167 ((12 : Int32) + v1).toNatClampNeg)], σ)) (ps := [shk 166 = 11, IA 167 1936 ∧ inb ((12 : Int32) + v1) 1936 = true]) rfl ⟨rfl, ⟨⟨rfl, rfl⟩, g6⟩, trivial⟩) ?_
      exact Go_reti bk_Md_personIs 20 rfl
    have h := ifF c7 h
    by_cases c9 : v2 = (2 : Int32)
    · have h := ifT c9 h
      refine Go.t (Go_tsi dt_Md_personIs_11 (tsw_in c9 0 8 rfl).1 (tsw_in c9 0 8 rfl).2 (by rw [c9]; rfl) (tgt := 79) (by decide)) ?_
      obtain ⟨g8, h⟩ := gdS h
      have h := Option.some.inj h
      subst h
      refine Go.t (Go_sg bk_Md_personIs 21 6 (c2 := (some 88, [some (.ref 166), some (.int v1), some (.int v2)], [.int (σ.1 167 ((24 : Int32) + v1).toNatClampNeg)], σ)) (ps := [shk 166 = 11, IA 167 1936 ∧ inb ((24 : Int32) + v1) 1936 = true]) rfl ⟨rfl, ⟨⟨rfl, rfl⟩, g8⟩, trivial⟩) ?_
      exact Go_reti bk_Md_personIs 27 rfl
    have h := ifF c9 h
    by_cases c11 : v2 = (3 : Int32)
    · have h := ifT c11 h
      refine Go.t (Go_tsi dt_Md_personIs_11 (tsw_in c11 0 8 rfl).1 (tsw_in c11 0 8 rfl).2 (by rw [c11]; rfl) (tgt := 89) (by decide)) ?_
      obtain ⟨g10, h⟩ := gdS h
      have h := Option.some.inj h
      subst h
      refine Go.t (Go_sg bk_Md_personIs 28 6 (c2 := (some 98, [some (.ref 166), some (.int v1), some (.int v2)], [.int (σ.1 167 ((36 : Int32) + v1).toNatClampNeg)], σ)) (ps := [shk 166 = 11, IA 167 1936 ∧ inb ((36 : Int32) + v1) 1936 = true]) rfl ⟨rfl, ⟨⟨rfl, rfl⟩, g10⟩, trivial⟩) ?_
      exact Go_reti bk_Md_personIs 34 rfl
    have h := ifF c11 h
    by_cases c16 : v2 = (4 : Int32)
    · have h := ifT c16 h
      refine Go.t (Go_tsi dt_Md_personIs_11 (tsw_in c16 0 8 rfl).1 (tsw_in c16 0 8 rfl).2 (by rw [c16]; rfl) (tgt := 99) (by decide)) ?_
      refine Go.t (Go_sg bk_Md_personIs 35 2 (c2 := (some 101, [some (.ref 166), some (.int v1), some (.int v2)], [.int v1, .ref 166], σ)) (ps := []) rfl trivial) ?_
      obtain ⟨x12, q14, h⟩ := bdS h
      refine Go.t (Go_callV bk_Md_personIs 37 rfl nk_Md_lives tw1381 tw1383 tw45 (ci := 11) rfl (as := [.int v1]) (S := []) rfl rfl rfl rfl (Nat.le_of_ble_eq_true rfl) (Nat.le_of_ble_eq_true rfl) (ev_Md_lives _ _ q14)) ?_
      refine Go_if_eq bk_Md_personIs 38 rfl (fun c15 => ?_) (fun c15 => ?_)
      · have h := ifT c15 h
        have h := Option.some.inj h
        subst h
        refine Go.t (Go_sg bk_Md_personIs 41 1 (c2 := (some 112, [some (.ref 166), some (.int v1), some (.int v2)], [.int (0 : Int32)], σ)) (ps := []) rfl trivial) ?_
        exact Go_reti bk_Md_personIs 42 rfl
      · have h := ifF c15 h
        refine Go.t (Go_sg bk_Md_personIs 39 2 (c2 := (some 112, [some (.ref 166), some (.int v1), some (.int v2)], [.int (1 : Int32)], σ)) (ps := []) rfl trivial) ?_
        have h := Option.some.inj h
        subst h
        exact Go_reti bk_Md_personIs 42 rfl
    have h := ifF c16 h
    by_cases c18 : v2 = (5 : Int32)
    · have h := ifT c18 h
      refine Go.t (Go_tsi dt_Md_personIs_11 (tsw_in c18 0 8 rfl).1 (tsw_in c18 0 8 rfl).2 (by rw [c18]; rfl) (tgt := 113) (by decide)) ?_
      obtain ⟨g17, h⟩ := gdS h
      have h := Option.some.inj h
      subst h
      refine Go.t (Go_sg bk_Md_personIs 43 6 (c2 := (some 122, [some (.ref 166), some (.int v1), some (.int v2)], [.int (σ.1 167 ((48 : Int32) + v1).toNatClampNeg)], σ)) (ps := [shk 166 = 11, IA 167 1936 ∧ inb ((48 : Int32) + v1) 1936 = true]) rfl ⟨rfl, ⟨⟨rfl, rfl⟩, g17⟩, trivial⟩) ?_
      exact Go_reti bk_Md_personIs 49 rfl
    have h := ifF c18 h
    by_cases c22 : v2 = (6 : Int32)
    · have h := ifT c22 h
      refine Go.t (Go_tsi dt_Md_personIs_11 (tsw_in c22 0 8 rfl).1 (tsw_in c22 0 8 rfl).2 (by rw [c22]; rfl) (tgt := 123) (by decide)) ?_
      refine Go.t (Go_sg bk_Md_personIs 50 2 (c2 := (some 125, [some (.ref 166), some (.int v1), some (.int v2)], [.int v1, .ref 166], σ)) (ps := []) rfl trivial) ?_
      obtain ⟨⟨x19, σ20⟩, q21, h⟩ := bdS h
      dsimp only at h
      refine Go.t (Go_callV bk_Md_personIs 52 rfl nk_Md_fitting tw1611 tw1613 tw87 (ci := 11) rfl (as := [.int v1]) (S := []) rfl rfl rfl rfl (Nat.le_of_ble_eq_true rfl) (Nat.le_of_ble_eq_true rfl) (ev_Md_fitting _ _ q21)) ?_
      have h := Option.some.inj h
      subst h
      exact Go_reti bk_Md_personIs 53 rfl
    have h := ifF c22 h
    by_cases c25 : v2 = (7 : Int32)
    · have h := ifT c25 h
      refine Go.t (Go_tsi dt_Md_personIs_11 (tsw_in c25 0 8 rfl).1 (tsw_in c25 0 8 rfl).2 (by rw [c25]; rfl) (tgt := 129) (by decide)) ?_
      obtain ⟨g23, h⟩ := gdS h
      obtain ⟨g24, h⟩ := gdS h
      have h := Option.some.inj h
      subst h
      refine Go.t (Go_sg bk_Md_personIs 54 13 (c2 := (some 148, [some (.ref 166), some (.int v1), some (.int v2)], [.int ((σ.1 167 ((96 : Int32) + v1).toNatClampNeg) - (σ.1 167 ((84 : Int32) + v1).toNatClampNeg))], σ)) (ps := [shk 166 = 11, IA 167 1936 ∧ inb ((96 : Int32) + v1) 1936 = true, shk 166 = 11, IA 167 1936 ∧ inb ((84 : Int32) + v1) 1936 = true]) rfl ⟨rfl, ⟨⟨rfl, rfl⟩, g23⟩, rfl, ⟨⟨rfl, rfl⟩, g24⟩, trivial⟩) ?_
      exact Go_reti bk_Md_personIs 67 rfl
    have h := ifF c25 h
    by_cases c27 : v2 = (8 : Int32)
    · have h := ifT c27 h
      refine Go.t (Go_tsi dt_Md_personIs_11 (tsw_in c27 0 8 rfl).1 (tsw_in c27 0 8 rfl).2 (by rw [c27]; rfl) (tgt := 149) (by decide)) ?_
      obtain ⟨g26, h⟩ := gdS h
      have h := Option.some.inj h
      subst h
      refine Go.t (Go_sg bk_Md_personIs 68 6 (c2 := (some 158, [some (.ref 166), some (.int v1), some (.int v2)], [.int (σ.1 167 ((60 : Int32) + v1).toNatClampNeg)], σ)) (ps := [shk 166 = 11, IA 167 1936 ∧ inb ((60 : Int32) + v1) 1936 = true]) rfl ⟨rfl, ⟨⟨rfl, rfl⟩, g26⟩, trivial⟩) ?_
      exact Go_reti bk_Md_personIs 74 rfl
    have h := ifF c27 h
    have hdf : Go m_Md_personIs 7 (some 11, [some (.ref 166), some (.int v1), some (.int v2)], [.int v2], σ) (some 159, [some (.ref 166), some (.int v1), some (.int v2)], [], σ) := by
      by_cases hlo : v2.toInt < 0
      · exact Go_tso dt_Md_personIs_11 (Or.inl hlo) (by decide)
      · by_cases hhi : 8 < v2.toInt
        · exact Go_tso dt_Md_personIs_11 (Or.inr hhi) (by decide)
        · exact absurd (tsw_all v2 0 8 [0, 1, 2, 3, 4, 5, 6, 7, 8] (by decide) hlo hhi) (fun q => by simp only [List.mem_cons, List.not_mem_nil, or_false] at q; rcases q with q | q | q | q | q | q | q | q | q <;> contradiction)
    refine Go.t hdf ?_
    have h := Option.some.inj h
    subst h
    refine Go.t (Go_sg bk_Md_personIs 75 1 (c2 := (some 160, [some (.ref 166), some (.int v1), some (.int v2)], [.int (-1 : Int32)], σ)) (ps := []) rfl trivial) ?_
    exact Go_reti bk_Md_personIs 76 rfl
  · have h := ifT c28 h
    have h := Option.some.inj h
    subst h
    refine Go.t (Go_sg bk_Md_personIs 4 1 (c2 := (some 9, [some (.ref 166), some (.int v1), some (.int v2)], [.int (-1 : Int32)], σ)) (ps := []) rfl trivial) ?_
    exact Go_reti bk_Md_personIs 5 rfl
def Md_personIs (v1 : Int32) (v2 : Int32) (σ : MH) : Option (Int32 × MH) := Md_personIs0 v1 v2 σ
set_option maxRecDepth 20000 in
set_option maxHeartbeats 2000000 in
theorem ev_Md_personIs (v1 : Int32) (v2 : Int32)  (σ : MH) {o} (h : Md_personIs v1 v2 σ = some o) : Ev m_Md_personIs 7 [.ref 166, .int v1, .int v2] σ (some (.int o.1)) o.2 := Ev.of2 (by decide +kernel) rfl (Nat.le_of_ble_eq_true rfl) ⟨.int, rfl, rfl⟩ (t_Md_personIs0 v1 v2 σ h)
def cH_Md_piece_51 (v1 : Int32) (σ : MH) (s : Int32) : MC := (some 51, [some (.ref 166), some (.int v1), none, some (.int s)], [], σ)
def cR_Md_piece_51 (v1 : Int32) (σ : MH) : ((Int32)) → MC := (fun r : Int32 => ((none, [], [.int r], σ) : MC))
def Md_piece_b83 (v1 : Int32) (v3 : Int32) (σ : MH) : Option (((Int32) ⊕ ((Int32)))) := some (.inl (v3 + (1 : Int32)))
set_option maxRecDepth 20000 in
set_option maxHeartbeats 2000000 in
theorem t_Md_piece_b83 (v1 : Int32) (v3 : Int32)   (σ : MH) {o} (h : Md_piece_b83 v1 v3 σ = some o) : Go m_Md_piece 4 (some 83, [some (.ref 166), some (.int v1), none, some (.int v3)], [], σ) (cS (cH_Md_piece_51 v1 σ) (cR_Md_piece_51 v1 σ) o) := by
  unfold Md_piece_b83 at h
  refine Go.t (Go_sg bk_Md_piece 48 2 (c2 := (some 51, [some (.ref 166), some (.int v1), none, some (.int (v3 + (1 : Int32)))], [], σ)) (ps := []) rfl trivial) ?_
  have h := Option.some.inj h
  subst h
  exact Go.fg (LSub.cs (LSub.cs (LSub.cn (LSub.cs (LSub.nil)))))
def Md_piece_l51 (v1 : Int32) (v3 : Int32) (σ : MH) : Option (((Int32) ⊕ ((Int32)))) := if (12 : Int32) ≤ v3 then some (.inr ((-2 : Int32))) else ((Md_lives v3 σ).bind fun x7 => if x7 = (0 : Int32) then (Md_piece_b83 v1 v3 σ) else (if inb ((48 : Int32) + v3) 1936 = true then (Md_has (σ.1 167 ((48 : Int32) + v3).toNatClampNeg) v1 σ).bind fun x11 => if x11 = (0 : Int32) then (Md_piece_b83 v1 v3 σ) else some (.inr (v3)) else none))
set_option maxRecDepth 20000 in
set_option maxHeartbeats 2000000 in
theorem t_Md_piece_l51 (v1 : Int32) (v3 : Int32)  (σ : MH) {o} (h : Md_piece_l51 v1 v3 σ = some o) : Go m_Md_piece 4 (cH_Md_piece_51 v1 σ (v3)) (cS (cH_Md_piece_51 v1 σ) (cR_Md_piece_51 v1 σ) o) := by
  unfold Md_piece_l51 at h
  unfold cH_Md_piece_51
  refine Go.t (Go_sg bk_Md_piece 30 2 (c2 := (some 54, [some (.ref 166), some (.int v1), none, some (.int v3)], [.int (12 : Int32), .int v3], σ)) (ps := []) rfl trivial) ?_
  refine Go_icmp_ge bk_Md_piece 32 rfl (fun c16 => ?_) (fun c16 => ?_)
  · have h := ifT c16 h
    have h := Option.some.inj h
    subst h
    refine Go.t (Go_sg bk_Md_piece 50 1 (c2 := (some 91, [some (.ref 166), some (.int v1), none, some (.int v3)], [.int (-2 : Int32)], σ)) (ps := []) rfl trivial) ?_
    exact Go_reti bk_Md_piece 51 rfl
  · have h := ifF c16 h
    refine Go.t (Go_sg bk_Md_piece 33 2 (c2 := (some 59, [some (.ref 166), some (.int v1), none, some (.int v3)], [.int v3, .ref 166], σ)) (ps := []) rfl trivial) ?_
    obtain ⟨x7, q9, h⟩ := bdS h
    refine Go.t (Go_callV bk_Md_piece 35 rfl nk_Md_lives tw1381 tw1383 tw45 (ci := 11) rfl (as := [.int v3]) (S := []) rfl rfl rfl rfl (Nat.le_of_ble_eq_true rfl) (Nat.le_of_ble_eq_true rfl) (ev_Md_lives _ _ q9)) ?_
    refine Go_if_eq bk_Md_piece 36 rfl (fun c15 => ?_) (fun c15 => ?_)
    · have h := ifT c15 h
      exact Go.t (Go.fg (LSub.cs (LSub.cs (LSub.cn (LSub.cs (LSub.nil)))))) (t_Md_piece_b83 v1 v3 σ h)
    · have h := ifF c15 h
      obtain ⟨g10, h⟩ := gdS h
      refine Go.t (Go_sg bk_Md_piece 37 7 (c2 := (some 75, [some (.ref 166), some (.int v1), none, some (.int v3)], [.int v1, .int (σ.1 167 ((48 : Int32) + v3).toNatClampNeg)], σ)) (ps := [shk 166 = 11, IA 167 1936 ∧ inb ((48 : Int32) + v3) 1936 = true]) rfl ⟨rfl, ⟨⟨rfl, rfl⟩, g10⟩, trivial⟩) ?_
      obtain ⟨x11, q13, h⟩ := bdS h
      refine Go.t (Go_callS bk_Md_piece 44 rfl nk_Md_has tw1367 tw1368 (as := [.int (σ.1 167 ((48 : Int32) + v3).toNatClampNeg), .int v1]) (S := []) rfl rfl rfl (Nat.le_of_ble_eq_true rfl) (Nat.le_of_ble_eq_true rfl) (ev_Md_has _ _ _ q13)) ?_
      refine Go_if_eq bk_Md_piece 45 rfl (fun c14 => ?_) (fun c14 => ?_)
      · have h := ifT c14 h
        exact Go.t (Go.fg (LSub.cs (LSub.cs (LSub.cn (LSub.cs (LSub.nil)))))) (t_Md_piece_b83 v1 v3 σ h)
      · have h := ifF c14 h
        have h := Option.some.inj h
        subst h
        refine Go.t (Go_sg bk_Md_piece 46 1 (c2 := (some 82, [some (.ref 166), some (.int v1), none, some (.int v3)], [.int v3], σ)) (ps := []) rfl trivial) ?_
        exact Go_reti bk_Md_piece 47 rfl
def Md_piece_L51 (v1 : Int32) (σ : MH) (s : Int32) : Option ((Int32)) := itr (fun s : Int32 => Md_piece_l51 v1 s σ) FU s
set_option maxRecDepth 20000 in
set_option maxHeartbeats 2000000 in
theorem t_Md_piece_L51 (v1 : Int32)  (σ : MH) (s : Int32) {r} (h : Md_piece_L51 v1 σ s = some r) : Go m_Md_piece 4 (cH_Md_piece_51 v1 σ s) (cR_Md_piece_51 v1 σ r) := Go_itr (fun s o ho => t_Md_piece_l51 v1 s σ ho) FU s r h
def Md_piece0 (v1 : Int32) (v2 : Int32) (σ : MH) : Option (Int32) := (Md_isTwelve v1 σ).bind fun x1 => if x1 = (0 : Int32) then some ((-100 : Int32)) else ((Md_in v2 (0 : Int32) (9 : Int32) σ).bind fun x4 => if x4 = (0 : Int32) then some ((-100 : Int32)) else (if (8 : Int32) ≤ v2 then (if v2 = (8 : Int32) then (if inb ((72 : Int32) + v1) 1936 = true then some (σ.1 167 ((72 : Int32) + v1).toNatClampNeg) else none) else ((Md_piece_L51 v1 σ ((0 : Int32))).bind fun z17 => some (z17))) else ((Md_heightOf v1 v2 σ).bind fun x21 => some (x21))))
set_option maxRecDepth 20000 in
set_option maxHeartbeats 2000000 in
theorem t_Md_piece0 (v1 : Int32) (v2 : Int32)  (σ : MH) {o} (h : Md_piece0 v1 v2 σ = some o) : Go m_Md_piece 4 (some 0, [some (.ref 166), some (.int v1), some (.int v2), none], [], σ) ((none, [], [.int o], σ)) := by
  unfold Md_piece0 at h
  refine Go.t (Go_sg bk_Md_piece 0 1 (c2 := (some 1, [some (.ref 166), some (.int v1), some (.int v2), none], [.int v1], σ)) (ps := []) rfl trivial) ?_
  obtain ⟨x1, q3, h⟩ := bdS h
  refine Go.t (Go_callS bk_Md_piece 1 rfl nk_Md_isTwelve tw1360 tw1361 (as := [.int v1]) (S := []) rfl rfl rfl (Nat.le_of_ble_eq_true rfl) (Nat.le_of_ble_eq_true rfl) (ev_Md_isTwelve _ _ q3)) ?_
  refine Go_if_eq bk_Md_piece 2 rfl (fun c26 => ?_) (fun c26 => ?_)
  · have h := ifT c26 h
    have h := Option.some.inj h
    subst h
    refine Go.t (Go_sg bk_Md_piece 8 1 (c2 := (some 19, [some (.ref 166), some (.int v1), some (.int v2), none], [.int (-100 : Int32)], σ)) (ps := []) rfl trivial) ?_
    exact Go_reti bk_Md_piece 9 rfl
  · have h := ifF c26 h
    refine Go.t (Go_sg bk_Md_piece 3 3 (c2 := (some 11, [some (.ref 166), some (.int v1), some (.int v2), none], [.int (9 : Int32), .int (0 : Int32), .int v2], σ)) (ps := []) rfl trivial) ?_
    obtain ⟨x4, q6, h⟩ := bdS h
    refine Go.t (Go_callS bk_Md_piece 6 rfl nk_Md_in tw1370 tw1371 (as := [.int v2, .int (0 : Int32), .int (9 : Int32)]) (S := []) rfl rfl rfl (Nat.le_of_ble_eq_true rfl) (Nat.le_of_ble_eq_true rfl) (ev_Md_in _ _ _ _ q6)) ?_
    refine Go_if_ne bk_Md_piece 7 rfl (fun c25 => ?_) (fun c25 => ?_)
    · have h := ifF c25 h
      refine Go.t (Go_sg bk_Md_piece 10 2 (c2 := (some 23, [some (.ref 166), some (.int v1), some (.int v2), none], [.int (8 : Int32), .int v2], σ)) (ps := []) rfl trivial) ?_
      refine Go_icmp_ge bk_Md_piece 12 rfl (fun c24 => ?_) (fun c24 => ?_)
      · have h := ifT c24 h
        refine Go.t (Go_sg bk_Md_piece 18 2 (c2 := (some 36, [some (.ref 166), some (.int v1), some (.int v2), none], [.int (8 : Int32), .int v2], σ)) (ps := []) rfl trivial) ?_
        refine Go_icmp_ne bk_Md_piece 20 rfl (fun c20 => ?_) (fun c20 => ?_)
        · have h := ifF c20 h
          refine Go.t (Go_sg bk_Md_piece 28 2 (c2 := (some 51, [some (.ref 166), some (.int v1), some (.int v2), some (.int (0 : Int32))], [], σ)) (ps := []) rfl trivial) ?_
          obtain ⟨z17, q18, h⟩ := bdS h
          refine Go.t (Go.t (Go.fg (LSub.cs (LSub.cs (LSub.cn (LSub.cs (LSub.nil)))))) (t_Md_piece_L51 v1 σ _ q18)) ?_
          have h := Option.some.inj h
          subst h
          exact Go.rf
        · have h := ifT c20 h
          obtain ⟨g19, h⟩ := gdS h
          have h := Option.some.inj h
          subst h
          refine Go.t (Go_sg bk_Md_piece 21 6 (c2 := (some 48, [some (.ref 166), some (.int v1), some (.int v2), none], [.int (σ.1 167 ((72 : Int32) + v1).toNatClampNeg)], σ)) (ps := [shk 166 = 11, IA 167 1936 ∧ inb ((72 : Int32) + v1) 1936 = true]) rfl ⟨rfl, ⟨⟨rfl, rfl⟩, g19⟩, trivial⟩) ?_
          exact Go_reti bk_Md_piece 27 rfl
      · have h := ifF c24 h
        refine Go.t (Go_sg bk_Md_piece 13 3 (c2 := (some 29, [some (.ref 166), some (.int v1), some (.int v2), none], [.int v2, .int v1, .ref 166], σ)) (ps := []) rfl trivial) ?_
        obtain ⟨x21, q23, h⟩ := bdS h
        refine Go.t (Go_callV bk_Md_piece 16 rfl nk_Md_heightOf tw1547 tw1549 tw77 (ci := 11) rfl (as := [.int v1, .int v2]) (S := []) rfl rfl rfl rfl (Nat.le_of_ble_eq_true rfl) (Nat.le_of_ble_eq_true rfl) (ev_Md_heightOf _ _ _ q23)) ?_
        have h := Option.some.inj h
        subst h
        exact Go_reti bk_Md_piece 17 rfl
    · have h := ifT c25 h
      have h := Option.some.inj h
      subst h
      refine Go.t (Go_sg bk_Md_piece 8 1 (c2 := (some 19, [some (.ref 166), some (.int v1), some (.int v2), none], [.int (-100 : Int32)], σ)) (ps := []) rfl trivial) ?_
      exact Go_reti bk_Md_piece 9 rfl
def Md_piece (v1 : Int32) (v2 : Int32) (σ : MH) : Option (Int32) := Md_piece0 v1 v2 σ
set_option maxRecDepth 20000 in
set_option maxHeartbeats 2000000 in
theorem ev_Md_piece (v1 : Int32) (v2 : Int32)  (σ : MH) {o} (h : Md_piece v1 v2 σ = some o) : Ev m_Md_piece 4 [.ref 166, .int v1, .int v2] σ (some (.int o)) σ := Ev.of2 (by decide +kernel) rfl (Nat.le_of_ble_eq_true rfl) ⟨.int, rfl, rfl⟩ (t_Md_piece0 v1 v2 σ h)
def Md_likes0 (v1 : Int32) (v2 : Int32) (σ : MH) : Option (Int32 × MH) := (Md_slackBy v1 v2 σ).bind fun x1 => (Md_feels v1 v2 x1 σ).bind fun σ5 => (Md_byLaw (108 : Int32) (99 : Int32) σ5).bind fun (x7, σ8) => some (x7, σ8)
set_option maxRecDepth 20000 in
set_option maxHeartbeats 2000000 in
theorem t_Md_likes0 (v1 : Int32) (v2 : Int32)  (σ : MH) {o} (h : Md_likes0 v1 v2 σ = some o) : Go m_Md_likes 4 (some 0, [some (.ref 166), some (.int v1), some (.int v2)], [], σ) ((none, [], [.int o.1], o.2)) := by
  unfold Md_likes0 at h
  refine Go.t (Go_sg bk_Md_likes 0 6 (c2 := (some 6, [some (.ref 166), some (.int v1), some (.int v2)], [.int v2, .int v1, .ref 166, .int v2, .int v1, .ref 166], σ)) (ps := []) rfl trivial) ?_
  obtain ⟨x1, q3, h⟩ := bdS h
  refine Go.t (Go_callV bk_Md_likes 6 rfl nk_Md_slackBy tw1538 tw1540 tw75 (ci := 11) rfl (as := [.int v1, .int v2]) (S := [.int v2, .int v1, .ref 166]) rfl rfl rfl rfl (Nat.le_of_ble_eq_true rfl) (Nat.le_of_ble_eq_true rfl) (ev_Md_slackBy _ _ _ q3)) ?_
  obtain ⟨σ5, q6, h⟩ := bdS h
  refine Go.t (Go_callV bk_Md_likes 7 rfl nk_Md_feels tw1561 tw1563 tw79 (ci := 11) rfl (as := [.int v1, .int v2, .int x1]) (S := []) rfl rfl rfl rfl (Nat.le_of_ble_eq_true rfl) (Nat.le_of_ble_eq_true rfl) (ev_Md_feels _ _ _ _ q6)) ?_
  refine Go.t (Go_sg bk_Md_likes 8 3 (c2 := (some 17, [some (.ref 166), some (.int v1), some (.int v2)], [.int (99 : Int32), .int (108 : Int32), .ref 166], σ5)) (ps := []) rfl trivial) ?_
  obtain ⟨⟨x7, σ8⟩, q9, h⟩ := bdS h
  dsimp only at h
  refine Go.t (Go_callV bk_Md_likes 11 rfl nk_Md_byLaw tw1568 tw1570 tw80 (ci := 11) rfl (as := [.int (108 : Int32), .int (99 : Int32)]) (S := []) rfl rfl rfl rfl (Nat.le_of_ble_eq_true rfl) (Nat.le_of_ble_eq_true rfl) (ev_Md_byLaw _ _ _ q9)) ?_
  have h := Option.some.inj h
  subst h
  exact Go_reti bk_Md_likes 12 rfl
def Md_likes (v1 : Int32) (v2 : Int32) (σ : MH) : Option (Int32 × MH) := Md_likes0 v1 v2 σ
set_option maxRecDepth 20000 in
set_option maxHeartbeats 2000000 in
theorem ev_Md_likes (v1 : Int32) (v2 : Int32)  (σ : MH) {o} (h : Md_likes v1 v2 σ = some o) : Ev m_Md_likes 4 [.ref 166, .int v1, .int v2] σ (some (.int o.1)) o.2 := Ev.of2 (by decide +kernel) rfl (Nat.le_of_ble_eq_true rfl) ⟨.int, rfl, rfl⟩ (t_Md_likes0 v1 v2 σ h)
def Md_slack0 (v1 : Int32) (v2 : Int32) (v3 : Int32) (σ : MH) : Option (Int32 × MH) := (Md_isPerson v1 σ).bind fun x1 => if x1 = (0 : Int32) then some ((-1 : Int32), σ) else ((Md_isPerson v2 σ).bind fun x4 => if x4 = (0 : Int32) then some ((-1 : Int32), σ) else (if v1 = v2 then some ((-1 : Int32), σ) else ((Md_in v3 (0 : Int32) (2 : Int32) σ).bind fun x7 => if x7 = (0 : Int32) then some ((-1 : Int32), σ) else ((Md_slackBy v1 v2 σ).bind fun x10 => if x10 = (-1 : Int32) then some ((-1 : Int32), σ) else (if v3 = (0 : Int32) then some (x10, σ) else (if v3 = (1 : Int32) then ((Md_fit v1 v2 σ).bind fun (x16, σ17) => if x16 = (0 : Int32) then some ((0 : Int32), σ17) else some ((1 : Int32), σ17)) else ((Md_likes v1 v2 σ).bind fun (x13, σ14) => some (x13, σ14))))))))
set_option maxRecDepth 20000 in
set_option maxHeartbeats 2000000 in
theorem t_Md_slack0 (v1 : Int32) (v2 : Int32) (v3 : Int32)  (σ : MH) {o} (h : Md_slack0 v1 v2 v3 σ = some o) : Go m_Md_slack 6 (some 0, [some (.ref 166), some (.int v1), some (.int v2), some (.int v3), none], [], σ) ((none, [], [.int o.1], o.2)) := by
  unfold Md_slack0 at h
  refine Go.t (Go_sg bk_Md_slack 0 2 (c2 := (some 2, [some (.ref 166), some (.int v1), some (.int v2), some (.int v3), none], [.int v1, .ref 166], σ)) (ps := []) rfl trivial) ?_
  obtain ⟨x1, q3, h⟩ := bdS h
  refine Go.t (Go_callV bk_Md_slack 2 rfl nk_Md_isPerson tw1363 tw1365 tw44 (ci := 11) rfl (as := [.int v1]) (S := []) rfl rfl rfl rfl (Nat.le_of_ble_eq_true rfl) (Nat.le_of_ble_eq_true rfl) (ev_Md_isPerson _ _ q3)) ?_
  refine Go_if_eq bk_Md_slack 3 rfl (fun c26 => ?_) (fun c26 => ?_)
  · have h := ifT c26 h
    have h := Option.some.inj h
    subst h
    refine Go.t (Go_sg bk_Md_slack 16 1 (c2 := (some 31, [some (.ref 166), some (.int v1), some (.int v2), some (.int v3), none], [.int (-1 : Int32)], σ)) (ps := []) rfl trivial) ?_
    exact Go_reti bk_Md_slack 17 rfl
  · have h := ifF c26 h
    refine Go.t (Go_sg bk_Md_slack 4 2 (c2 := (some 10, [some (.ref 166), some (.int v1), some (.int v2), some (.int v3), none], [.int v2, .ref 166], σ)) (ps := []) rfl trivial) ?_
    obtain ⟨x4, q6, h⟩ := bdS h
    refine Go.t (Go_callV bk_Md_slack 6 rfl nk_Md_isPerson tw1363 tw1365 tw44 (ci := 11) rfl (as := [.int v2]) (S := []) rfl rfl rfl rfl (Nat.le_of_ble_eq_true rfl) (Nat.le_of_ble_eq_true rfl) (ev_Md_isPerson _ _ q6)) ?_
    refine Go_if_eq bk_Md_slack 7 rfl (fun c25 => ?_) (fun c25 => ?_)
    · have h := ifT c25 h
      have h := Option.some.inj h
      subst h
      refine Go.t (Go_sg bk_Md_slack 16 1 (c2 := (some 31, [some (.ref 166), some (.int v1), some (.int v2), some (.int v3), none], [.int (-1 : Int32)], σ)) (ps := []) rfl trivial) ?_
      exact Go_reti bk_Md_slack 17 rfl
    · have h := ifF c25 h
      refine Go.t (Go_sg bk_Md_slack 8 2 (c2 := (some 18, [some (.ref 166), some (.int v1), some (.int v2), some (.int v3), none], [.int v2, .int v1], σ)) (ps := []) rfl trivial) ?_
      refine Go_icmp_eq bk_Md_slack 10 rfl (fun c24 => ?_) (fun c24 => ?_)
      · have h := ifT c24 h
        have h := Option.some.inj h
        subst h
        refine Go.t (Go_sg bk_Md_slack 16 1 (c2 := (some 31, [some (.ref 166), some (.int v1), some (.int v2), some (.int v3), none], [.int (-1 : Int32)], σ)) (ps := []) rfl trivial) ?_
        exact Go_reti bk_Md_slack 17 rfl
      · have h := ifF c24 h
        refine Go.t (Go_sg bk_Md_slack 11 3 (c2 := (some 24, [some (.ref 166), some (.int v1), some (.int v2), some (.int v3), none], [.int (2 : Int32), .int (0 : Int32), .int v3], σ)) (ps := []) rfl trivial) ?_
        obtain ⟨x7, q9, h⟩ := bdS h
        refine Go.t (Go_callS bk_Md_slack 14 rfl nk_Md_in tw1370 tw1371 (as := [.int v3, .int (0 : Int32), .int (2 : Int32)]) (S := []) rfl rfl rfl (Nat.le_of_ble_eq_true rfl) (Nat.le_of_ble_eq_true rfl) (ev_Md_in _ _ _ _ q9)) ?_
        refine Go_if_ne bk_Md_slack 15 rfl (fun c23 => ?_) (fun c23 => ?_)
        · have h := ifF c23 h
          refine Go.t (Go_sg bk_Md_slack 18 3 (c2 := (some 35, [some (.ref 166), some (.int v1), some (.int v2), some (.int v3), none], [.int v2, .int v1, .ref 166], σ)) (ps := []) rfl trivial) ?_
          obtain ⟨x10, q12, h⟩ := bdS h
          refine Go.t (Go_callV bk_Md_slack 21 rfl nk_Md_slackBy tw1538 tw1540 tw75 (ci := 11) rfl (as := [.int v1, .int v2]) (S := []) rfl rfl rfl rfl (Nat.le_of_ble_eq_true rfl) (Nat.le_of_ble_eq_true rfl) (ev_Md_slackBy _ _ _ q12)) ?_
          refine Go.t (Go_sg bk_Md_slack 22 3 (c2 := (some 43, [some (.ref 166), some (.int v1), some (.int v2), some (.int v3), some (.int x10)], [.int (-1 : Int32), .int x10], σ)) (ps := []) rfl trivial) ?_
          refine Go_icmp_ne bk_Md_slack 25 rfl (fun c22 => ?_) (fun c22 => ?_)
          · have h := ifF c22 h
            refine Go.t (Go_sg bk_Md_slack 28 1 (c2 := (some 49, [some (.ref 166), some (.int v1), some (.int v2), some (.int v3), some (.int x10)], [.int v3], σ)) (ps := []) rfl trivial) ?_
            refine Go_if_ne bk_Md_slack 29 rfl (fun c21 => ?_) (fun c21 => ?_)
            · have h := ifF c21 h
              refine Go.t (Go_sg bk_Md_slack 32 2 (c2 := (some 59, [some (.ref 166), some (.int v1), some (.int v2), some (.int v3), some (.int x10)], [.int (1 : Int32), .int v3], σ)) (ps := []) rfl trivial) ?_
              refine Go_icmp_ne bk_Md_slack 34 rfl (fun c20 => ?_) (fun c20 => ?_)
              · have h := ifF c20 h
                refine Go.t (Go_sg bk_Md_slack 44 3 (c2 := (some 82, [some (.ref 166), some (.int v1), some (.int v2), some (.int v3), some (.int x10)], [.int v2, .int v1, .ref 166], σ)) (ps := []) rfl trivial) ?_
                obtain ⟨⟨x13, σ14⟩, q15, h⟩ := bdS h
                dsimp only at h
                refine Go.t (Go_callV bk_Md_slack 47 rfl nk_Md_likes tw1623 tw1625 tw88 (ci := 11) rfl (as := [.int v1, .int v2]) (S := []) rfl rfl rfl rfl (Nat.le_of_ble_eq_true rfl) (Nat.le_of_ble_eq_true rfl) (ev_Md_likes _ _ _ q15)) ?_
                have h := Option.some.inj h
                subst h
                exact Go_reti bk_Md_slack 48 rfl
              · have h := ifT c20 h
                refine Go.t (Go_sg bk_Md_slack 35 3 (c2 := (some 65, [some (.ref 166), some (.int v1), some (.int v2), some (.int v3), some (.int x10)], [.int v2, .int v1, .ref 166], σ)) (ps := []) rfl trivial) ?_
                obtain ⟨⟨x16, σ17⟩, q18, h⟩ := bdS h
                dsimp only at h
                refine Go.t (Go_callV bk_Md_slack 38 rfl nk_Md_fit tw1534 tw1536 tw74 (ci := 11) rfl (as := [.int v1, .int v2]) (S := []) rfl rfl rfl rfl (Nat.le_of_ble_eq_true rfl) (Nat.le_of_ble_eq_true rfl) (ev_Md_fit _ _ _ q18)) ?_
                refine Go_if_eq bk_Md_slack 39 rfl (fun c19 => ?_) (fun c19 => ?_)
                · have h := ifT c19 h
                  refine Go.t (Go_sg bk_Md_slack 42 2 (c2 := (some 85, [some (.ref 166), some (.int v1), some (.int v2), some (.int v3), some (.int x10)], [.int (0 : Int32)], σ17)) (ps := []) rfl trivial) ?_
                  have h := Option.some.inj h
                  subst h
                  exact Go_reti bk_Md_slack 48 rfl
                · have h := ifF c19 h
                  refine Go.t (Go_sg bk_Md_slack 40 2 (c2 := (some 85, [some (.ref 166), some (.int v1), some (.int v2), some (.int v3), some (.int x10)], [.int (1 : Int32)], σ17)) (ps := []) rfl trivial) ?_
                  have h := Option.some.inj h
                  subst h
                  exact Go_reti bk_Md_slack 48 rfl
            · have h := ifT c21 h
              refine Go.t (Go_sg bk_Md_slack 30 2 (c2 := (some 85, [some (.ref 166), some (.int v1), some (.int v2), some (.int v3), some (.int x10)], [.int x10], σ)) (ps := []) rfl trivial) ?_
              have h := Option.some.inj h
              subst h
              exact Go_reti bk_Md_slack 48 rfl
          · have h := ifT c22 h
            have h := Option.some.inj h
            subst h
            refine Go.t (Go_sg bk_Md_slack 26 1 (c2 := (some 47, [some (.ref 166), some (.int v1), some (.int v2), some (.int v3), some (.int x10)], [.int (-1 : Int32)], σ)) (ps := []) rfl trivial) ?_
            exact Go_reti bk_Md_slack 27 rfl
        · have h := ifT c23 h
          have h := Option.some.inj h
          subst h
          refine Go.t (Go_sg bk_Md_slack 16 1 (c2 := (some 31, [some (.ref 166), some (.int v1), some (.int v2), some (.int v3), none], [.int (-1 : Int32)], σ)) (ps := []) rfl trivial) ?_
          exact Go_reti bk_Md_slack 17 rfl
def Md_slack (v1 : Int32) (v2 : Int32) (v3 : Int32) (σ : MH) : Option (Int32 × MH) := Md_slack0 v1 v2 v3 σ
set_option maxRecDepth 20000 in
set_option maxHeartbeats 2000000 in
theorem ev_Md_slack (v1 : Int32) (v2 : Int32) (v3 : Int32)  (σ : MH) {o} (h : Md_slack v1 v2 v3 σ = some o) : Ev m_Md_slack 6 [.ref 166, .int v1, .int v2, .int v3] σ (some (.int o.1)) o.2 := Ev.of2 (by decide +kernel) rfl (Nat.le_of_ble_eq_true rfl) ⟨.int, rfl, rfl⟩ (t_Md_slack0 v1 v2 v3 σ h)
def cH_Md_laysFits_2  (s : Int32 × MH) : MC := (some 2, [some (.ref 166), some (.int s.1), none, none], [], s.2)
def cR_Md_laysFits_2  : ((MH)) → MC := (fun r : MH => ((some 37, [some (.ref 166), none, none, none], [], r) : MC))
def Md_laysFits_b30 (v1 : Int32) (s0 : Int32) (s1 : Int32) (σ : MH) : Option (((Int32 × MH) ⊕ ((MH)))) := if inb s1 12 = true then some (.inl (v1 + (1 : Int32), sI σ 186 s1.toNatClampNeg s0)) else none
set_option maxRecDepth 20000 in
set_option maxHeartbeats 2000000 in
theorem t_Md_laysFits_b30 (v1 : Int32) (s0 : Int32) (s1 : Int32)   (σ : MH) {o} (h : Md_laysFits_b30 v1 s0 s1 σ = some o) : Go m_Md_laysFits 7 (some 30, [some (.ref 166), some (.int v1), none, none], [.int s0, .int s1, .ref 186], σ) (cS (cH_Md_laysFits_2 ) (cR_Md_laysFits_2 ) o) := by
  unfold Md_laysFits_b30 at h
  obtain ⟨g4, h⟩ := gdS h
  refine Go.t (Go_sg bk_Md_laysFits 17 3 (c2 := (some 2, [some (.ref 166), some (.int (v1 + (1 : Int32))), none, none], [], sI σ 186 s1.toNatClampNeg s0)) (ps := [IA 186 12 ∧ inb s1 12 = true]) rfl ⟨⟨⟨rfl, rfl⟩, g4⟩, trivial⟩) ?_
  have h := Option.some.inj h
  subst h
  exact Go.fg (LSub.cs (LSub.cs (LSub.cn (LSub.cn (LSub.nil)))))
def Md_laysFits_l2 (v1 : Int32) (σ : MH) : Option (((Int32 × MH) ⊕ ((MH)))) := if (12 : Int32) ≤ v1 then some (.inr (σ)) else ((Md_lives v1 σ).bind fun x1 => if x1 = (0 : Int32) then (Md_laysFits_b30 v1 (0 : Int32) v1 σ) else ((Md_fitting v1 σ).bind fun (x5, σ6) => Md_laysFits_b30 v1 x5 v1 σ6))
set_option maxRecDepth 20000 in
set_option maxHeartbeats 2000000 in
theorem t_Md_laysFits_l2 (v1 : Int32)  (σ : MH) {o} (h : Md_laysFits_l2 v1 σ = some o) : Go m_Md_laysFits 7 (cH_Md_laysFits_2  (v1, σ)) (cS (cH_Md_laysFits_2 ) (cR_Md_laysFits_2 ) o) := by
  unfold Md_laysFits_l2 at h
  unfold cH_Md_laysFits_2
  refine Go.t (Go_sg bk_Md_laysFits 2 2 (c2 := (some 5, [some (.ref 166), some (.int v1), none, none], [.int (12 : Int32), .int v1], σ)) (ps := []) rfl trivial) ?_
  refine Go_icmp_ge bk_Md_laysFits 4 rfl (fun c9 => ?_) (fun c9 => ?_)
  · have h := ifT c9 h
    have h := Option.some.inj h
    subst h
    exact Go.fg (LSub.cs (LSub.cn (LSub.cn (LSub.cn (LSub.nil)))))
  · have h := ifF c9 h
    refine Go.t (Go_sg bk_Md_laysFits 5 5 (c2 := (some 15, [some (.ref 166), some (.int v1), none, none], [.int v1, .ref 166, .int v1, .ref 186], σ)) (ps := [shk 166 = 11]) rfl ⟨rfl, trivial⟩) ?_
    obtain ⟨x1, q3, h⟩ := bdS h
    refine Go.t (Go_callV bk_Md_laysFits 10 rfl nk_Md_lives tw1381 tw1383 tw45 (ci := 11) rfl (as := [.int v1]) (S := [.int v1, .ref 186]) rfl rfl rfl rfl (Nat.le_of_ble_eq_true rfl) (Nat.le_of_ble_eq_true rfl) (ev_Md_lives _ _ q3)) ?_
    refine Go_if_eq bk_Md_laysFits 11 rfl (fun c8 => ?_) (fun c8 => ?_)
    · have h := ifT c8 h
      refine Go.t (Go_sg bk_Md_laysFits 16 1 (c2 := (some 30, [some (.ref 166), some (.int v1), none, none], [.int (0 : Int32), .int v1, .ref 186], σ)) (ps := []) rfl trivial) ?_
      exact Go.t (Go.fg (LSub.cs (LSub.cs (LSub.cn (LSub.cn (LSub.nil)))))) (t_Md_laysFits_b30 v1 (0 : Int32) v1 σ h)
    · have h := ifF c8 h
      refine Go.t (Go_sg bk_Md_laysFits 12 2 (c2 := (some 23, [some (.ref 166), some (.int v1), none, none], [.int v1, .ref 166, .int v1, .ref 186], σ)) (ps := []) rfl trivial) ?_
      obtain ⟨⟨x5, σ6⟩, q7, h⟩ := bdS h
      dsimp only at h
      refine Go.t (Go_callV bk_Md_laysFits 14 rfl nk_Md_fitting tw1611 tw1613 tw87 (ci := 11) rfl (as := [.int v1]) (S := [.int v1, .ref 186]) rfl rfl rfl rfl (Nat.le_of_ble_eq_true rfl) (Nat.le_of_ble_eq_true rfl) (ev_Md_fitting _ _ q7)) ?_
      refine Go.t (Go_sg bk_Md_laysFits 15 1 (c2 := (some 30, [some (.ref 166), some (.int v1), none, none], [.int x5, .int v1, .ref 186], σ6)) (ps := []) rfl trivial) ?_
      exact Go.t (Go.fg (LSub.cs (LSub.cs (LSub.cn (LSub.cn (LSub.nil)))))) (t_Md_laysFits_b30 v1 x5 v1 σ6 h)
def Md_laysFits_L2  (s : Int32 × MH) : Option ((MH)) := itr (fun s : Int32 × MH => Md_laysFits_l2 s.1 s.2) FU s
set_option maxRecDepth 20000 in
set_option maxHeartbeats 2000000 in
theorem t_Md_laysFits_L2   (s : Int32 × MH) {r} (h : Md_laysFits_L2  s = some r) : Go m_Md_laysFits 7 (cH_Md_laysFits_2  s) (cR_Md_laysFits_2  r) := Go_itr (fun s o ho => t_Md_laysFits_l2 s.1 s.2 ho) FU s r h
def cH_Md_laysFits_39  (s : Int32 × MH) : MC := (some 39, [some (.ref 166), some (.int s.1), none, none], [], s.2)
def cR_Md_laysFits_39  : ((MH)) → MC := (fun r : MH => ((none, [], [], r) : MC))
def cH_Md_laysFits_47 (v1 : Int32) (s : Int32 × MH) : MC := (some 47, [some (.ref 166), some (.int v1), some (.int s.1), none], [], s.2)
def cR_Md_laysFits_47 (v1 : Int32) : ((MH)) → MC := (fun r : MH => ((some 120, [some (.ref 166), some (.int v1), none, none], [], r) : MC))
def Md_laysFits_b113 (v1 : Int32) (v2 : Int32) (s0 : Int32) (s1 : Int32) (σ : MH) : Option (((Int32 × MH) ⊕ ((MH)))) := if inb s1 144 = true then some (.inl (v2 + (1 : Int32), sI σ 188 s1.toNatClampNeg s0)) else none
set_option maxRecDepth 20000 in
set_option maxHeartbeats 2000000 in
theorem t_Md_laysFits_b113 (v1 : Int32) (v2 : Int32) (s0 : Int32) (s1 : Int32)   (σ : MH) {o} (h : Md_laysFits_b113 v1 v2 s0 s1 σ = some o) : Go m_Md_laysFits 7 (some 113, [some (.ref 166), some (.int v1), some (.int v2), none], [.int s0, .int s1, .ref 188], σ) (cS (cH_Md_laysFits_47 v1) (cR_Md_laysFits_47 v1) o) := by
  unfold Md_laysFits_b113 at h
  obtain ⟨g17, h⟩ := gdS h
  refine Go.t (Go_sg bk_Md_laysFits 68 3 (c2 := (some 47, [some (.ref 166), some (.int v1), some (.int (v2 + (1 : Int32))), none], [], sI σ 188 s1.toNatClampNeg s0)) (ps := [IA 188 144 ∧ inb s1 144 = true]) rfl ⟨⟨⟨rfl, rfl⟩, g17⟩, trivial⟩) ?_
  have h := Option.some.inj h
  subst h
  exact Go.fg (LSub.cs (LSub.cs (LSub.cs (LSub.cn (LSub.nil)))))
def Md_laysFits_b88 (v1 : Int32) (v2 : Int32) (v3 : Int32) (s0 : Int32) (s1 : Int32) (σ : MH) : Option (((Int32 × MH) ⊕ ((MH)))) := if inb s1 144 = true then if v3 = (0 : Int32) then (Md_laysFits_b113 v1 v2 (0 : Int32) (((12 : Int32) * v1) + v2) (sI σ 187 s1.toNatClampNeg s0)) else ((Md_likes v1 v2 (sI σ 187 s1.toNatClampNeg s0)).bind fun (x18, σ19) => Md_laysFits_b113 v1 v2 x18 (((12 : Int32) * v1) + v2) σ19) else none
set_option maxRecDepth 20000 in
set_option maxHeartbeats 2000000 in
theorem t_Md_laysFits_b88 (v1 : Int32) (v2 : Int32) (v3 : Int32) (s0 : Int32) (s1 : Int32)   (σ : MH) {o} (h : Md_laysFits_b88 v1 v2 v3 s0 s1 σ = some o) : Go m_Md_laysFits 7 (some 88, [some (.ref 166), some (.int v1), some (.int v2), some (.int v3)], [.int s0, .int s1, .ref 187], σ) (cS (cH_Md_laysFits_47 v1) (cR_Md_laysFits_47 v1) o) := by
  unfold Md_laysFits_b88 at h
  obtain ⟨g16, h⟩ := gdS h
  refine Go.t (Go_sg bk_Md_laysFits 52 9 (c2 := (some 100, [some (.ref 166), some (.int v1), some (.int v2), some (.int v3)], [.int v3, .int (((12 : Int32) * v1) + v2), .ref 188], sI σ 187 s1.toNatClampNeg s0)) (ps := [IA 187 144 ∧ inb s1 144 = true, shk 166 = 11]) rfl ⟨⟨⟨rfl, rfl⟩, g16⟩, rfl, trivial⟩) ?_
  refine Go_if_eq bk_Md_laysFits 61 rfl (fun c21 => ?_) (fun c21 => ?_)
  · have h := ifT c21 h
    refine Go.t (Go_sg bk_Md_laysFits 67 1 (c2 := (some 113, [some (.ref 166), some (.int v1), some (.int v2), some (.int v3)], [.int (0 : Int32), .int (((12 : Int32) * v1) + v2), .ref 188], sI σ 187 s1.toNatClampNeg s0)) (ps := []) rfl trivial) ?_
    exact Go.t (Go.fg (LSub.cs (LSub.cs (LSub.cs (LSub.cn (LSub.nil)))))) (t_Md_laysFits_b113 v1 v2 (0 : Int32) (((12 : Int32) * v1) + v2) (sI σ 187 s1.toNatClampNeg s0) h)
  · have h := ifF c21 h
    refine Go.t (Go_sg bk_Md_laysFits 62 3 (c2 := (some 106, [some (.ref 166), some (.int v1), some (.int v2), some (.int v3)], [.int v2, .int v1, .ref 166, .int (((12 : Int32) * v1) + v2), .ref 188], sI σ 187 s1.toNatClampNeg s0)) (ps := []) rfl trivial) ?_
    obtain ⟨⟨x18, σ19⟩, q20, h⟩ := bdS h
    dsimp only at h
    refine Go.t (Go_callV bk_Md_laysFits 65 rfl nk_Md_likes tw1623 tw1625 tw88 (ci := 11) rfl (as := [.int v1, .int v2]) (S := [.int (((12 : Int32) * v1) + v2), .ref 188]) rfl rfl rfl rfl (Nat.le_of_ble_eq_true rfl) (Nat.le_of_ble_eq_true rfl) (ev_Md_likes _ _ _ q20)) ?_
    refine Go.t (Go_sg bk_Md_laysFits 66 1 (c2 := (some 113, [some (.ref 166), some (.int v1), some (.int v2), some (.int v3)], [.int x18, .int (((12 : Int32) * v1) + v2), .ref 188], σ19)) (ps := []) rfl trivial) ?_
    exact Go.t (Go.fg (LSub.cs (LSub.cs (LSub.cs (LSub.cn (LSub.nil)))))) (t_Md_laysFits_b113 v1 v2 x18 (((12 : Int32) * v1) + v2) σ19 h)
def Md_laysFits_l47 (v1 : Int32) (v2 : Int32) (σ : MH) : Option (((Int32 × MH) ⊕ ((MH)))) := if (12 : Int32) ≤ v2 then some (.inr (σ)) else (if inb v1 12 = true then (Md_has (σ.1 186 v1.toNatClampNeg) v2 σ).bind fun x13 => if x13 = (0 : Int32) then (Md_laysFits_b88 v1 v2 x13 (0 : Int32) (((12 : Int32) * v1) + v2) σ) else ((Md_slackBy v1 v2 σ).bind fun x22 => Md_laysFits_b88 v1 v2 x13 x22 (((12 : Int32) * v1) + v2) σ) else none)
set_option maxRecDepth 20000 in
set_option maxHeartbeats 2000000 in
theorem t_Md_laysFits_l47 (v1 : Int32) (v2 : Int32)  (σ : MH) {o} (h : Md_laysFits_l47 v1 v2 σ = some o) : Go m_Md_laysFits 7 (cH_Md_laysFits_47 v1 (v2, σ)) (cS (cH_Md_laysFits_47 v1) (cR_Md_laysFits_47 v1) o) := by
  unfold Md_laysFits_l47 at h
  unfold cH_Md_laysFits_47
  refine Go.t (Go_sg bk_Md_laysFits 27 2 (c2 := (some 50, [some (.ref 166), some (.int v1), some (.int v2), none], [.int (12 : Int32), .int v2], σ)) (ps := []) rfl trivial) ?_
  refine Go_icmp_ge bk_Md_laysFits 29 rfl (fun c26 => ?_) (fun c26 => ?_)
  · have h := ifT c26 h
    have h := Option.some.inj h
    subst h
    exact Go.fg (LSub.cs (LSub.cs (LSub.cn (LSub.cn (LSub.nil)))))
  · have h := ifF c26 h
    obtain ⟨g12, h⟩ := gdS h
    refine Go.t (Go_sg bk_Md_laysFits 30 5 (c2 := (some 60, [some (.ref 166), some (.int v1), some (.int v2), none], [.int v2, .int (σ.1 186 v1.toNatClampNeg)], σ)) (ps := [shk 166 = 11, IA 186 12 ∧ inb v1 12 = true]) rfl ⟨rfl, ⟨⟨rfl, rfl⟩, g12⟩, trivial⟩) ?_
    obtain ⟨x13, q15, h⟩ := bdS h
    refine Go.t (Go_callS bk_Md_laysFits 35 rfl nk_Md_has tw1367 tw1368 (as := [.int (σ.1 186 v1.toNatClampNeg), .int v2]) (S := []) rfl rfl rfl (Nat.le_of_ble_eq_true rfl) (Nat.le_of_ble_eq_true rfl) (ev_Md_has _ _ _ q15)) ?_
    refine Go.t (Go_sg bk_Md_laysFits 36 9 (c2 := (some 75, [some (.ref 166), some (.int v1), some (.int v2), some (.int x13)], [.int x13, .int (((12 : Int32) * v1) + v2), .ref 187], σ)) (ps := [shk 166 = 11]) rfl ⟨rfl, trivial⟩) ?_
    refine Go_if_eq bk_Md_laysFits 45 rfl (fun c25 => ?_) (fun c25 => ?_)
    · have h := ifT c25 h
      refine Go.t (Go_sg bk_Md_laysFits 51 1 (c2 := (some 88, [some (.ref 166), some (.int v1), some (.int v2), some (.int x13)], [.int (0 : Int32), .int (((12 : Int32) * v1) + v2), .ref 187], σ)) (ps := []) rfl trivial) ?_
      exact Go.t (Go.fg (LSub.cs (LSub.cs (LSub.cs (LSub.cs (LSub.nil)))))) (t_Md_laysFits_b88 v1 v2 x13 (0 : Int32) (((12 : Int32) * v1) + v2) σ h)
    · have h := ifF c25 h
      refine Go.t (Go_sg bk_Md_laysFits 46 3 (c2 := (some 81, [some (.ref 166), some (.int v1), some (.int v2), some (.int x13)], [.int v2, .int v1, .ref 166, .int (((12 : Int32) * v1) + v2), .ref 187], σ)) (ps := []) rfl trivial) ?_
      obtain ⟨x22, q24, h⟩ := bdS h
      refine Go.t (Go_callV bk_Md_laysFits 49 rfl nk_Md_slackBy tw1538 tw1540 tw75 (ci := 11) rfl (as := [.int v1, .int v2]) (S := [.int (((12 : Int32) * v1) + v2), .ref 187]) rfl rfl rfl rfl (Nat.le_of_ble_eq_true rfl) (Nat.le_of_ble_eq_true rfl) (ev_Md_slackBy _ _ _ q24)) ?_
      refine Go.t (Go_sg bk_Md_laysFits 50 1 (c2 := (some 88, [some (.ref 166), some (.int v1), some (.int v2), some (.int x13)], [.int x22, .int (((12 : Int32) * v1) + v2), .ref 187], σ)) (ps := []) rfl trivial) ?_
      exact Go.t (Go.fg (LSub.cs (LSub.cs (LSub.cs (LSub.cs (LSub.nil)))))) (t_Md_laysFits_b88 v1 v2 x13 x22 (((12 : Int32) * v1) + v2) σ h)
def Md_laysFits_L47 (v1 : Int32) (s : Int32 × MH) : Option ((MH)) := itr (fun s : Int32 × MH => Md_laysFits_l47 v1 s.1 s.2) FU s
set_option maxRecDepth 20000 in
set_option maxHeartbeats 2000000 in
theorem t_Md_laysFits_L47 (v1 : Int32)  (s : Int32 × MH) {r} (h : Md_laysFits_L47 v1 s = some r) : Go m_Md_laysFits 7 (cH_Md_laysFits_47 v1 s) (cR_Md_laysFits_47 v1 r) := Go_itr (fun s o ho => t_Md_laysFits_l47 v1 s.1 s.2 ho) FU s r h
def Md_laysFits_l39 (v1 : Int32) (σ : MH) : Option (((Int32 × MH) ⊕ ((MH)))) := if (12 : Int32) ≤ v1 then some (.inr (σ)) else ((Md_laysFits_L47 v1 ((0 : Int32), σ)).bind fun z27 => some (.inl (v1 + (1 : Int32), z27)))
set_option maxRecDepth 20000 in
set_option maxHeartbeats 2000000 in
theorem t_Md_laysFits_l39 (v1 : Int32)  (σ : MH) {o} (h : Md_laysFits_l39 v1 σ = some o) : Go m_Md_laysFits 7 (cH_Md_laysFits_39  (v1, σ)) (cS (cH_Md_laysFits_39 ) (cR_Md_laysFits_39 ) o) := by
  unfold Md_laysFits_l39 at h
  unfold cH_Md_laysFits_39
  refine Go.t (Go_sg bk_Md_laysFits 22 2 (c2 := (some 42, [some (.ref 166), some (.int v1), none, none], [.int (12 : Int32), .int v1], σ)) (ps := []) rfl trivial) ?_
  refine Go_icmp_ge bk_Md_laysFits 24 rfl (fun c29 => ?_) (fun c29 => ?_)
  · have h := ifT c29 h
    have h := Option.some.inj h
    subst h
    exact Go_ret0 bk_Md_laysFits 73 rfl
  · have h := ifF c29 h
    refine Go.t (Go_sg bk_Md_laysFits 25 2 (c2 := (some 47, [some (.ref 166), some (.int v1), some (.int (0 : Int32)), none], [], σ)) (ps := []) rfl trivial) ?_
    obtain ⟨z27, q28, h⟩ := bdS h
    refine Go.t (Go.t (Go.fg (LSub.cs (LSub.cs (LSub.cs (LSub.cn (LSub.nil)))))) (t_Md_laysFits_L47 v1 _ q28)) ?_
    refine Go.t (Go_sg bk_Md_laysFits 71 2 (c2 := (some 39, [some (.ref 166), some (.int (v1 + (1 : Int32))), none, none], [], z27)) (ps := []) rfl trivial) ?_
    have h := Option.some.inj h
    subst h
    exact Go.fg (LSub.cs (LSub.cs (LSub.cn (LSub.cn (LSub.nil)))))
def Md_laysFits_L39  (s : Int32 × MH) : Option ((MH)) := itr (fun s : Int32 × MH => Md_laysFits_l39 s.1 s.2) FU s
set_option maxRecDepth 20000 in
set_option maxHeartbeats 2000000 in
theorem t_Md_laysFits_L39   (s : Int32 × MH) {r} (h : Md_laysFits_L39  s = some r) : Go m_Md_laysFits 7 (cH_Md_laysFits_39  s) (cR_Md_laysFits_39  r) := Go_itr (fun s o ho => t_Md_laysFits_l39 s.1 s.2 ho) FU s r h
def Md_laysFits0  (σ : MH) : Option (MH) := (Md_laysFits_L2 ((0 : Int32), σ)).bind fun z10 => (Md_laysFits_L39 ((0 : Int32), z10)).bind fun z30 => some (z30)
set_option maxRecDepth 20000 in
set_option maxHeartbeats 2000000 in
theorem t_Md_laysFits0   (σ : MH) {o} (h : Md_laysFits0 σ = some o) : Go m_Md_laysFits 7 (some 0, [some (.ref 166), none, none, none], [], σ) ((none, [], [], o)) := by
  unfold Md_laysFits0 at h
  refine Go.t (Go_sg bk_Md_laysFits 0 2 (c2 := (some 2, [some (.ref 166), some (.int (0 : Int32)), none, none], [], σ)) (ps := []) rfl trivial) ?_
  obtain ⟨z10, q11, h⟩ := bdS h
  refine Go.t (Go.t (Go.fg (LSub.cs (LSub.cs (LSub.cn (LSub.cn (LSub.nil)))))) (t_Md_laysFits_L2 _ q11)) ?_
  refine Go.t (Go_sg bk_Md_laysFits 20 2 (c2 := (some 39, [some (.ref 166), some (.int (0 : Int32)), none, none], [], z10)) (ps := []) rfl trivial) ?_
  obtain ⟨z30, q31, h⟩ := bdS h
  refine Go.t (Go.t (Go.fg (LSub.cs (LSub.cs (LSub.cn (LSub.cn (LSub.nil)))))) (t_Md_laysFits_L39 _ q31)) ?_
  have h := Option.some.inj h
  subst h
  exact Go.rf
def Md_laysFits  (σ : MH) : Option (MH) := Md_laysFits0 σ
set_option maxRecDepth 20000 in
set_option maxHeartbeats 2000000 in
theorem ev_Md_laysFits   (σ : MH) {o} (h : Md_laysFits σ = some o) : Ev m_Md_laysFits 7 [.ref 166] σ none o := Ev.of2 (by decide +kernel) rfl (Nat.le_of_ble_eq_true rfl) rfl (t_Md_laysFits0 σ h)
def cH_Md_locks_22 (v1 : Int32) (σ : MH) (s : Int32 × Int32 × Int32) : MC := (some 22, [some (.ref 166), some (.int v1), some (.int s.1), some (.int s.2.1), some (.int s.2.2), none, none], [], σ)
def cR_Md_locks_22 (v1 : Int32) (σ : MH) : ((Int32 × Int32)) → MC := (fun r : Int32 × Int32 => ((some 149, [none, some (.int v1), some (.int r.1), some (.int r.2), none, none, none], [], σ) : MC))
def cH_Md_locks_35 (v1 : Int32) (v4 : Int32) (σ : MH) (s : Int32 × Int32 × Int32) : MC := (some 35, [some (.ref 166), some (.int v1), some (.int s.1), some (.int s.2.1), some (.int v4), some (.int s.2.2), none], [], σ)
def cR_Md_locks_35 (v1 : Int32) (v4 : Int32) (σ : MH) : ((Int32 × Int32)) → MC := (fun r : Int32 × Int32 => ((some 143, [some (.ref 166), some (.int v1), some (.int r.1), some (.int r.2), some (.int v4), none, none], [], σ) : MC))
def cH_Md_locks_48 (v1 : Int32) (v4 : Int32) (v5 : Int32) (σ : MH) (s : Int32 × Int32 × Int32) : MC := (some 48, [some (.ref 166), some (.int v1), some (.int s.1), some (.int s.2.1), some (.int v4), some (.int v5), some (.int s.2.2)], [], σ)
def cR_Md_locks_48 (v1 : Int32) (v4 : Int32) (v5 : Int32) (σ : MH) : ((Int32 × Int32)) → MC := (fun r : Int32 × Int32 => ((some 137, [some (.ref 166), some (.int v1), some (.int r.1), some (.int r.2), some (.int v4), some (.int v5), none], [], σ) : MC))
def Md_locks_b131 (v1 : Int32) (v2 : Int32) (v3 : Int32) (v4 : Int32) (v5 : Int32) (v6 : Int32) (σ : MH) : Option (((Int32 × Int32 × Int32) ⊕ ((Int32 × Int32)))) := some (.inl (v2, v3, v6 + (1 : Int32)))
set_option maxRecDepth 20000 in
set_option maxHeartbeats 2000000 in
theorem t_Md_locks_b131 (v1 : Int32) (v2 : Int32) (v3 : Int32) (v4 : Int32) (v5 : Int32) (v6 : Int32)   (σ : MH) {o} (h : Md_locks_b131 v1 v2 v3 v4 v5 v6 σ = some o) : Go m_Md_locks 8 (some 131, [some (.ref 166), some (.int v1), some (.int v2), some (.int v3), some (.int v4), some (.int v5), some (.int v6)], [], σ) (cS (cH_Md_locks_48 v1 v4 v5 σ) (cR_Md_locks_48 v1 v4 v5 σ) o) := by
  unfold Md_locks_b131 at h
  refine Go.t (Go_sg bk_Md_locks 72 2 (c2 := (some 48, [some (.ref 166), some (.int v1), some (.int v2), some (.int v3), some (.int v4), some (.int v5), some (.int (v6 + (1 : Int32)))], [], σ)) (ps := []) rfl trivial) ?_
  have h := Option.some.inj h
  subst h
  exact Go.fg (LSub.cs (LSub.cs (LSub.cs (LSub.cs (LSub.cs (LSub.cs (LSub.cs (LSub.nil))))))))
def Md_locks_b126 (v1 : Int32) (v2 : Int32) (v4 : Int32) (v5 : Int32) (v6 : Int32) (s0 : Int32) (σ : MH) : Option (((Int32 × Int32 × Int32) ⊕ ((Int32 × Int32)))) := Md_locks_b131 v1 (v2 + (1 : Int32)) s0 v4 v5 v6 σ
set_option maxRecDepth 20000 in
set_option maxHeartbeats 2000000 in
theorem t_Md_locks_b126 (v1 : Int32) (v2 : Int32) (v4 : Int32) (v5 : Int32) (v6 : Int32) (s0 : Int32)   (σ : MH) {o} (h : Md_locks_b126 v1 v2 v4 v5 v6 s0 σ = some o) : Go m_Md_locks 8 (some 126, [some (.ref 166), some (.int v1), some (.int v2), none, some (.int v4), some (.int v5), some (.int v6)], [.int s0], σ) (cS (cH_Md_locks_48 v1 v4 v5 σ) (cR_Md_locks_48 v1 v4 v5 σ) o) := by
  unfold Md_locks_b126 at h
  refine Go.t (Go_sg bk_Md_locks 67 5 (c2 := (some 131, [some (.ref 166), some (.int v1), some (.int (v2 + (1 : Int32))), some (.int s0), some (.int v4), some (.int v5), some (.int v6)], [], σ)) (ps := []) rfl trivial) ?_
  exact Go.t (Go.fg (LSub.cs (LSub.cs (LSub.cs (LSub.cs (LSub.cs (LSub.cs (LSub.cs (LSub.nil))))))))) (t_Md_locks_b131 v1 (v2 + (1 : Int32)) s0 v4 v5 v6 σ h)
def Md_locks_l48 (v1 : Int32) (v4 : Int32) (v5 : Int32) (v2 : Int32) (v3 : Int32) (v6 : Int32) (σ : MH) : Option (((Int32 × Int32 × Int32) ⊕ ((Int32 × Int32)))) := if (12 : Int32) ≤ v6 then some (.inr (v2, v3)) else (if inb v4 12 = true then (Md_has (σ.1 186 v4.toNatClampNeg) v5 σ).bind fun x8 => if x8 = (0 : Int32) then (Md_locks_b131 v1 v2 v3 v4 v5 v6 σ) else ((Md_has (σ.1 186 v4.toNatClampNeg) v6 σ).bind fun x11 => if x11 = (0 : Int32) then (Md_locks_b131 v1 v2 v3 v4 v5 v6 σ) else (if inb v5 12 = true then (Md_has (σ.1 186 v5.toNatClampNeg) v6 σ).bind fun x15 => if x15 = (0 : Int32) then (Md_locks_b131 v1 v2 v3 v4 v5 v6 σ) else (if v2 = (0 : Int32) then (Md_locks_b126 v1 v2 v4 v5 v6 ((((144 : Int32) * v4) + ((12 : Int32) * v5)) + v6) σ) else (Md_locks_b126 v1 v2 v4 v5 v6 v3 σ)) else none)) else none)
set_option maxRecDepth 20000 in
set_option maxHeartbeats 2000000 in
theorem t_Md_locks_l48 (v1 : Int32) (v4 : Int32) (v5 : Int32) (v2 : Int32) (v3 : Int32) (v6 : Int32)  (σ : MH) {o} (h : Md_locks_l48 v1 v4 v5 v2 v3 v6 σ = some o) : Go m_Md_locks 8 (cH_Md_locks_48 v1 v4 v5 σ (v2, v3, v6)) (cS (cH_Md_locks_48 v1 v4 v5 σ) (cR_Md_locks_48 v1 v4 v5 σ) o) := by
  unfold Md_locks_l48 at h
  unfold cH_Md_locks_48
  refine Go.t (Go_sg bk_Md_locks 29 2 (c2 := (some 52, [some (.ref 166), some (.int v1), some (.int v2), some (.int v3), some (.int v4), some (.int v5), some (.int v6)], [.int (12 : Int32), .int v6], σ)) (ps := []) rfl trivial) ?_
  refine Go_icmp_ge bk_Md_locks 31 rfl (fun c22 => ?_) (fun c22 => ?_)
  · have h := ifT c22 h
    have h := Option.some.inj h
    subst h
    exact Go.fg (LSub.cs (LSub.cs (LSub.cs (LSub.cs (LSub.cs (LSub.cs (LSub.cn (LSub.nil))))))))
  · have h := ifF c22 h
    obtain ⟨g7, h⟩ := gdS h
    refine Go.t (Go_sg bk_Md_locks 32 5 (c2 := (some 64, [some (.ref 166), some (.int v1), some (.int v2), some (.int v3), some (.int v4), some (.int v5), some (.int v6)], [.int v5, .int (σ.1 186 v4.toNatClampNeg)], σ)) (ps := [shk 166 = 11, IA 186 12 ∧ inb v4 12 = true]) rfl ⟨rfl, ⟨⟨rfl, rfl⟩, g7⟩, trivial⟩) ?_
    obtain ⟨x8, q10, h⟩ := bdS h
    refine Go.t (Go_callS bk_Md_locks 37 rfl nk_Md_has tw1367 tw1368 (as := [.int (σ.1 186 v4.toNatClampNeg), .int v5]) (S := []) rfl rfl rfl (Nat.le_of_ble_eq_true rfl) (Nat.le_of_ble_eq_true rfl) (ev_Md_has _ _ _ q10)) ?_
    refine Go_if_eq bk_Md_locks 38 rfl (fun c21 => ?_) (fun c21 => ?_)
    · have h := ifT c21 h
      exact Go.t (Go.fg (LSub.cs (LSub.cs (LSub.cs (LSub.cs (LSub.cs (LSub.cs (LSub.cs (LSub.nil))))))))) (t_Md_locks_b131 v1 v2 v3 v4 v5 v6 σ h)
    · have h := ifF c21 h
      refine Go.t (Go_sg bk_Md_locks 39 5 (c2 := (some 79, [some (.ref 166), some (.int v1), some (.int v2), some (.int v3), some (.int v4), some (.int v5), some (.int v6)], [.int v6, .int (σ.1 186 v4.toNatClampNeg)], σ)) (ps := [shk 166 = 11, IA 186 12 ∧ inb v4 12 = true]) rfl ⟨rfl, ⟨⟨rfl, rfl⟩, g7⟩, trivial⟩) ?_
      obtain ⟨x11, q13, h⟩ := bdS h
      refine Go.t (Go_callS bk_Md_locks 44 rfl nk_Md_has tw1367 tw1368 (as := [.int (σ.1 186 v4.toNatClampNeg), .int v6]) (S := []) rfl rfl rfl (Nat.le_of_ble_eq_true rfl) (Nat.le_of_ble_eq_true rfl) (ev_Md_has _ _ _ q13)) ?_
      refine Go_if_eq bk_Md_locks 45 rfl (fun c20 => ?_) (fun c20 => ?_)
      · have h := ifT c20 h
        exact Go.t (Go.fg (LSub.cs (LSub.cs (LSub.cs (LSub.cs (LSub.cs (LSub.cs (LSub.cs (LSub.nil))))))))) (t_Md_locks_b131 v1 v2 v3 v4 v5 v6 σ h)
      · have h := ifF c20 h
        obtain ⟨g14, h⟩ := gdS h
        refine Go.t (Go_sg bk_Md_locks 46 5 (c2 := (some 94, [some (.ref 166), some (.int v1), some (.int v2), some (.int v3), some (.int v4), some (.int v5), some (.int v6)], [.int v6, .int (σ.1 186 v5.toNatClampNeg)], σ)) (ps := [shk 166 = 11, IA 186 12 ∧ inb v5 12 = true]) rfl ⟨rfl, ⟨⟨rfl, rfl⟩, g14⟩, trivial⟩) ?_
        obtain ⟨x15, q17, h⟩ := bdS h
        refine Go.t (Go_callS bk_Md_locks 51 rfl nk_Md_has tw1367 tw1368 (as := [.int (σ.1 186 v5.toNatClampNeg), .int v6]) (S := []) rfl rfl rfl (Nat.le_of_ble_eq_true rfl) (Nat.le_of_ble_eq_true rfl) (ev_Md_has _ _ _ q17)) ?_
        refine Go_if_ne bk_Md_locks 52 rfl (fun c19 => ?_) (fun c19 => ?_)
        · have h := ifF c19 h
          refine Go.t (Go_sg bk_Md_locks 54 1 (c2 := (some 104, [some (.ref 166), some (.int v1), some (.int v2), some (.int v3), some (.int v4), some (.int v5), some (.int v6)], [.int v2], σ)) (ps := []) rfl trivial) ?_
          refine Go_if_ne bk_Md_locks 55 rfl (fun c18 => ?_) (fun c18 => ?_)
          · have h := ifF c18 h
            refine Go.t (Go_sg bk_Md_locks 66 1 (c2 := (some 126, [some (.ref 166), some (.int v1), some (.int v2), some (.int v3), some (.int v4), some (.int v5), some (.int v6)], [.int v3], σ)) (ps := []) rfl trivial) ?_
            exact Go.t (Go.fg (LSub.cs (LSub.cs (LSub.cs (LSub.cn (LSub.cs (LSub.cs (LSub.cs (LSub.nil))))))))) (t_Md_locks_b126 v1 v2 v4 v5 v6 v3 σ h)
          · have h := ifT c18 h
            refine Go.t (Go_sg bk_Md_locks 56 10 (c2 := (some 126, [some (.ref 166), some (.int v1), some (.int v2), some (.int v3), some (.int v4), some (.int v5), some (.int v6)], [.int ((((144 : Int32) * v4) + ((12 : Int32) * v5)) + v6)], σ)) (ps := []) rfl trivial) ?_
            exact Go.t (Go.fg (LSub.cs (LSub.cs (LSub.cs (LSub.cn (LSub.cs (LSub.cs (LSub.cs (LSub.nil))))))))) (t_Md_locks_b126 v1 v2 v4 v5 v6 ((((144 : Int32) * v4) + ((12 : Int32) * v5)) + v6) σ h)
        · have h := ifT c19 h
          refine Go.t (Go_sg bk_Md_locks 53 1 (c2 := (some 131, [some (.ref 166), some (.int v1), some (.int v2), some (.int v3), some (.int v4), some (.int v5), some (.int v6)], [], σ)) (ps := []) rfl trivial) ?_
          exact Go.t (Go.fg (LSub.cs (LSub.cs (LSub.cs (LSub.cs (LSub.cs (LSub.cs (LSub.cs (LSub.nil))))))))) (t_Md_locks_b131 v1 v2 v3 v4 v5 v6 σ h)
def Md_locks_L48 (v1 : Int32) (v4 : Int32) (v5 : Int32) (σ : MH) (s : Int32 × Int32 × Int32) : Option ((Int32 × Int32)) := itr (fun s : Int32 × Int32 × Int32 => Md_locks_l48 v1 v4 v5 s.1 s.2.1 s.2.2 σ) FU s
set_option maxRecDepth 20000 in
set_option maxHeartbeats 2000000 in
theorem t_Md_locks_L48 (v1 : Int32) (v4 : Int32) (v5 : Int32)  (σ : MH) (s : Int32 × Int32 × Int32) {r} (h : Md_locks_L48 v1 v4 v5 σ s = some r) : Go m_Md_locks 8 (cH_Md_locks_48 v1 v4 v5 σ s) (cR_Md_locks_48 v1 v4 v5 σ r) := Go_itr (fun s o ho => t_Md_locks_l48 v1 v4 v5 s.1 s.2.1 s.2.2 σ ho) FU s r h
def Md_locks_l35 (v1 : Int32) (v4 : Int32) (v2 : Int32) (v3 : Int32) (v5 : Int32) (σ : MH) : Option (((Int32 × Int32 × Int32) ⊕ ((Int32 × Int32)))) := if (12 : Int32) ≤ v5 then some (.inr (v2, v3)) else ((Md_locks_L48 v1 v4 v5 σ (v2, v3, v5 + (1 : Int32))).bind fun z23 => some (.inl (z23.1, z23.2, v5 + (1 : Int32))))
set_option maxRecDepth 20000 in
set_option maxHeartbeats 2000000 in
theorem t_Md_locks_l35 (v1 : Int32) (v4 : Int32) (v2 : Int32) (v3 : Int32) (v5 : Int32)  (σ : MH) {o} (h : Md_locks_l35 v1 v4 v2 v3 v5 σ = some o) : Go m_Md_locks 8 (cH_Md_locks_35 v1 v4 σ (v2, v3, v5)) (cS (cH_Md_locks_35 v1 v4 σ) (cR_Md_locks_35 v1 v4 σ) o) := by
  unfold Md_locks_l35 at h
  unfold cH_Md_locks_35
  refine Go.t (Go_sg bk_Md_locks 22 2 (c2 := (some 39, [some (.ref 166), some (.int v1), some (.int v2), some (.int v3), some (.int v4), some (.int v5), none], [.int (12 : Int32), .int v5], σ)) (ps := []) rfl trivial) ?_
  refine Go_icmp_ge bk_Md_locks 24 rfl (fun c25 => ?_) (fun c25 => ?_)
  · have h := ifT c25 h
    have h := Option.some.inj h
    subst h
    exact Go.fg (LSub.cs (LSub.cs (LSub.cs (LSub.cs (LSub.cs (LSub.cn (LSub.cn (LSub.nil))))))))
  · have h := ifF c25 h
    refine Go.t (Go_sg bk_Md_locks 25 4 (c2 := (some 48, [some (.ref 166), some (.int v1), some (.int v2), some (.int v3), some (.int v4), some (.int v5), some (.int (v5 + (1 : Int32)))], [], σ)) (ps := []) rfl trivial) ?_
    obtain ⟨z23, q24, h⟩ := bdS h
    refine Go.t (Go.t (Go.fg (LSub.cs (LSub.cs (LSub.cs (LSub.cs (LSub.cs (LSub.cs (LSub.cs (LSub.nil))))))))) (t_Md_locks_L48 v1 v4 v5 σ _ q24)) ?_
    refine Go.t (Go_sg bk_Md_locks 74 2 (c2 := (some 35, [some (.ref 166), some (.int v1), some (.int z23.1), some (.int z23.2), some (.int v4), some (.int (v5 + (1 : Int32))), none], [], σ)) (ps := []) rfl trivial) ?_
    have h := Option.some.inj h
    subst h
    exact Go.fg (LSub.cs (LSub.cs (LSub.cs (LSub.cs (LSub.cs (LSub.cs (LSub.cn (LSub.nil))))))))
def Md_locks_L35 (v1 : Int32) (v4 : Int32) (σ : MH) (s : Int32 × Int32 × Int32) : Option ((Int32 × Int32)) := itr (fun s : Int32 × Int32 × Int32 => Md_locks_l35 v1 v4 s.1 s.2.1 s.2.2 σ) FU s
set_option maxRecDepth 20000 in
set_option maxHeartbeats 2000000 in
theorem t_Md_locks_L35 (v1 : Int32) (v4 : Int32)  (σ : MH) (s : Int32 × Int32 × Int32) {r} (h : Md_locks_L35 v1 v4 σ s = some r) : Go m_Md_locks 8 (cH_Md_locks_35 v1 v4 σ s) (cR_Md_locks_35 v1 v4 σ r) := Go_itr (fun s o ho => t_Md_locks_l35 v1 v4 s.1 s.2.1 s.2.2 σ ho) FU s r h
def Md_locks_l22 (v1 : Int32) (v2 : Int32) (v3 : Int32) (v4 : Int32) (σ : MH) : Option (((Int32 × Int32 × Int32) ⊕ ((Int32 × Int32)))) := if (12 : Int32) ≤ v4 then some (.inr (v2, v3)) else ((Md_locks_L35 v1 v4 σ (v2, v3, v4 + (1 : Int32))).bind fun z26 => some (.inl (z26.1, z26.2, v4 + (1 : Int32))))
set_option maxRecDepth 20000 in
set_option maxHeartbeats 2000000 in
theorem t_Md_locks_l22 (v1 : Int32) (v2 : Int32) (v3 : Int32) (v4 : Int32)  (σ : MH) {o} (h : Md_locks_l22 v1 v2 v3 v4 σ = some o) : Go m_Md_locks 8 (cH_Md_locks_22 v1 σ (v2, v3, v4)) (cS (cH_Md_locks_22 v1 σ) (cR_Md_locks_22 v1 σ) o) := by
  unfold Md_locks_l22 at h
  unfold cH_Md_locks_22
  refine Go.t (Go_sg bk_Md_locks 15 2 (c2 := (some 26, [some (.ref 166), some (.int v1), some (.int v2), some (.int v3), some (.int v4), none, none], [.int (12 : Int32), .int v4], σ)) (ps := []) rfl trivial) ?_
  refine Go_icmp_ge bk_Md_locks 17 rfl (fun c28 => ?_) (fun c28 => ?_)
  · have h := ifT c28 h
    have h := Option.some.inj h
    subst h
    exact Go.fg (LSub.cn (LSub.cs (LSub.cs (LSub.cs (LSub.cn (LSub.cn (LSub.cn (LSub.nil))))))))
  · have h := ifF c28 h
    refine Go.t (Go_sg bk_Md_locks 18 4 (c2 := (some 35, [some (.ref 166), some (.int v1), some (.int v2), some (.int v3), some (.int v4), some (.int (v4 + (1 : Int32))), none], [], σ)) (ps := []) rfl trivial) ?_
    obtain ⟨z26, q27, h⟩ := bdS h
    refine Go.t (Go.t (Go.fg (LSub.cs (LSub.cs (LSub.cs (LSub.cs (LSub.cs (LSub.cs (LSub.cn (LSub.nil))))))))) (t_Md_locks_L35 v1 v4 σ _ q27)) ?_
    refine Go.t (Go_sg bk_Md_locks 76 2 (c2 := (some 22, [some (.ref 166), some (.int v1), some (.int z26.1), some (.int z26.2), some (.int (v4 + (1 : Int32))), none, none], [], σ)) (ps := []) rfl trivial) ?_
    have h := Option.some.inj h
    subst h
    exact Go.fg (LSub.cs (LSub.cs (LSub.cs (LSub.cs (LSub.cs (LSub.cn (LSub.cn (LSub.nil))))))))
def Md_locks_L22 (v1 : Int32) (σ : MH) (s : Int32 × Int32 × Int32) : Option ((Int32 × Int32)) := itr (fun s : Int32 × Int32 × Int32 => Md_locks_l22 v1 s.1 s.2.1 s.2.2 σ) FU s
set_option maxRecDepth 20000 in
set_option maxHeartbeats 2000000 in
theorem t_Md_locks_L22 (v1 : Int32)  (σ : MH) (s : Int32 × Int32 × Int32) {r} (h : Md_locks_L22 v1 σ s = some r) : Go m_Md_locks 8 (cH_Md_locks_22 v1 σ s) (cR_Md_locks_22 v1 σ r) := Go_itr (fun s o ho => t_Md_locks_l22 v1 s.1 s.2.1 s.2.2 σ ho) FU s r h
def Md_locks0 (v1 : Int32) (σ : MH) : Option (Int32 × MH) := (Md_in v1 (0 : Int32) (3 : Int32) σ).bind fun x1 => if x1 = (0 : Int32) then some ((-1 : Int32), σ) else ((Md_laysFits σ).bind fun σ5 => (Md_locks_L22 v1 σ5 ((0 : Int32), (-1 : Int32), (0 : Int32))).bind fun z29 => if v1 = (0 : Int32) then some (z29.1, σ5) else (if z29.2 = (-1 : Int32) then some ((-2 : Int32), σ5) else (if v1 = (1 : Int32) then some (z29.2 / (144 : Int32), σ5) else (if v1 = (2 : Int32) then some (jrem (z29.2 / (12 : Int32)) (12 : Int32), σ5) else some (jrem z29.2 (12 : Int32), σ5)))))
set_option maxRecDepth 20000 in
set_option maxHeartbeats 2000000 in
theorem t_Md_locks0 (v1 : Int32)  (σ : MH) {o} (h : Md_locks0 v1 σ = some o) : Go m_Md_locks 8 (some 0, [some (.ref 166), some (.int v1), none, none, none, none, none], [], σ) ((none, [], [.int o.1], o.2)) := by
  unfold Md_locks0 at h
  refine Go.t (Go_sg bk_Md_locks 0 3 (c2 := (some 3, [some (.ref 166), some (.int v1), none, none, none, none, none], [.int (3 : Int32), .int (0 : Int32), .int v1], σ)) (ps := []) rfl trivial) ?_
  obtain ⟨x1, q3, h⟩ := bdS h
  refine Go.t (Go_callS bk_Md_locks 3 rfl nk_Md_in tw1370 tw1371 (as := [.int v1, .int (0 : Int32), .int (3 : Int32)]) (S := []) rfl rfl rfl (Nat.le_of_ble_eq_true rfl) (Nat.le_of_ble_eq_true rfl) (ev_Md_in _ _ _ _ q3)) ?_
  refine Go_if_ne bk_Md_locks 4 rfl (fun c35 => ?_) (fun c35 => ?_)
  · have h := ifF c35 h
    refine Go.t (Go_sg bk_Md_locks 7 1 (c2 := (some 12, [some (.ref 166), some (.int v1), none, none, none, none, none], [.ref 166], σ)) (ps := []) rfl trivial) ?_
    obtain ⟨σ5, q6, h⟩ := bdS h
    refine Go.t (Go_callV bk_Md_locks 8 rfl nk_Md_laysFits tw1631 tw1633 tw89 (ci := 11) rfl (as := []) (S := []) rfl rfl rfl rfl (Nat.le_of_ble_eq_true rfl) (Nat.le_of_ble_eq_true rfl) (ev_Md_laysFits _ q6)) ?_
    refine Go.t (Go_sg bk_Md_locks 9 6 (c2 := (some 22, [some (.ref 166), some (.int v1), some (.int (0 : Int32)), some (.int (-1 : Int32)), some (.int (0 : Int32)), none, none], [], σ5)) (ps := []) rfl trivial) ?_
    obtain ⟨z29, q30, h⟩ := bdS h
    refine Go.t (Go.t (Go.fg (LSub.cs (LSub.cs (LSub.cs (LSub.cs (LSub.cs (LSub.cn (LSub.cn (LSub.nil))))))))) (t_Md_locks_L22 v1 σ5 _ q30)) ?_
    refine Go.t (Go_sg bk_Md_locks 78 1 (c2 := (some 150, [none, some (.int v1), some (.int z29.1), some (.int z29.2), none, none, none], [.int v1], σ5)) (ps := []) rfl trivial) ?_
    refine Go_if_ne bk_Md_locks 79 rfl (fun c34 => ?_) (fun c34 => ?_)
    · have h := ifF c34 h
      refine Go.t (Go_sg bk_Md_locks 82 2 (c2 := (some 159, [none, some (.int v1), some (.int z29.1), some (.int z29.2), none, none, none], [.int (-1 : Int32), .int z29.2], σ5)) (ps := []) rfl trivial) ?_
      refine Go_icmp_ne bk_Md_locks 84 rfl (fun c33 => ?_) (fun c33 => ?_)
      · have h := ifF c33 h
        refine Go.t (Go_sg bk_Md_locks 87 2 (c2 := (some 169, [none, some (.int v1), some (.int z29.1), some (.int z29.2), none, none, none], [.int (1 : Int32), .int v1], σ5)) (ps := []) rfl trivial) ?_
        refine Go_icmp_ne bk_Md_locks 89 rfl (fun c32 => ?_) (fun c32 => ?_)
        · have h := ifF c32 h
          refine Go.t (Go_sg bk_Md_locks 94 2 (c2 := (some 182, [none, some (.int v1), some (.int z29.1), some (.int z29.2), none, none, none], [.int (2 : Int32), .int v1], σ5)) (ps := []) rfl trivial) ?_
          refine Go_icmp_ne bk_Md_locks 96 rfl (fun c31 => ?_) (fun c31 => ?_)
          · have h := ifF c31 h
            have h := Option.some.inj h
            subst h
            refine Go.t (Go_sg bk_Md_locks 103 3 (c2 := (some 199, [none, some (.int v1), some (.int z29.1), some (.int z29.2), none, none, none], [.int (jrem z29.2 (12 : Int32))], σ5)) (ps := [(12 : Int32) ≠ 0]) rfl ⟨(by decide), trivial⟩) ?_
            exact Go_reti bk_Md_locks 106 rfl
          · have h := ifT c31 h
            refine Go.t (Go_sg bk_Md_locks 97 6 (c2 := (some 199, [none, some (.int v1), some (.int z29.1), some (.int z29.2), none, none, none], [.int (jrem (z29.2 / (12 : Int32)) (12 : Int32))], σ5)) (ps := [(12 : Int32) ≠ 0, (12 : Int32) ≠ 0]) rfl ⟨(by decide), (by decide), trivial⟩) ?_
            have h := Option.some.inj h
            subst h
            exact Go_reti bk_Md_locks 106 rfl
        · have h := ifT c32 h
          refine Go.t (Go_sg bk_Md_locks 90 4 (c2 := (some 199, [none, some (.int v1), some (.int z29.1), some (.int z29.2), none, none, none], [.int (z29.2 / (144 : Int32))], σ5)) (ps := [(144 : Int32) ≠ 0]) rfl ⟨(by decide), trivial⟩) ?_
          have h := Option.some.inj h
          subst h
          exact Go_reti bk_Md_locks 106 rfl
      · have h := ifT c33 h
        refine Go.t (Go_sg bk_Md_locks 85 2 (c2 := (some 199, [none, some (.int v1), some (.int z29.1), some (.int z29.2), none, none, none], [.int (-2 : Int32)], σ5)) (ps := []) rfl trivial) ?_
        have h := Option.some.inj h
        subst h
        exact Go_reti bk_Md_locks 106 rfl
    · have h := ifT c34 h
      refine Go.t (Go_sg bk_Md_locks 80 2 (c2 := (some 199, [none, some (.int v1), some (.int z29.1), some (.int z29.2), none, none, none], [.int z29.1], σ5)) (ps := []) rfl trivial) ?_
      have h := Option.some.inj h
      subst h
      exact Go_reti bk_Md_locks 106 rfl
  · have h := ifT c35 h
    have h := Option.some.inj h
    subst h
    refine Go.t (Go_sg bk_Md_locks 5 1 (c2 := (some 10, [some (.ref 166), some (.int v1), none, none, none, none, none], [.int (-1 : Int32)], σ)) (ps := []) rfl trivial) ?_
    exact Go_reti bk_Md_locks 6 rfl
def Md_locks (v1 : Int32) (σ : MH) : Option (Int32 × MH) := Md_locks0 v1 σ
set_option maxRecDepth 20000 in
set_option maxHeartbeats 2000000 in
theorem ev_Md_locks (v1 : Int32)  (σ : MH) {o} (h : Md_locks v1 σ = some o) : Ev m_Md_locks 8 [.ref 166, .int v1] σ (some (.int o.1)) o.2 := Ev.of2 (by decide +kernel) rfl (Nat.le_of_ble_eq_true rfl) ⟨.int, rfl, rfl⟩ (t_Md_locks0 v1 σ h)
