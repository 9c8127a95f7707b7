/-! FUNCTIONS: Md_workAt Md_workBy Md_laysWork Md_laysSanded Md_slackOfSanded Md_sanding Md_slackSteamed Md_steaming Md_worn Md_makes Md_makesAll Md_cutter -/
def Md_workAt0 (v1 : Int32) (v2 : Int32) (v3 : Int32) (σ : MH) : Option (Int32) := if inb ((((3721 : Int32) * v1) + ((61 : Int32) * v2)) + v3) 33489 = true then some (σ.1 193 ((((3721 : Int32) * v1) + ((61 : Int32) * v2)) + v3).toNatClampNeg) else none
set_option maxRecDepth 20000 in
set_option maxHeartbeats 2000000 in
theorem t_Md_workAt0 (v1 : Int32) (v2 : Int32) (v3 : Int32)  (σ : MH) {o} (h : Md_workAt0 v1 v2 v3 σ = some o) : Go m_Md_workAt 1 (some 0, [some (.ref 166), some (.int v1), some (.int v2), some (.int v3)], [], σ) ((none, [], [.int o], σ)) := by
  unfold Md_workAt0 at h
  obtain ⟨g1, h⟩ := gdS h
  have h := Option.some.inj h
  subst h
  refine Go.t (Go_sg bk_Md_workAt 0 12 (c2 := (some 17, [some (.ref 166), some (.int v1), some (.int v2), some (.int v3)], [.int (σ.1 193 ((((3721 : Int32) * v1) + ((61 : Int32) * v2)) + v3).toNatClampNeg)], σ)) (ps := [shk 166 = 11, IA 193 33489 ∧ inb ((((3721 : Int32) * v1) + ((61 : Int32) * v2)) + v3) 33489 = true]) rfl ⟨rfl, ⟨⟨rfl, rfl⟩, g1⟩, trivial⟩) ?_
  exact Go_reti bk_Md_workAt 12 rfl
def Md_workAt (v1 : Int32) (v2 : Int32) (v3 : Int32) (σ : MH) : Option (Int32) := Md_workAt0 v1 v2 v3 σ
set_option maxRecDepth 20000 in
set_option maxHeartbeats 2000000 in
theorem ev_Md_workAt (v1 : Int32) (v2 : Int32) (v3 : Int32)  (σ : MH) {o} (h : Md_workAt v1 v2 v3 σ = some o) : Ev m_Md_workAt 1 [.ref 166, .int v1, .int v2, .int v3] σ (some (.int o)) σ := Ev.of2 (by decide +kernel) rfl (Nat.le_of_ble_eq_true rfl) ⟨.int, rfl, rfl⟩ (t_Md_workAt0 v1 v2 v3 σ h)
def Md_workBy_b54 (v1 : Int32) (v2 : Int32) (v5 : Int32) (s0 : Int32) (σ : MH) : Option (Int32) := if v5 < (0 : Int32) then some ((1000000000 : Int32)) else (if (0 : Int32) ≤ s0 then ((Md_workAt (v1 + (1 : Int32)) v5 s0 σ).bind fun x13 => if x13 = (1000000000 : Int32) then some ((1000000000 : Int32)) else ((Md_heightOf (σ.1 166 43) v1 σ).bind fun x16 => (Md_size (v2 - x16) σ).bind fun x19 => some (x13 + x19))) else some ((1000000000 : Int32)))
set_option maxRecDepth 20000 in
set_option maxHeartbeats 2000000 in
theorem t_Md_workBy_b54 (v1 : Int32) (v2 : Int32) (v5 : Int32) (s0 : Int32)   (σ : MH) {o} (h : Md_workBy_b54 v1 v2 v5 s0 σ = some o) : Go m_Md_workBy 2 (some 54, [some (.ref 166), some (.int v1), some (.int v2), none, none, some (.int v5), none, none], [.int s0], σ) ((none, [], [.int o], σ)) := by
  unfold Md_workBy_b54 at h
  refine Go.t (Go_sg bk_Md_workBy 31 2 (c2 := (some 58, [some (.ref 166), some (.int v1), some (.int v2), none, none, some (.int v5), some (.int s0), none], [.int v5], σ)) (ps := []) rfl trivial) ?_
  refine Go_if_lt bk_Md_workBy 33 rfl (fun c24 => ?_) (fun c24 => ?_)
  · have h := ifT c24 h
    have h := Option.some.inj h
    subst h
    refine Go.t (Go_sg bk_Md_workBy 36 1 (c2 := (some 68, [some (.ref 166), some (.int v1), some (.int v2), none, none, some (.int v5), some (.int s0), none], [.int (1000000000 : Int32)], σ)) (ps := []) rfl trivial) ?_
    exact Go_reti bk_Md_workBy 37 rfl
  · have h := ifF c24 h
    refine Go.t (Go_sg bk_Md_workBy 34 1 (c2 := (some 63, [some (.ref 166), some (.int v1), some (.int v2), none, none, some (.int v5), some (.int s0), none], [.int s0], σ)) (ps := []) rfl trivial) ?_
    refine Go_if_ge bk_Md_workBy 35 rfl (fun c23 => ?_) (fun c23 => ?_)
    · have h := ifT c23 h
      refine Go.t (Go_sg bk_Md_workBy 38 6 (c2 := (some 77, [some (.ref 166), some (.int v1), some (.int v2), none, none, some (.int v5), some (.int s0), none], [.int s0, .int v5, .int (v1 + (1 : Int32)), .ref 166], σ)) (ps := []) rfl trivial) ?_
      obtain ⟨x13, q15, h⟩ := bdS h
      refine Go.t (Go_callV bk_Md_workBy 44 rfl nk_Md_workAt tw1711 tw1713 tw103 (ci := 11) rfl (as := [.int (v1 + (1 : Int32)), .int v5, .int s0]) (S := []) rfl rfl rfl rfl (Nat.le_of_ble_eq_true rfl) (Nat.le_of_ble_eq_true rfl) (ev_Md_workAt _ _ _ _ q15)) ?_
      refine Go.t (Go_sg bk_Md_workBy 45 3 (c2 := (some 86, [some (.ref 166), some (.int v1), some (.int v2), none, none, some (.int v5), some (.int s0), some (.int x13)], [.int (1000000000 : Int32), .int x13], σ)) (ps := []) rfl trivial) ?_
      refine Go_icmp_ne bk_Md_workBy 48 rfl (fun c22 => ?_) (fun c22 => ?_)
      · have h := ifF c22 h
        refine Go.t (Go_sg bk_Md_workBy 51 6 (c2 := (some 103, [some (.ref 166), some (.int v1), some (.int v2), none, none, some (.int v5), some (.int s0), some (.int x13)], [.int v1, .int (σ.1 166 43), .ref 166, .int v2, .int x13], σ)) (ps := [shk 166 = 11]) rfl ⟨rfl, trivial⟩) ?_
        obtain ⟨x16, q18, h⟩ := bdS h
        refine Go.t (Go_callV bk_Md_workBy 57 rfl nk_Md_heightOf tw1547 tw1549 tw77 (ci := 11) rfl (as := [.int (σ.1 166 43), .int v1]) (S := [.int v2, .int x13]) rfl rfl rfl rfl (Nat.le_of_ble_eq_true rfl) (Nat.le_of_ble_eq_true rfl) (ev_Md_heightOf _ _ _ q18)) ?_
        refine Go.t (Go_sg bk_Md_workBy 58 1 (c2 := (some 107, [some (.ref 166), some (.int v1), some (.int v2), none, none, some (.int v5), some (.int s0), some (.int x13)], [.int (v2 - x16), .int x13], σ)) (ps := []) rfl trivial) ?_
        obtain ⟨x19, q21, h⟩ := bdS h
        refine Go.t (Go_callS bk_Md_workBy 59 rfl nk_Md_size tw1503 tw1504 (as := [.int (v2 - x16)]) (S := [.int x13]) rfl rfl rfl (Nat.le_of_ble_eq_true rfl) (Nat.le_of_ble_eq_true rfl) (ev_Md_size _ _ q21)) ?_
        have h := Option.some.inj h
        subst h
        refine Go.t (Go_sg bk_Md_workBy 60 1 (c2 := (some 111, [some (.ref 166), some (.int v1), some (.int v2), none, none, some (.int v5), some (.int s0), some (.int x13)], [.int (x13 + x19)], σ)) (ps := []) rfl trivial) ?_
        exact Go_reti bk_Md_workBy 61 rfl
      · have h := ifT c22 h
        refine Go.t (Go_sg bk_Md_workBy 49 2 (c2 := (some 111, [some (.ref 166), some (.int v1), some (.int v2), none, none, some (.int v5), some (.int s0), some (.int x13)], [.int (1000000000 : Int32)], σ)) (ps := []) rfl trivial) ?_
        have h := Option.some.inj h
        subst h
        exact Go_reti bk_Md_workBy 61 rfl
    · have h := ifF c23 h
      have h := Option.some.inj h
      subst h
      refine Go.t (Go_sg bk_Md_workBy 36 1 (c2 := (some 68, [some (.ref 166), some (.int v1), some (.int v2), none, none, some (.int v5), some (.int s0), none], [.int (1000000000 : Int32)], σ)) (ps := []) rfl trivial) ?_
      exact Go_reti bk_Md_workBy 37 rfl
def Md_workBy0 (v1 : Int32) (v2 : Int32) (v3 : Int32) (v4 : Int32) (σ : MH) : Option (Int32) := (Md_heightOf (σ.1 166 44) ((7 : Int32) - v1) σ).bind fun x1 => (Md_size (v2 + x1) σ).bind fun x4 => if σ.1 166 45 = (-1 : Int32) then (Md_workBy_b54 v1 v2 (v3 - x4) v4 σ) else ((Md_heightOf (σ.1 166 45) ((7 : Int32) - v1) σ).bind fun x7 => (Md_size (v2 + x7) σ).bind fun x10 => Md_workBy_b54 v1 v2 (v3 - x4) (v4 - x10) σ)
set_option maxRecDepth 20000 in
set_option maxHeartbeats 2000000 in
theorem t_Md_workBy0 (v1 : Int32) (v2 : Int32) (v3 : Int32) (v4 : Int32)  (σ : MH) {o} (h : Md_workBy0 v1 v2 v3 v4 σ = some o) : Go m_Md_workBy 2 (some 0, [some (.ref 166), some (.int v1), some (.int v2), some (.int v3), some (.int v4), none, none, none], [], σ) ((none, [], [.int o], σ)) := by
  unfold Md_workBy0 at h
  refine Go.t (Go_sg bk_Md_workBy 0 8 (c2 := (some 11, [some (.ref 166), some (.int v1), some (.int v2), some (.int v3), some (.int v4), none, none, none], [.int ((7 : Int32) - v1), .int (σ.1 166 44), .ref 166, .int v2, .int v3], σ)) (ps := [shk 166 = 11]) rfl ⟨rfl, trivial⟩) ?_
  obtain ⟨x1, q3, h⟩ := bdS h
  refine Go.t (Go_callV bk_Md_workBy 8 rfl nk_Md_heightOf tw1547 tw1549 tw77 (ci := 11) rfl (as := [.int (σ.1 166 44), .int ((7 : Int32) - v1)]) (S := [.int v2, .int v3]) rfl rfl rfl rfl (Nat.le_of_ble_eq_true rfl) (Nat.le_of_ble_eq_true rfl) (ev_Md_heightOf _ _ _ q3)) ?_
  refine Go.t (Go_sg bk_Md_workBy 9 1 (c2 := (some 15, [some (.ref 166), some (.int v1), some (.int v2), some (.int v3), some (.int v4), none, none, none], [.int (v2 + x1), .int v3], σ)) (ps := []) rfl trivial) ?_
  obtain ⟨x4, q6, h⟩ := bdS h
  refine Go.t (Go_callS bk_Md_workBy 10 rfl nk_Md_size tw1503 tw1504 (as := [.int (v2 + x1)]) (S := [.int v3]) rfl rfl rfl (Nat.le_of_ble_eq_true rfl) (Nat.le_of_ble_eq_true rfl) (ev_Md_size _ _ q6)) ?_
  refine Go.t (Go_sg bk_Md_workBy 11 5 (c2 := (some 26, [some (.ref 166), some (.int v1), some (.int v2), some (.int v3), some (.int v4), some (.int (v3 - x4)), none, none], [.int (-1 : Int32), .int (σ.1 166 45)], σ)) (ps := [shk 166 = 11]) rfl ⟨rfl, trivial⟩) ?_
  refine Go_icmp_ne bk_Md_workBy 16 rfl (fun c25 => ?_) (fun c25 => ?_)
  · have h := ifF c25 h
    refine Go.t (Go_sg bk_Md_workBy 19 8 (c2 := (some 46, [some (.ref 166), some (.int v1), some (.int v2), some (.int v3), some (.int v4), some (.int (v3 - x4)), none, none], [.int ((7 : Int32) - v1), .int (σ.1 166 45), .ref 166, .int v2, .int v4], σ)) (ps := [shk 166 = 11]) rfl ⟨rfl, trivial⟩) ?_
    obtain ⟨x7, q9, h⟩ := bdS h
    refine Go.t (Go_callV bk_Md_workBy 27 rfl nk_Md_heightOf tw1547 tw1549 tw77 (ci := 11) rfl (as := [.int (σ.1 166 45), .int ((7 : Int32) - v1)]) (S := [.int v2, .int v4]) rfl rfl rfl rfl (Nat.le_of_ble_eq_true rfl) (Nat.le_of_ble_eq_true rfl) (ev_Md_heightOf _ _ _ q9)) ?_
    refine Go.t (Go_sg bk_Md_workBy 28 1 (c2 := (some 50, [some (.ref 166), some (.int v1), some (.int v2), some (.int v3), some (.int v4), some (.int (v3 - x4)), none, none], [.int (v2 + x7), .int v4], σ)) (ps := []) rfl trivial) ?_
    obtain ⟨x10, q12, h⟩ := bdS h
    refine Go.t (Go_callS bk_Md_workBy 29 rfl nk_Md_size tw1503 tw1504 (as := [.int (v2 + x7)]) (S := [.int v4]) rfl rfl rfl (Nat.le_of_ble_eq_true rfl) (Nat.le_of_ble_eq_true rfl) (ev_Md_size _ _ q12)) ?_
    refine Go.t (Go_sg bk_Md_workBy 30 1 (c2 := (some 54, [some (.ref 166), some (.int v1), some (.int v2), some (.int v3), some (.int v4), some (.int (v3 - x4)), none, none], [.int (v4 - x10)], σ)) (ps := []) rfl trivial) ?_
    exact Go.t (Go.fg (LSub.cs (LSub.cs (LSub.cs (LSub.cn (LSub.cn (LSub.cs (LSub.cn (LSub.cn (LSub.nil)))))))))) (t_Md_workBy_b54 v1 v2 (v3 - x4) (v4 - x10) σ h)
  · have h := ifT c25 h
    refine Go.t (Go_sg bk_Md_workBy 17 2 (c2 := (some 54, [some (.ref 166), some (.int v1), some (.int v2), some (.int v3), some (.int v4), some (.int (v3 - x4)), none, none], [.int v4], σ)) (ps := []) rfl trivial) ?_
    exact Go.t (Go.fg (LSub.cs (LSub.cs (LSub.cs (LSub.cn (LSub.cn (LSub.cs (LSub.cn (LSub.cn (LSub.nil)))))))))) (t_Md_workBy_b54 v1 v2 (v3 - x4) v4 σ h)
def Md_workBy (v1 : Int32) (v2 : Int32) (v3 : Int32) (v4 : Int32) (σ : MH) : Option (Int32) := Md_workBy0 v1 v2 v3 v4 σ
set_option maxRecDepth 20000 in
set_option maxHeartbeats 2000000 in
theorem ev_Md_workBy (v1 : Int32) (v2 : Int32) (v3 : Int32) (v4 : Int32)  (σ : MH) {o} (h : Md_workBy v1 v2 v3 v4 σ = some o) : Ev m_Md_workBy 2 [.ref 166, .int v1, .int v2, .int v3, .int v4] σ (some (.int o)) σ := Ev.of2 (by decide +kernel) rfl (Nat.le_of_ble_eq_true rfl) ⟨.int, rfl, rfl⟩ (t_Md_workBy0 v1 v2 v3 v4 σ h)
def cH_Md_laysWork_2 (v1 : Int32) (s : Int32 × MH) : MC := (some 2, [some (.ref 166), some (.int v1), some (.int s.1), none, none, none, none], [], s.2)
def cR_Md_laysWork_2 (v1 : Int32) : ((MH)) → MC := (fun r : MH => ((some 43, [some (.ref 166), some (.int v1), none, none, none, none, none], [], r) : MC))
def cH_Md_laysWork_10 (v1 : Int32) (v2 : Int32) (s : Int32 × MH) : MC := (some 10, [some (.ref 166), some (.int v1), some (.int v2), some (.int s.1), none, none, none], [], s.2)
def cR_Md_laysWork_10 (v1 : Int32) (v2 : Int32) : ((MH)) → MC := (fun r : MH => ((some 37, [some (.ref 166), some (.int v1), some (.int v2), none, none, none, none], [], r) : MC))
def Md_laysWork_l10 (v1 : Int32) (v2 : Int32) (v3 : Int32) (σ : MH) : Option (((Int32 × MH) ⊕ ((MH)))) := if v1 < v3 then some (.inr (σ)) else (if inb (((29768 : Int32) + ((61 : Int32) * v2)) + v3) 33489 = true then some (.inl (v3 + (1 : Int32), sI σ 193 (((29768 : Int32) + ((61 : Int32) * v2)) + v3).toNatClampNeg (0 : Int32))) else none)
set_option maxRecDepth 20000 in
set_option maxHeartbeats 2000000 in
theorem t_Md_laysWork_l10 (v1 : Int32) (v2 : Int32) (v3 : Int32)  (σ : MH) {o} (h : Md_laysWork_l10 v1 v2 v3 σ = some o) : Go m_Md_laysWork 3 (cH_Md_laysWork_10 v1 v2 (v3, σ)) (cS (cH_Md_laysWork_10 v1 v2) (cR_Md_laysWork_10 v1 v2) o) := by
  unfold Md_laysWork_l10 at h
  unfold cH_Md_laysWork_10
  refine Go.t (Go_sg bk_Md_laysWork 7 2 (c2 := (some 12, [some (.ref 166), some (.int v1), some (.int v2), some (.int v3), none, none, none], [.int v1, .int v3], σ)) (ps := []) rfl trivial) ?_
  refine Go_icmp_gt bk_Md_laysWork 9 rfl (fun c2 => ?_) (fun c2 => ?_)
  · have h := ifT c2 h
    have h := Option.some.inj h
    subst h
    exact Go.fg (LSub.cs (LSub.cs (LSub.cs (LSub.cn (LSub.cn (LSub.cn (LSub.cn (LSub.nil))))))))
  · have h := ifF c2 h
    obtain ⟨g1, h⟩ := gdS h
    refine Go.t (Go_sg bk_Md_laysWork 10 13 (c2 := (some 10, [some (.ref 166), some (.int v1), some (.int v2), some (.int (v3 + (1 : Int32))), none, none, none], [], sI σ 193 (((29768 : Int32) + ((61 : Int32) * v2)) + v3).toNatClampNeg (0 : Int32))) (ps := [shk 166 = 11, IA 193 33489 ∧ inb (((29768 : Int32) + ((61 : Int32) * v2)) + v3) 33489 = true]) rfl ⟨rfl, ⟨⟨rfl, rfl⟩, g1⟩, trivial⟩) ?_
    have h := Option.some.inj h
    subst h
    exact Go.fg (LSub.cs (LSub.cs (LSub.cs (LSub.cs (LSub.cn (LSub.cn (LSub.cn (LSub.nil))))))))
def Md_laysWork_L10 (v1 : Int32) (v2 : Int32) (s : Int32 × MH) : Option ((MH)) := itr (fun s : Int32 × MH => Md_laysWork_l10 v1 v2 s.1 s.2) FU s
set_option maxRecDepth 20000 in
set_option maxHeartbeats 2000000 in
theorem t_Md_laysWork_L10 (v1 : Int32) (v2 : Int32)  (s : Int32 × MH) {r} (h : Md_laysWork_L10 v1 v2 s = some r) : Go m_Md_laysWork 3 (cH_Md_laysWork_10 v1 v2 s) (cR_Md_laysWork_10 v1 v2 r) := Go_itr (fun s o ho => t_Md_laysWork_l10 v1 v2 s.1 s.2 ho) FU s r h
def Md_laysWork_l2 (v1 : Int32) (v2 : Int32) (σ : MH) : Option (((Int32 × MH) ⊕ ((MH)))) := if (60 : Int32) < v2 then some (.inr (σ)) else ((Md_laysWork_L10 v1 v2 ((0 : Int32), σ)).bind fun z3 => some (.inl (v2 + (1 : Int32), z3)))
set_option maxRecDepth 20000 in
set_option maxHeartbeats 2000000 in
theorem t_Md_laysWork_l2 (v1 : Int32) (v2 : Int32)  (σ : MH) {o} (h : Md_laysWork_l2 v1 v2 σ = some o) : Go m_Md_laysWork 3 (cH_Md_laysWork_2 v1 (v2, σ)) (cS (cH_Md_laysWork_2 v1) (cR_Md_laysWork_2 v1) o) := by
  unfold Md_laysWork_l2 at h
  unfold cH_Md_laysWork_2
  refine Go.t (Go_sg bk_Md_laysWork 2 2 (c2 := (some 5, [some (.ref 166), some (.int v1), some (.int v2), none, none, none, none], [.int (60 : Int32), .int v2], σ)) (ps := []) rfl trivial) ?_
  refine Go_icmp_gt bk_Md_laysWork 4 rfl (fun c5 => ?_) (fun c5 => ?_)
  · have h := ifT c5 h
    have h := Option.some.inj h
    subst h
    exact Go.fg (LSub.cs (LSub.cs (LSub.cn (LSub.cn (LSub.cn (LSub.cn (LSub.cn (LSub.nil))))))))
  · have h := ifF c5 h
    refine Go.t (Go_sg bk_Md_laysWork 5 2 (c2 := (some 10, [some (.ref 166), some (.int v1), some (.int v2), some (.int (0 : Int32)), none, none, none], [], σ)) (ps := []) rfl trivial) ?_
    obtain ⟨z3, q4, h⟩ := bdS h
    refine Go.t (Go.t (Go.fg (LSub.cs (LSub.cs (LSub.cs (LSub.cs (LSub.cn (LSub.cn (LSub.cn (LSub.nil))))))))) (t_Md_laysWork_L10 v1 v2 _ q4)) ?_
    refine Go.t (Go_sg bk_Md_laysWork 23 2 (c2 := (some 2, [some (.ref 166), some (.int v1), some (.int (v2 + (1 : Int32))), none, none, none, none], [], z3)) (ps := []) rfl trivial) ?_
    have h := Option.some.inj h
    subst h
    exact Go.fg (LSub.cs (LSub.cs (LSub.cs (LSub.cn (LSub.cn (LSub.cn (LSub.cn (LSub.nil))))))))
def Md_laysWork_L2 (v1 : Int32) (s : Int32 × MH) : Option ((MH)) := itr (fun s : Int32 × MH => Md_laysWork_l2 v1 s.1 s.2) FU s
set_option maxRecDepth 20000 in
set_option maxHeartbeats 2000000 in
theorem t_Md_laysWork_L2 (v1 : Int32)  (s : Int32 × MH) {r} (h : Md_laysWork_L2 v1 s = some r) : Go m_Md_laysWork 3 (cH_Md_laysWork_2 v1 s) (cR_Md_laysWork_2 v1 r) := Go_itr (fun s o ho => t_Md_laysWork_l2 v1 s.1 s.2 ho) FU s r h
def cH_Md_laysWork_46 (v1 : Int32) (s : Int32 × MH) : MC := (some 46, [some (.ref 166), some (.int v1), some (.int s.1), none, none, none, none], [], s.2)
def cR_Md_laysWork_46 (v1 : Int32) : ((MH)) → MC := (fun r : MH => ((none, [], [], r) : MC))
def cH_Md_laysWork_52 (v1 : Int32) (v2 : Int32) (s : Int32 × MH) : MC := (some 52, [some (.ref 166), some (.int v1), some (.int v2), some (.int s.1), none, none, none], [], s.2)
def cR_Md_laysWork_52 (v1 : Int32) (v2 : Int32) : ((MH)) → MC := (fun r : MH => ((some 137, [some (.ref 166), some (.int v1), some (.int v2), none, none, none, none], [], r) : MC))
def cH_Md_laysWork_61 (v1 : Int32) (v2 : Int32) (v3 : Int32) (s : Int32 × MH) : MC := (some 61, [some (.ref 166), some (.int v1), some (.int v2), some (.int v3), some (.int s.1), none, none], [], s.2)
def cR_Md_laysWork_61 (v1 : Int32) (v2 : Int32) (v3 : Int32) : ((MH)) → MC := (fun r : MH => ((some 131, [some (.ref 166), some (.int v1), some (.int v2), some (.int v3), none, none, none], [], r) : MC))
def cH_Md_laysWork_75 (v1 : Int32) (v2 : Int32) (v3 : Int32) (v4 : Int32) (σ : MH) (s : Int32 × Int32) : MC := (some 75, [some (.ref 166), some (.int v1), some (.int v2), some (.int v3), some (.int v4), some (.int s.1), some (.int s.2)], [], σ)
def cR_Md_laysWork_75 (v1 : Int32) (v2 : Int32) (v3 : Int32) (v4 : Int32) (σ : MH) : ((Int32)) → MC := (fun r : Int32 => ((some 105, [some (.ref 166), some (.int v1), some (.int v2), some (.int v3), some (.int v4), some (.int r), none], [], σ) : MC))
def Md_laysWork_l75 (v1 : Int32) (v2 : Int32) (v3 : Int32) (v4 : Int32) (v5 : Int32) (v6 : Int32) (σ : MH) : Option (((Int32 × Int32) ⊕ ((Int32)))) := if (9 : Int32) < v6 then some (.inr (v5)) else ((Md_workBy v2 v6 v3 v4 σ).bind fun x8 => (Md_min v5 x8 σ).bind fun x11 => some (.inl (x11, v6 + (1 : Int32))))
set_option maxRecDepth 20000 in
set_option maxHeartbeats 2000000 in
theorem t_Md_laysWork_l75 (v1 : Int32) (v2 : Int32) (v3 : Int32) (v4 : Int32) (v5 : Int32) (v6 : Int32)  (σ : MH) {o} (h : Md_laysWork_l75 v1 v2 v3 v4 v5 v6 σ = some o) : Go m_Md_laysWork 3 (cH_Md_laysWork_75 v1 v2 v3 v4 σ (v5, v6)) (cS (cH_Md_laysWork_75 v1 v2 v3 v4 σ) (cR_Md_laysWork_75 v1 v2 v3 v4 σ) o) := by
  unfold Md_laysWork_l75 at h
  unfold cH_Md_laysWork_75
  refine Go.t (Go_sg bk_Md_laysWork 43 2 (c2 := (some 79, [some (.ref 166), some (.int v1), some (.int v2), some (.int v3), some (.int v4), some (.int v5), some (.int v6)], [.int (9 : Int32), .int v6], σ)) (ps := []) rfl trivial) ?_
  refine Go_icmp_gt bk_Md_laysWork 45 rfl (fun c14 => ?_) (fun c14 => ?_)
  · have h := ifT c14 h
    have h := Option.some.inj h
    subst h
    exact Go.fg (LSub.cs (LSub.cs (LSub.cs (LSub.cs (LSub.cs (LSub.cs (LSub.cn (LSub.nil))))))))
  · have h := ifF c14 h
    refine Go.t (Go_sg bk_Md_laysWork 46 6 (c2 := (some 91, [some (.ref 166), some (.int v1), some (.int v2), some (.int v3), some (.int v4), some (.int v5), some (.int v6)], [.int v4, .int v3, .int v6, .int v2, .ref 166, .int v5], σ)) (ps := []) rfl trivial) ?_
    obtain ⟨x8, q10, h⟩ := bdS h
    refine Go.t (Go_callV bk_Md_laysWork 52 rfl nk_Md_workBy tw1707 tw1709 tw102 (ci := 11) rfl (as := [.int v2, .int v6, .int v3, .int v4]) (S := [.int v5]) rfl rfl rfl rfl (Nat.le_of_ble_eq_true rfl) (Nat.le_of_ble_eq_true rfl) (ev_Md_workBy _ _ _ _ _ q10)) ?_
    obtain ⟨x11, q13, h⟩ := bdS h
    refine Go.t (Go_callS bk_Md_laysWork 53 rfl nk_Md_min tw1554 tw1555 (as := [.int v5, .int x8]) (S := []) rfl rfl rfl (Nat.le_of_ble_eq_true rfl) (Nat.le_of_ble_eq_true rfl) (ev_Md_min _ _ _ q13)) ?_
    refine Go.t (Go_sg bk_Md_laysWork 54 3 (c2 := (some 75, [some (.ref 166), some (.int v1), some (.int v2), some (.int v3), some (.int v4), some (.int x11), some (.int (v6 + (1 : Int32)))], [], σ)) (ps := []) rfl trivial) ?_
    have h := Option.some.inj h
    subst h
    exact Go.fg (LSub.cs (LSub.cs (LSub.cs (LSub.cs (LSub.cs (LSub.cs (LSub.cs (LSub.nil))))))))
def Md_laysWork_L75 (v1 : Int32) (v2 : Int32) (v3 : Int32) (v4 : Int32) (σ : MH) (s : Int32 × Int32) : Option ((Int32)) := itr (fun s : Int32 × Int32 => Md_laysWork_l75 v1 v2 v3 v4 s.1 s.2 σ) FU s
set_option maxRecDepth 20000 in
set_option maxHeartbeats 2000000 in
theorem t_Md_laysWork_L75 (v1 : Int32) (v2 : Int32) (v3 : Int32) (v4 : Int32)  (σ : MH) (s : Int32 × Int32) {r} (h : Md_laysWork_L75 v1 v2 v3 v4 σ s = some r) : Go m_Md_laysWork 3 (cH_Md_laysWork_75 v1 v2 v3 v4 σ s) (cR_Md_laysWork_75 v1 v2 v3 v4 σ r) := Go_itr (fun s o ho => t_Md_laysWork_l75 v1 v2 v3 v4 s.1 s.2 σ ho) FU s r h
def Md_laysWork_l61 (v1 : Int32) (v2 : Int32) (v3 : Int32) (v4 : Int32) (σ : MH) : Option (((Int32 × MH) ⊕ ((MH)))) := if v1 < v4 then some (.inr (σ)) else ((Md_laysWork_L75 v1 v2 v3 v4 σ ((1000000000 : Int32), (-9 : Int32))).bind fun z15 => if inb ((((3721 : Int32) * v2) + ((61 : Int32) * v3)) + v4) 33489 = true then some (.inl (v4 + (1 : Int32), sI σ 193 ((((3721 : Int32) * v2) + ((61 : Int32) * v3)) + v4).toNatClampNeg z15)) else none)
set_option maxRecDepth 20000 in
set_option maxHeartbeats 2000000 in
theorem t_Md_laysWork_l61 (v1 : Int32) (v2 : Int32) (v3 : Int32) (v4 : Int32)  (σ : MH) {o} (h : Md_laysWork_l61 v1 v2 v3 v4 σ = some o) : Go m_Md_laysWork 3 (cH_Md_laysWork_61 v1 v2 v3 (v4, σ)) (cS (cH_Md_laysWork_61 v1 v2 v3) (cR_Md_laysWork_61 v1 v2 v3) o) := by
  unfold Md_laysWork_l61 at h
  unfold cH_Md_laysWork_61
  refine Go.t (Go_sg bk_Md_laysWork 36 2 (c2 := (some 64, [some (.ref 166), some (.int v1), some (.int v2), some (.int v3), some (.int v4), none, none], [.int v1, .int v4], σ)) (ps := []) rfl trivial) ?_
  refine Go_icmp_gt bk_Md_laysWork 38 rfl (fun c18 => ?_) (fun c18 => ?_)
  · have h := ifT c18 h
    have h := Option.some.inj h
    subst h
    exact Go.fg (LSub.cs (LSub.cs (LSub.cs (LSub.cs (LSub.cn (LSub.cn (LSub.cn (LSub.nil))))))))
  · have h := ifF c18 h
    refine Go.t (Go_sg bk_Md_laysWork 39 4 (c2 := (some 75, [some (.ref 166), some (.int v1), some (.int v2), some (.int v3), some (.int v4), some (.int (1000000000 : Int32)), some (.int (-9 : Int32))], [], σ)) (ps := []) rfl trivial) ?_
    obtain ⟨z15, q16, h⟩ := bdS h
    refine Go.t (Go.t (Go.fg (LSub.cs (LSub.cs (LSub.cs (LSub.cs (LSub.cs (LSub.cs (LSub.cs (LSub.nil))))))))) (t_Md_laysWork_L75 v1 v2 v3 v4 σ _ q16)) ?_
    obtain ⟨g17, h⟩ := gdS h
    refine Go.t (Go_sg bk_Md_laysWork 57 15 (c2 := (some 61, [some (.ref 166), some (.int v1), some (.int v2), some (.int v3), some (.int (v4 + (1 : Int32))), some (.int z15), none], [], sI σ 193 ((((3721 : Int32) * v2) + ((61 : Int32) * v3)) + v4).toNatClampNeg z15)) (ps := [shk 166 = 11, IA 193 33489 ∧ inb ((((3721 : Int32) * v2) + ((61 : Int32) * v3)) + v4) 33489 = true]) rfl ⟨rfl, ⟨⟨rfl, rfl⟩, g17⟩, trivial⟩) ?_
    have h := Option.some.inj h
    subst h
    exact Go.fg (LSub.cs (LSub.cs (LSub.cs (LSub.cs (LSub.cs (LSub.cn (LSub.cn (LSub.nil))))))))
def Md_laysWork_L61 (v1 : Int32) (v2 : Int32) (v3 : Int32) (s : Int32 × MH) : Option ((MH)) := itr (fun s : Int32 × MH => Md_laysWork_l61 v1 v2 v3 s.1 s.2) FU s
set_option maxRecDepth 20000 in
set_option maxHeartbeats 2000000 in
theorem t_Md_laysWork_L61 (v1 : Int32) (v2 : Int32) (v3 : Int32)  (s : Int32 × MH) {r} (h : Md_laysWork_L61 v1 v2 v3 s = some r) : Go m_Md_laysWork 3 (cH_Md_laysWork_61 v1 v2 v3 s) (cR_Md_laysWork_61 v1 v2 v3 r) := Go_itr (fun s o ho => t_Md_laysWork_l61 v1 v2 v3 s.1 s.2 ho) FU s r h
def Md_laysWork_l52 (v1 : Int32) (v2 : Int32) (v3 : Int32) (σ : MH) : Option (((Int32 × MH) ⊕ ((MH)))) := if (60 : Int32) < v3 then some (.inr (σ)) else ((Md_laysWork_L61 v1 v2 v3 ((0 : Int32), σ)).bind fun z19 => some (.inl (v3 + (1 : Int32), z19)))
set_option maxRecDepth 20000 in
set_option maxHeartbeats 2000000 in
theorem t_Md_laysWork_l52 (v1 : Int32) (v2 : Int32) (v3 : Int32)  (σ : MH) {o} (h : Md_laysWork_l52 v1 v2 v3 σ = some o) : Go m_Md_laysWork 3 (cH_Md_laysWork_52 v1 v2 (v3, σ)) (cS (cH_Md_laysWork_52 v1 v2) (cR_Md_laysWork_52 v1 v2) o) := by
  unfold Md_laysWork_l52 at h
  unfold cH_Md_laysWork_52
  refine Go.t (Go_sg bk_Md_laysWork 31 2 (c2 := (some 55, [some (.ref 166), some (.int v1), some (.int v2), some (.int v3), none, none, none], [.int (60 : Int32), .int v3], σ)) (ps := []) rfl trivial) ?_
  refine Go_icmp_gt bk_Md_laysWork 33 rfl (fun c21 => ?_) (fun c21 => ?_)
  · have h := ifT c21 h
    have h := Option.some.inj h
    subst h
    exact Go.fg (LSub.cs (LSub.cs (LSub.cs (LSub.cn (LSub.cn (LSub.cn (LSub.cn (LSub.nil))))))))
  · have h := ifF c21 h
    refine Go.t (Go_sg bk_Md_laysWork 34 2 (c2 := (some 61, [some (.ref 166), some (.int v1), some (.int v2), some (.int v3), some (.int (0 : Int32)), none, none], [], σ)) (ps := []) rfl trivial) ?_
    obtain ⟨z19, q20, h⟩ := bdS h
    refine Go.t (Go.t (Go.fg (LSub.cs (LSub.cs (LSub.cs (LSub.cs (LSub.cs (LSub.cn (LSub.cn (LSub.nil))))))))) (t_Md_laysWork_L61 v1 v2 v3 _ q20)) ?_
    refine Go.t (Go_sg bk_Md_laysWork 72 2 (c2 := (some 52, [some (.ref 166), some (.int v1), some (.int v2), some (.int (v3 + (1 : Int32))), none, none, none], [], z19)) (ps := []) rfl trivial) ?_
    have h := Option.some.inj h
    subst h
    exact Go.fg (LSub.cs (LSub.cs (LSub.cs (LSub.cs (LSub.cn (LSub.cn (LSub.cn (LSub.nil))))))))
def Md_laysWork_L52 (v1 : Int32) (v2 : Int32) (s : Int32 × MH) : Option ((MH)) := itr (fun s : Int32 × MH => Md_laysWork_l52 v1 v2 s.1 s.2) FU s
set_option maxRecDepth 20000 in
set_option maxHeartbeats 2000000 in
theorem t_Md_laysWork_L52 (v1 : Int32) (v2 : Int32)  (s : Int32 × MH) {r} (h : Md_laysWork_L52 v1 v2 s = some r) : Go m_Md_laysWork 3 (cH_Md_laysWork_52 v1 v2 s) (cR_Md_laysWork_52 v1 v2 r) := Go_itr (fun s o ho => t_Md_laysWork_l52 v1 v2 s.1 s.2 ho) FU s r h
def Md_laysWork_l46 (v1 : Int32) (v2 : Int32) (σ : MH) : Option (((Int32 × MH) ⊕ ((MH)))) := if v2 < (0 : Int32) then some (.inr (σ)) else ((Md_laysWork_L52 v1 v2 ((0 : Int32), σ)).bind fun z22 => some (.inl (v2 + (-1 : Int32), z22)))
set_option maxRecDepth 20000 in
set_option maxHeartbeats 2000000 in
theorem t_Md_laysWork_l46 (v1 : Int32) (v2 : Int32)  (σ : MH) {o} (h : Md_laysWork_l46 v1 v2 σ = some o) : Go m_Md_laysWork 3 (cH_Md_laysWork_46 v1 (v2, σ)) (cS (cH_Md_laysWork_46 v1) (cR_Md_laysWork_46 v1) o) := by
  unfold Md_laysWork_l46 at h
  unfold cH_Md_laysWork_46
  refine Go.t (Go_sg bk_Md_laysWork 27 1 (c2 := (some 47, [some (.ref 166), some (.int v1), some (.int v2), none, none, none, none], [.int v2], σ)) (ps := []) rfl trivial) ?_
  refine Go_if_lt bk_Md_laysWork 28 rfl (fun c24 => ?_) (fun c24 => ?_)
  · have h := ifT c24 h
    have h := Option.some.inj h
    subst h
    exact Go_ret0 bk_Md_laysWork 76 rfl
  · have h := ifF c24 h
    refine Go.t (Go_sg bk_Md_laysWork 29 2 (c2 := (some 52, [some (.ref 166), some (.int v1), some (.int v2), some (.int (0 : Int32)), none, none, none], [], σ)) (ps := []) rfl trivial) ?_
    obtain ⟨z22, q23, h⟩ := bdS h
    refine Go.t (Go.t (Go.fg (LSub.cs (LSub.cs (LSub.cs (LSub.cs (LSub.cn (LSub.cn (LSub.cn (LSub.nil))))))))) (t_Md_laysWork_L52 v1 v2 _ q23)) ?_
    refine Go.t (Go_sg bk_Md_laysWork 74 2 (c2 := (some 46, [some (.ref 166), some (.int v1), some (.int (v2 + (-1 : Int32))), none, none, none, none], [], z22)) (ps := []) rfl trivial) ?_
    have h := Option.some.inj h
    subst h
    exact Go.fg (LSub.cs (LSub.cs (LSub.cs (LSub.cn (LSub.cn (LSub.cn (LSub.cn (LSub.nil))))))))
def Md_laysWork_L46 (v1 : Int32) (s : Int32 × MH) : Option ((MH)) := itr (fun s : Int32 × MH => Md_laysWork_l46 v1 s.1 s.2) FU s
set_option maxRecDepth 20000 in
set_option maxHeartbeats 2000000 in
theorem t_Md_laysWork_L46 (v1 : Int32)  (s : Int32 × MH) {r} (h : Md_laysWork_L46 v1 s = some r) : Go m_Md_laysWork 3 (cH_Md_laysWork_46 v1 s) (cR_Md_laysWork_46 v1 r) := Go_itr (fun s o ho => t_Md_laysWork_l46 v1 s.1 s.2 ho) FU s r h
def Md_laysWork0 (v1 : Int32) (σ : MH) : Option (MH) := (Md_laysWork_L2 v1 ((0 : Int32), σ)).bind fun z6 => (Md_laysWork_L46 v1 ((7 : Int32), z6)).bind fun z25 => some (z25)
set_option maxRecDepth 20000 in
set_option maxHeartbeats 2000000 in
theorem t_Md_laysWork0 (v1 : Int32)  (σ : MH) {o} (h : Md_laysWork0 v1 σ = some o) : Go m_Md_laysWork 3 (some 0, [some (.ref 166), some (.int v1), none, none, none, none, none], [], σ) ((none, [], [], o)) := by
  unfold Md_laysWork0 at h
  refine Go.t (Go_sg bk_Md_laysWork 0 2 (c2 := (some 2, [some (.ref 166), some (.int v1), some (.int (0 : Int32)), none, none, none, none], [], σ)) (ps := []) rfl trivial) ?_
  obtain ⟨z6, q7, h⟩ := bdS h
  refine Go.t (Go.t (Go.fg (LSub.cs (LSub.cs (LSub.cs (LSub.cn (LSub.cn (LSub.cn (LSub.cn (LSub.nil))))))))) (t_Md_laysWork_L2 v1 _ q7)) ?_
  refine Go.t (Go_sg bk_Md_laysWork 25 2 (c2 := (some 46, [some (.ref 166), some (.int v1), some (.int (7 : Int32)), none, none, none, none], [], z6)) (ps := []) rfl trivial) ?_
  obtain ⟨z25, q26, h⟩ := bdS h
  refine Go.t (Go.t (Go.fg (LSub.cs (LSub.cs (LSub.cs (LSub.cn (LSub.cn (LSub.cn (LSub.cn (LSub.nil))))))))) (t_Md_laysWork_L46 v1 _ q26)) ?_
  have h := Option.some.inj h
  subst h
  exact Go.rf
def Md_laysWork (v1 : Int32) (σ : MH) : Option (MH) := Md_laysWork0 v1 σ
set_option maxRecDepth 20000 in
set_option maxHeartbeats 2000000 in
theorem ev_Md_laysWork (v1 : Int32)  (σ : MH) {o} (h : Md_laysWork v1 σ = some o) : Ev m_Md_laysWork 3 [.ref 166, .int v1] σ none o := Ev.of2 (by decide +kernel) rfl (Nat.le_of_ble_eq_true rfl) rfl (t_Md_laysWork0 v1 σ h)
def cH_Md_laysSanded_8  (s : Int32 × Int32 × Int32 × MH) : MC := (some 8, [some (.ref 166), none, none, some (.int s.1), some (.int s.2.1), some (.int s.2.2.1), none], [], s.2.2.2)
def cR_Md_laysSanded_8  : ((MH)) → MC := (fun r : MH => ((none, [], [], r) : MC))
def cH_Md_laysSanded_19 (v3 : Int32) (v4 : Int32) (v5 : Int32) (σ : MH) (s : Int32) : MC := (some 19, [some (.ref 166), none, none, some (.int v3), some (.int v4), some (.int v5), some (.int s)], [], σ)
def cR_Md_laysSanded_19 (v3 : Int32) (v4 : Int32) (v5 : Int32) (σ : MH) : ((Int32)) → MC := (fun r : Int32 => ((some 51, [some (.ref 166), none, none, some (.int v3), some (.int v4), some (.int v5), some (.int r)], [], σ) : MC))
def Md_laysSanded_l19 (v3 : Int32) (v4 : Int32) (v5 : Int32) (v6 : Int32) (σ : MH) : Option (((Int32) ⊕ ((Int32)))) := (Md_workBy v5 v6 v3 v4 σ).bind fun x1 => (Md_workAt v5 v3 v4 σ).bind fun x4 => if x1 = x4 then some (.inr (v6)) else some (.inl (v6 + (1 : Int32)))
set_option maxRecDepth 20000 in
set_option maxHeartbeats 2000000 in
theorem t_Md_laysSanded_l19 (v3 : Int32) (v4 : Int32) (v5 : Int32) (v6 : Int32)  (σ : MH) {o} (h : Md_laysSanded_l19 v3 v4 v5 v6 σ = some o) : Go m_Md_laysSanded 3 (cH_Md_laysSanded_19 v3 v4 v5 σ (v6)) (cS (cH_Md_laysSanded_19 v3 v4 v5 σ) (cR_Md_laysSanded_19 v3 v4 v5 σ) o) := by
  unfold Md_laysSanded_l19 at h
  unfold cH_Md_laysSanded_19
  refine Go.t (Go_sg bk_Md_laysSanded 11 5 (c2 := (some 27, [some (.ref 166), none, none, some (.int v3), some (.int v4), some (.int v5), some (.int v6)], [.int v4, .int v3, .int v6, .int v5, .ref 166], σ)) (ps := []) rfl trivial) ?_
  obtain ⟨x1, q3, h⟩ := bdS h
  refine Go.t (Go_callV bk_Md_laysSanded 16 rfl nk_Md_workBy tw1707 tw1709 tw102 (ci := 11) rfl (as := [.int v5, .int v6, .int v3, .int v4]) (S := []) rfl rfl rfl rfl (Nat.le_of_ble_eq_true rfl) (Nat.le_of_ble_eq_true rfl) (ev_Md_workBy _ _ _ _ _ q3)) ?_
  refine Go.t (Go_sg bk_Md_laysSanded 17 4 (c2 := (some 36, [some (.ref 166), none, none, some (.int v3), some (.int v4), some (.int v5), some (.int v6)], [.int v4, .int v3, .int v5, .ref 166, .int x1], σ)) (ps := []) rfl trivial) ?_
  obtain ⟨x4, q6, h⟩ := bdS h
  refine Go.t (Go_callV bk_Md_laysSanded 21 rfl nk_Md_workAt tw1711 tw1713 tw103 (ci := 11) rfl (as := [.int v5, .int v3, .int v4]) (S := [.int x1]) rfl rfl rfl rfl (Nat.le_of_ble_eq_true rfl) (Nat.le_of_ble_eq_true rfl) (ev_Md_workAt _ _ _ _ q6)) ?_
  refine Go_icmp_eq bk_Md_laysSanded 22 rfl (fun c7 => ?_) (fun c7 => ?_)
  · have h := ifT c7 h
    have h := Option.some.inj h
    subst h
    exact Go.fg (LSub.cs (LSub.cn (LSub.cn (LSub.cs (LSub.cs (LSub.cs (LSub.cs (LSub.nil))))))))
  · have h := ifF c7 h
    refine Go.t (Go_sg bk_Md_laysSanded 23 5 (c2 := (some 19, [some (.ref 166), none, none, some (.int v3), some (.int v4), some (.int v5), some (.int (v6 + (1 : Int32)))], [], σ)) (ps := []) rfl trivial) ?_
    have h := Option.some.inj h
    subst h
    exact Go.fg (LSub.cs (LSub.cn (LSub.cn (LSub.cs (LSub.cs (LSub.cs (LSub.cs (LSub.nil))))))))
def Md_laysSanded_L19 (v3 : Int32) (v4 : Int32) (v5 : Int32) (σ : MH) (s : Int32) : Option ((Int32)) := itr (fun s : Int32 => Md_laysSanded_l19 v3 v4 v5 s σ) FU s
set_option maxRecDepth 20000 in
set_option maxHeartbeats 2000000 in
theorem t_Md_laysSanded_L19 (v3 : Int32) (v4 : Int32) (v5 : Int32)  (σ : MH) (s : Int32) {r} (h : Md_laysSanded_L19 v3 v4 v5 σ s = some r) : Go m_Md_laysSanded 3 (cH_Md_laysSanded_19 v3 v4 v5 σ s) (cR_Md_laysSanded_19 v3 v4 v5 σ r) := Go_itr (fun s o ho => t_Md_laysSanded_l19 v3 v4 v5 s σ ho) FU s r h
def Md_laysSanded_b117 (v3 : Int32) (v5 : Int32) (s0 : Int32) (σ : MH) : Option (((Int32 × Int32 × Int32 × MH) ⊕ ((MH)))) := some (.inl (v3, s0, v5 + (1 : Int32), σ))
set_option maxRecDepth 20000 in
set_option maxHeartbeats 2000000 in
theorem t_Md_laysSanded_b117 (v3 : Int32) (v5 : Int32) (s0 : Int32)   (σ : MH) {o} (h : Md_laysSanded_b117 v3 v5 s0 σ = some o) : Go m_Md_laysSanded 3 (some 117, [some (.ref 166), none, none, some (.int v3), none, some (.int v5), none], [.int s0], σ) (cS (cH_Md_laysSanded_8 ) (cR_Md_laysSanded_8 ) o) := by
  unfold Md_laysSanded_b117 at h
  refine Go.t (Go_sg bk_Md_laysSanded 64 3 (c2 := (some 8, [some (.ref 166), none, none, some (.int v3), some (.int s0), some (.int (v5 + (1 : Int32))), none], [], σ)) (ps := []) rfl trivial) ?_
  have h := Option.some.inj h
  subst h
  exact Go.fg (LSub.cs (LSub.cn (LSub.cn (LSub.cs (LSub.cs (LSub.cs (LSub.cn (LSub.nil))))))))
def Md_laysSanded_l8 (v3 : Int32) (v4 : Int32) (v5 : Int32) (σ : MH) : Option (((Int32 × Int32 × Int32 × MH) ⊕ ((MH)))) := if (8 : Int32) ≤ v5 then some (.inr (σ)) else ((Md_laysSanded_L19 v3 v4 v5 σ ((-9 : Int32))).bind fun z8 => if inb v5 8 = true then (Md_heightOf ((sI σ 194 v5.toNatClampNeg z8).1 166 44) ((7 : Int32) - v5) (sI σ 194 v5.toNatClampNeg z8)).bind fun x11 => (Md_size (z8 + x11) (sI σ 194 v5.toNatClampNeg z8)).bind fun x14 => if (sI σ 194 v5.toNatClampNeg z8).1 166 45 = (-1 : Int32) then (Md_laysSanded_b117 (v3 - x14) v5 v4 (sI σ 194 v5.toNatClampNeg z8)) else ((Md_heightOf ((sI σ 194 v5.toNatClampNeg z8).1 166 45) ((7 : Int32) - v5) (sI σ 194 v5.toNatClampNeg z8)).bind fun x17 => (Md_size (z8 + x17) (sI σ 194 v5.toNatClampNeg z8)).bind fun x20 => Md_laysSanded_b117 (v3 - x14) v5 (v4 - x20) (sI σ 194 v5.toNatClampNeg z8)) else none)
set_option maxRecDepth 20000 in
set_option maxHeartbeats 2000000 in
theorem t_Md_laysSanded_l8 (v3 : Int32) (v4 : Int32) (v5 : Int32)  (σ : MH) {o} (h : Md_laysSanded_l8 v3 v4 v5 σ = some o) : Go m_Md_laysSanded 3 (cH_Md_laysSanded_8  (v3, v4, v5, σ)) (cS (cH_Md_laysSanded_8 ) (cR_Md_laysSanded_8 ) o) := by
  unfold Md_laysSanded_l8 at h
  unfold cH_Md_laysSanded_8
  refine Go.t (Go_sg bk_Md_laysSanded 6 2 (c2 := (some 12, [some (.ref 166), none, none, some (.int v3), some (.int v4), some (.int v5), none], [.int (8 : Int32), .int v5], σ)) (ps := []) rfl trivial) ?_
  refine Go_icmp_ge bk_Md_laysSanded 8 rfl (fun c24 => ?_) (fun c24 => ?_)
  · have h := ifT c24 h
    have h := Option.some.inj h
    subst h
    exact Go_ret0 bk_Md_laysSanded 67 rfl
  · have h := ifF c24 h
    refine Go.t (Go_sg bk_Md_laysSanded 9 2 (c2 := (some 19, [some (.ref 166), none, none, some (.int v3), some (.int v4), some (.int v5), some (.int (-9 : Int32))], [], σ)) (ps := []) rfl trivial) ?_
    obtain ⟨z8, q9, h⟩ := bdS h
    refine Go.t (Go.t (Go.fg (LSub.cs (LSub.cn (LSub.cn (LSub.cs (LSub.cs (LSub.cs (LSub.cs (LSub.nil))))))))) (t_Md_laysSanded_L19 v3 v4 v5 σ _ q9)) ?_
    obtain ⟨g10, h⟩ := gdS h
    refine Go.t (Go_sg bk_Md_laysSanded 28 13 (c2 := (some 73, [some (.ref 166), none, none, some (.int v3), some (.int v4), some (.int v5), some (.int z8)], [.int ((7 : Int32) - v5), .int ((sI σ 194 v5.toNatClampNeg z8).1 166 44), .ref 166, .int z8, .int v3], sI σ 194 v5.toNatClampNeg z8)) (ps := [shk 166 = 11, IA 194 8 ∧ inb v5 8 = true, shk 166 = 11]) rfl ⟨rfl, ⟨⟨rfl, rfl⟩, g10⟩, rfl, trivial⟩) ?_
    obtain ⟨x11, q13, h⟩ := bdS h
    refine Go.t (Go_callV bk_Md_laysSanded 41 rfl nk_Md_heightOf tw1547 tw1549 tw77 (ci := 11) rfl (as := [.int ((sI σ 194 v5.toNatClampNeg z8).1 166 44), .int ((7 : Int32) - v5)]) (S := [.int z8, .int v3]) rfl rfl rfl rfl (Nat.le_of_ble_eq_true rfl) (Nat.le_of_ble_eq_true rfl) (ev_Md_heightOf _ _ _ q13)) ?_
    refine Go.t (Go_sg bk_Md_laysSanded 42 1 (c2 := (some 77, [some (.ref 166), none, none, some (.int v3), some (.int v4), some (.int v5), some (.int z8)], [.int (z8 + x11), .int v3], sI σ 194 v5.toNatClampNeg z8)) (ps := []) rfl trivial) ?_
    obtain ⟨x14, q16, h⟩ := bdS h
    refine Go.t (Go_callS bk_Md_laysSanded 43 rfl nk_Md_size tw1503 tw1504 (as := [.int (z8 + x11)]) (S := [.int v3]) rfl rfl rfl (Nat.le_of_ble_eq_true rfl) (Nat.le_of_ble_eq_true rfl) (ev_Md_size _ _ q16)) ?_
    refine Go.t (Go_sg bk_Md_laysSanded 44 5 (c2 := (some 87, [some (.ref 166), none, none, some (.int (v3 - x14)), some (.int v4), some (.int v5), some (.int z8)], [.int (-1 : Int32), .int ((sI σ 194 v5.toNatClampNeg z8).1 166 45)], sI σ 194 v5.toNatClampNeg z8)) (ps := [shk 166 = 11]) rfl ⟨rfl, trivial⟩) ?_
    refine Go_icmp_ne bk_Md_laysSanded 49 rfl (fun c23 => ?_) (fun c23 => ?_)
    · have h := ifF c23 h
      refine Go.t (Go_sg bk_Md_laysSanded 52 8 (c2 := (some 109, [some (.ref 166), none, none, some (.int (v3 - x14)), some (.int v4), some (.int v5), some (.int z8)], [.int ((7 : Int32) - v5), .int ((sI σ 194 v5.toNatClampNeg z8).1 166 45), .ref 166, .int z8, .int v4], sI σ 194 v5.toNatClampNeg z8)) (ps := [shk 166 = 11]) rfl ⟨rfl, trivial⟩) ?_
      obtain ⟨x17, q19, h⟩ := bdS h
      refine Go.t (Go_callV bk_Md_laysSanded 60 rfl nk_Md_heightOf tw1547 tw1549 tw77 (ci := 11) rfl (as := [.int ((sI σ 194 v5.toNatClampNeg z8).1 166 45), .int ((7 : Int32) - v5)]) (S := [.int z8, .int v4]) rfl rfl rfl rfl (Nat.le_of_ble_eq_true rfl) (Nat.le_of_ble_eq_true rfl) (ev_Md_heightOf _ _ _ q19)) ?_
      refine Go.t (Go_sg bk_Md_laysSanded 61 1 (c2 := (some 113, [some (.ref 166), none, none, some (.int (v3 - x14)), some (.int v4), some (.int v5), some (.int z8)], [.int (z8 + x17), .int v4], sI σ 194 v5.toNatClampNeg z8)) (ps := []) rfl trivial) ?_
      obtain ⟨x20, q22, h⟩ := bdS h
      refine Go.t (Go_callS bk_Md_laysSanded 62 rfl nk_Md_size tw1503 tw1504 (as := [.int (z8 + x17)]) (S := [.int v4]) rfl rfl rfl (Nat.le_of_ble_eq_true rfl) (Nat.le_of_ble_eq_true rfl) (ev_Md_size _ _ q22)) ?_
      refine Go.t (Go_sg bk_Md_laysSanded 63 1 (c2 := (some 117, [some (.ref 166), none, none, some (.int (v3 - x14)), some (.int v4), some (.int v5), some (.int z8)], [.int (v4 - x20)], sI σ 194 v5.toNatClampNeg z8)) (ps := []) rfl trivial) ?_
      exact Go.t (Go.fg (LSub.cs (LSub.cn (LSub.cn (LSub.cs (LSub.cn (LSub.cs (LSub.cn (LSub.nil))))))))) (t_Md_laysSanded_b117 (v3 - x14) v5 (v4 - x20) (sI σ 194 v5.toNatClampNeg z8) h)
    · have h := ifT c23 h
      refine Go.t (Go_sg bk_Md_laysSanded 50 2 (c2 := (some 117, [some (.ref 166), none, none, some (.int (v3 - x14)), some (.int v4), some (.int v5), some (.int z8)], [.int v4], sI σ 194 v5.toNatClampNeg z8)) (ps := []) rfl trivial) ?_
      exact Go.t (Go.fg (LSub.cs (LSub.cn (LSub.cn (LSub.cs (LSub.cn (LSub.cs (LSub.cn (LSub.nil))))))))) (t_Md_laysSanded_b117 (v3 - x14) v5 v4 (sI σ 194 v5.toNatClampNeg z8) h)
def Md_laysSanded_L8  (s : Int32 × Int32 × Int32 × MH) : Option ((MH)) := itr (fun s : Int32 × Int32 × Int32 × MH => Md_laysSanded_l8 s.1 s.2.1 s.2.2.1 s.2.2.2) FU s
set_option maxRecDepth 20000 in
set_option maxHeartbeats 2000000 in
theorem t_Md_laysSanded_L8   (s : Int32 × Int32 × Int32 × MH) {r} (h : Md_laysSanded_L8  s = some r) : Go m_Md_laysSanded 3 (cH_Md_laysSanded_8  s) (cR_Md_laysSanded_8  r) := Go_itr (fun s o ho => t_Md_laysSanded_l8 s.1 s.2.1 s.2.2.1 s.2.2.2 ho) FU s r h
def Md_laysSanded0 (v1 : Int32) (v2 : Int32) (σ : MH) : Option (MH) := (Md_laysSanded_L8 (v1, v2, (0 : Int32), σ)).bind fun z25 => some (z25)
set_option maxRecDepth 20000 in
set_option maxHeartbeats 2000000 in
theorem t_Md_laysSanded0 (v1 : Int32) (v2 : Int32)  (σ : MH) {o} (h : Md_laysSanded0 v1 v2 σ = some o) : Go m_Md_laysSanded 3 (some 0, [some (.ref 166), some (.int v1), some (.int v2), none, none, none, none], [], σ) ((none, [], [], o)) := by
  unfold Md_laysSanded0 at h
  refine Go.t (Go_sg bk_Md_laysSanded 0 6 (c2 := (some 8, [some (.ref 166), some (.int v1), some (.int v2), some (.int v1), some (.int v2), some (.int (0 : Int32)), none], [], σ)) (ps := []) rfl trivial) ?_
  obtain ⟨z25, q26, h⟩ := bdS h
  refine Go.t (Go.t (Go.fg (LSub.cs (LSub.cn (LSub.cn (LSub.cs (LSub.cs (LSub.cs (LSub.cn (LSub.nil))))))))) (t_Md_laysSanded_L8 _ q26)) ?_
  have h := Option.some.inj h
  subst h
  exact Go.rf
def Md_laysSanded (v1 : Int32) (v2 : Int32) (σ : MH) : Option (MH) := Md_laysSanded0 v1 v2 σ
set_option maxRecDepth 20000 in
set_option maxHeartbeats 2000000 in
theorem ev_Md_laysSanded (v1 : Int32) (v2 : Int32)  (σ : MH) {o} (h : Md_laysSanded v1 v2 σ = some o) : Ev m_Md_laysSanded 3 [.ref 166, .int v1, .int v2] σ none o := Ev.of2 (by decide +kernel) rfl (Nat.le_of_ble_eq_true rfl) rfl (t_Md_laysSanded0 v1 v2 σ h)
def cH_Md_slackOfSanded_4 (v1 : Int32) (σ : MH) (s : Int32 × Int32) : MC := (some 4, [some (.ref 166), some (.int v1), some (.int s.1), some (.int s.2)], [], σ)
def cR_Md_slackOfSanded_4 (v1 : Int32) (σ : MH) : ((Int32)) → MC := (fun r : Int32 => ((some 38, [some (.ref 166), some (.int v1), some (.int r), none], [], σ) : MC))
def Md_slackOfSanded_l4 (v1 : Int32) (v2 : Int32) (v3 : Int32) (σ : MH) : Option (((Int32 × Int32) ⊕ ((Int32)))) := if (8 : Int32) ≤ v3 then some (.inr (v2)) else (if inb v3 8 = true then (Md_heightOf v1 ((7 : Int32) - v3) σ).bind fun x2 => (Md_size ((σ.1 194 v3.toNatClampNeg) + x2) σ).bind fun x5 => some (.inl (v2 + x5, v3 + (1 : Int32))) else none)
set_option maxRecDepth 20000 in
set_option maxHeartbeats 2000000 in
theorem t_Md_slackOfSanded_l4 (v1 : Int32) (v2 : Int32) (v3 : Int32)  (σ : MH) {o} (h : Md_slackOfSanded_l4 v1 v2 v3 σ = some o) : Go m_Md_slackOfSanded 2 (cH_Md_slackOfSanded_4 v1 σ (v2, v3)) (cS (cH_Md_slackOfSanded_4 v1 σ) (cR_Md_slackOfSanded_4 v1 σ) o) := by
  unfold Md_slackOfSanded_l4 at h
  unfold cH_Md_slackOfSanded_4
  refine Go.t (Go_sg bk_Md_slackOfSanded 4 2 (c2 := (some 7, [some (.ref 166), some (.int v1), some (.int v2), some (.int v3)], [.int (8 : Int32), .int v3], σ)) (ps := []) rfl trivial) ?_
  refine Go_icmp_ge bk_Md_slackOfSanded 6 rfl (fun c8 => ?_) (fun c8 => ?_)
  · have h := ifT c8 h
    have h := Option.some.inj h
    subst h
    exact Go.fg (LSub.cs (LSub.cs (LSub.cs (LSub.cn (LSub.nil)))))
  · have h := ifF c8 h
    obtain ⟨g1, h⟩ := gdS h
    refine Go.t (Go_sg bk_Md_slackOfSanded 7 10 (c2 := (some 23, [some (.ref 166), some (.int v1), some (.int v2), some (.int v3)], [.int ((7 : Int32) - v3), .int v1, .ref 166, .int (σ.1 194 v3.toNatClampNeg), .int v2], σ)) (ps := [shk 166 = 11, IA 194 8 ∧ inb v3 8 = true]) rfl ⟨rfl, ⟨⟨rfl, rfl⟩, g1⟩, trivial⟩) ?_
    obtain ⟨x2, q4, h⟩ := bdS h
    refine Go.t (Go_callV bk_Md_slackOfSanded 17 rfl nk_Md_heightOf tw1547 tw1549 tw77 (ci := 11) rfl (as := [.int v1, .int ((7 : Int32) - v3)]) (S := [.int (σ.1 194 v3.toNatClampNeg), .int v2]) rfl rfl rfl rfl (Nat.le_of_ble_eq_true rfl) (Nat.le_of_ble_eq_true rfl) (ev_Md_heightOf _ _ _ q4)) ?_
    refine Go.t (Go_sg bk_Md_slackOfSanded 18 1 (c2 := (some 27, [some (.ref 166), some (.int v1), some (.int v2), some (.int v3)], [.int ((σ.1 194 v3.toNatClampNeg) + x2), .int v2], σ)) (ps := []) rfl trivial) ?_
    obtain ⟨x5, q7, h⟩ := bdS h
    refine Go.t (Go_callS bk_Md_slackOfSanded 19 rfl nk_Md_size tw1503 tw1504 (as := [.int ((σ.1 194 v3.toNatClampNeg) + x2)]) (S := [.int v2]) rfl rfl rfl (Nat.le_of_ble_eq_true rfl) (Nat.le_of_ble_eq_true rfl) (ev_Md_size _ _ q7)) ?_
    refine Go.t (Go_sg bk_Md_slackOfSanded 20 4 (c2 := (some 4, [some (.ref 166), some (.int v1), some (.int (v2 + x5)), some (.int (v3 + (1 : Int32)))], [], σ)) (ps := []) rfl trivial) ?_
    have h := Option.some.inj h
    subst h
    exact Go.fg (LSub.cs (LSub.cs (LSub.cs (LSub.cs (LSub.nil)))))
def Md_slackOfSanded_L4 (v1 : Int32) (σ : MH) (s : Int32 × Int32) : Option ((Int32)) := itr (fun s : Int32 × Int32 => Md_slackOfSanded_l4 v1 s.1 s.2 σ) FU s
set_option maxRecDepth 20000 in
set_option maxHeartbeats 2000000 in
theorem t_Md_slackOfSanded_L4 (v1 : Int32)  (σ : MH) (s : Int32 × Int32) {r} (h : Md_slackOfSanded_L4 v1 σ s = some r) : Go m_Md_slackOfSanded 2 (cH_Md_slackOfSanded_4 v1 σ s) (cR_Md_slackOfSanded_4 v1 σ r) := Go_itr (fun s o ho => t_Md_slackOfSanded_l4 v1 s.1 s.2 σ ho) FU s r h
def Md_slackOfSanded0 (v1 : Int32) (σ : MH) : Option (Int32) := (Md_slackOfSanded_L4 v1 σ ((0 : Int32), (0 : Int32))).bind fun z9 => if inb ((72 : Int32) + v1) 1936 = true then if inb ((72 : Int32) + (σ.1 166 43)) 1936 = true then (Md_max (0 : Int32) ((z9 - (σ.1 167 ((72 : Int32) + v1).toNatClampNeg)) - (σ.1 167 ((72 : Int32) + (σ.1 166 43)).toNatClampNeg)) σ).bind fun x13 => some (x13) else none else none
set_option maxRecDepth 20000 in
set_option maxHeartbeats 2000000 in
theorem t_Md_slackOfSanded0 (v1 : Int32)  (σ : MH) {o} (h : Md_slackOfSanded0 v1 σ = some o) : Go m_Md_slackOfSanded 2 (some 0, [some (.ref 166), some (.int v1), none, none], [], σ) ((none, [], [.int o], σ)) := by
  unfold Md_slackOfSanded0 at h
  refine Go.t (Go_sg bk_Md_slackOfSanded 0 4 (c2 := (some 4, [some (.ref 166), some (.int v1), some (.int (0 : Int32)), some (.int (0 : Int32))], [], σ)) (ps := []) rfl trivial) ?_
  obtain ⟨z9, q10, h⟩ := bdS h
  refine Go.t (Go.t (Go.fg (LSub.cs (LSub.cs (LSub.cs (LSub.cs (LSub.nil)))))) (t_Md_slackOfSanded_L4 v1 σ _ q10)) ?_
  obtain ⟨g11, h⟩ := gdS h
  obtain ⟨g12, h⟩ := gdS h
  refine Go.t (Go_sg bk_Md_slackOfSanded 24 17 (c2 := (some 63, [some (.ref 166), some (.int v1), some (.int z9), none], [.int ((z9 - (σ.1 167 ((72 : Int32) + v1).toNatClampNeg)) - (σ.1 167 ((72 : Int32) + (σ.1 166 43)).toNatClampNeg)), .int (0 : Int32)], σ)) (ps := [shk 166 = 11, IA 167 1936 ∧ inb ((72 : Int32) + v1) 1936 = true, shk 166 = 11, shk 166 = 11, IA 167 1936 ∧ inb ((72 : Int32) + (σ.1 166 43)) 1936 = true]) rfl ⟨rfl, ⟨⟨rfl, rfl⟩, g11⟩, rfl, rfl, ⟨⟨rfl, rfl⟩, g12⟩, trivial⟩) ?_
  obtain ⟨x13, q15, h⟩ := bdS h
  refine Go.t (Go_callS bk_Md_slackOfSanded 41 rfl nk_Md_max tw1551 tw1552 (as := [.int (0 : Int32), .int ((z9 - (σ.1 167 ((72 : Int32) + v1).toNatClampNeg)) - (σ.1 167 ((72 : Int32) + (σ.1 166 43)).toNatClampNeg))]) (S := []) rfl rfl rfl (Nat.le_of_ble_eq_true rfl) (Nat.le_of_ble_eq_true rfl) (ev_Md_max _ _ _ q15)) ?_
  have h := Option.some.inj h
  subst h
  exact Go_reti bk_Md_slackOfSanded 42 rfl
def Md_slackOfSanded (v1 : Int32) (σ : MH) : Option (Int32) := Md_slackOfSanded0 v1 σ
set_option maxRecDepth 20000 in
set_option maxHeartbeats 2000000 in
theorem ev_Md_slackOfSanded (v1 : Int32)  (σ : MH) {o} (h : Md_slackOfSanded v1 σ = some o) : Ev m_Md_slackOfSanded 2 [.ref 166, .int v1] σ (some (.int o)) σ := Ev.of2 (by decide +kernel) rfl (Nat.le_of_ble_eq_true rfl) ⟨.int, rfl, rfl⟩ (t_Md_slackOfSanded0 v1 σ h)
def cH_Md_sanding_320 (v1 : Int32) (v7 : Int32) (σ : MH) (s : Int32 × Int32) : MC := (some 320, [some (.ref 166), some (.int v1), none, none, none, none, none, some (.int v7), none, none, none, some (.int s.1), some (.int s.2)], [], σ)
def cR_Md_sanding_320 (v1 : Int32) (v7 : Int32) (σ : MH) : ((Int32)) → MC := (fun r : Int32 => ((none, [], [.int r], σ) : MC))
def Md_sanding_b359 (v1 : Int32) (v7 : Int32) (v11 : Int32) (v12 : Int32) (σ : MH) : Option (((Int32 × Int32) ⊕ ((Int32)))) := some (.inl (v11, v12 + (1 : Int32)))
set_option maxRecDepth 20000 in
set_option maxHeartbeats 2000000 in
theorem t_Md_sanding_b359 (v1 : Int32) (v7 : Int32) (v11 : Int32) (v12 : Int32)   (σ : MH) {o} (h : Md_sanding_b359 v1 v7 v11 v12 σ = some o) : Go m_Md_sanding 4 (some 359, [some (.ref 166), some (.int v1), none, none, none, none, none, some (.int v7), none, none, none, some (.int v11), some (.int v12)], [], σ) (cS (cH_Md_sanding_320 v1 v7 σ) (cR_Md_sanding_320 v1 v7 σ) o) := by
  unfold Md_sanding_b359 at h
  refine Go.t (Go_sg bk_Md_sanding 196 2 (c2 := (some 320, [some (.ref 166), some (.int v1), none, none, none, none, none, some (.int v7), none, none, none, some (.int v11), some (.int (v12 + (1 : Int32)))], [], σ)) (ps := []) rfl trivial) ?_
  have h := Option.some.inj h
  subst h
  exact Go.fg (LSub.cs (LSub.cs (LSub.cn (LSub.cn (LSub.cn (LSub.cn (LSub.cn (LSub.cs (LSub.cn (LSub.cn (LSub.cn (LSub.cs (LSub.cs (LSub.nil))))))))))))))
def Md_sanding_l320 (v1 : Int32) (v7 : Int32) (v11 : Int32) (v12 : Int32) (σ : MH) : Option (((Int32 × Int32) ⊕ ((Int32)))) := if (12 : Int32) ≤ v12 then some (.inr (v11)) else ((Md_isPerson v12 σ).bind fun x27 => if x27 = (0 : Int32) then (Md_sanding_b359 v1 v7 v11 v12 σ) else (if v12 = v1 then (Md_sanding_b359 v1 v7 v11 v12 σ) else ((Md_slackOfSanded v12 σ).bind fun x30 => if v7 < x30 then (Md_sanding_b359 v1 v7 v11 v12 σ) else (Md_sanding_b359 v1 v7 (v11 + (1 : Int32)) v12 σ))))
set_option maxRecDepth 20000 in
set_option maxHeartbeats 2000000 in
theorem t_Md_sanding_l320 (v1 : Int32) (v7 : Int32) (v11 : Int32) (v12 : Int32)  (σ : MH) {o} (h : Md_sanding_l320 v1 v7 v11 v12 σ = some o) : Go m_Md_sanding 4 (cH_Md_sanding_320 v1 v7 σ (v11, v12)) (cS (cH_Md_sanding_320 v1 v7 σ) (cR_Md_sanding_320 v1 v7 σ) o) := by
  unfold Md_sanding_l320 at h
  unfold cH_Md_sanding_320
  refine Go.t (Go_sg bk_Md_sanding 177 2 (c2 := (some 324, [some (.ref 166), some (.int v1), none, none, none, none, none, some (.int v7), none, none, none, some (.int v11), some (.int v12)], [.int (12 : Int32), .int v12], σ)) (ps := []) rfl trivial) ?_
  refine Go_icmp_ge bk_Md_sanding 179 rfl (fun c36 => ?_) (fun c36 => ?_)
  · have h := ifT c36 h
    have h := Option.some.inj h
    subst h
    refine Go.t (Go_sg bk_Md_sanding 198 1 (c2 := (some 367, [some (.ref 166), some (.int v1), none, none, none, none, none, some (.int v7), none, none, none, some (.int v11), some (.int v12)], [.int v11], σ)) (ps := []) rfl trivial) ?_
    exact Go_reti bk_Md_sanding 199 rfl
  · have h := ifF c36 h
    refine Go.t (Go_sg bk_Md_sanding 180 2 (c2 := (some 330, [some (.ref 166), some (.int v1), none, none, none, none, none, some (.int v7), none, none, none, some (.int v11), some (.int v12)], [.int v12, .ref 166], σ)) (ps := []) rfl trivial) ?_
    obtain ⟨x27, q29, h⟩ := bdS h
    refine Go.t (Go_callV bk_Md_sanding 182 rfl nk_Md_isPerson tw1363 tw1365 tw44 (ci := 11) rfl (as := [.int v12]) (S := []) rfl rfl rfl rfl (Nat.le_of_ble_eq_true rfl) (Nat.le_of_ble_eq_true rfl) (ev_Md_isPerson _ _ q29)) ?_
    refine Go_if_eq bk_Md_sanding 183 rfl (fun c35 => ?_) (fun c35 => ?_)
    · have h := ifT c35 h
      exact Go.t (Go.fg (LSub.cs (LSub.cs (LSub.cn (LSub.cn (LSub.cn (LSub.cn (LSub.cn (LSub.cs (LSub.cn (LSub.cn (LSub.cn (LSub.cs (LSub.cs (LSub.nil))))))))))))))) (t_Md_sanding_b359 v1 v7 v11 v12 σ h)
    · have h := ifF c35 h
      refine Go.t (Go_sg bk_Md_sanding 184 2 (c2 := (some 339, [some (.ref 166), some (.int v1), none, none, none, none, none, some (.int v7), none, none, none, some (.int v11), some (.int v12)], [.int v1, .int v12], σ)) (ps := []) rfl trivial) ?_
      refine Go_icmp_eq bk_Md_sanding 186 rfl (fun c34 => ?_) (fun c34 => ?_)
      · have h := ifT c34 h
        exact Go.t (Go.fg (LSub.cs (LSub.cs (LSub.cn (LSub.cn (LSub.cn (LSub.cn (LSub.cn (LSub.cs (LSub.cn (LSub.cn (LSub.cn (LSub.cs (LSub.cs (LSub.nil))))))))))))))) (t_Md_sanding_b359 v1 v7 v11 v12 σ h)
      · have h := ifF c34 h
        refine Go.t (Go_sg bk_Md_sanding 187 2 (c2 := (some 345, [some (.ref 166), some (.int v1), none, none, none, none, none, some (.int v7), none, none, none, some (.int v11), some (.int v12)], [.int v12, .ref 166], σ)) (ps := []) rfl trivial) ?_
        obtain ⟨x30, q32, h⟩ := bdS h
        refine Go.t (Go_callV bk_Md_sanding 189 rfl nk_Md_slackOfSanded tw1719 tw1721 tw105 (ci := 11) rfl (as := [.int v12]) (S := []) rfl rfl rfl rfl (Nat.le_of_ble_eq_true rfl) (Nat.le_of_ble_eq_true rfl) (ev_Md_slackOfSanded _ _ q32)) ?_
        refine Go.t (Go_sg bk_Md_sanding 190 1 (c2 := (some 350, [some (.ref 166), some (.int v1), none, none, none, none, none, some (.int v7), none, none, none, some (.int v11), some (.int v12)], [.int v7, .int x30], σ)) (ps := []) rfl trivial) ?_
        refine Go_icmp_gt bk_Md_sanding 191 rfl (fun c33 => ?_) (fun c33 => ?_)
        · have h := ifT c33 h
          exact Go.t (Go.fg (LSub.cs (LSub.cs (LSub.cn (LSub.cn (LSub.cn (LSub.cn (LSub.cn (LSub.cs (LSub.cn (LSub.cn (LSub.cn (LSub.cs (LSub.cs (LSub.nil))))))))))))))) (t_Md_sanding_b359 v1 v7 v11 v12 σ h)
        · have h := ifF c33 h
          refine Go.t (Go_sg bk_Md_sanding 192 4 (c2 := (some 359, [some (.ref 166), some (.int v1), none, none, none, none, none, some (.int v7), none, none, none, some (.int (v11 + (1 : Int32))), some (.int v12)], [], σ)) (ps := []) rfl trivial) ?_
          exact Go.t (Go.fg (LSub.cs (LSub.cs (LSub.cn (LSub.cn (LSub.cn (LSub.cn (LSub.cn (LSub.cs (LSub.cn (LSub.cn (LSub.cn (LSub.cs (LSub.cs (LSub.nil))))))))))))))) (t_Md_sanding_b359 v1 v7 (v11 + (1 : Int32)) v12 σ h)
def Md_sanding_L320 (v1 : Int32) (v7 : Int32) (σ : MH) (s : Int32 × Int32) : Option ((Int32)) := itr (fun s : Int32 × Int32 => Md_sanding_l320 v1 v7 s.1 s.2 σ) FU s
set_option maxRecDepth 20000 in
set_option maxHeartbeats 2000000 in
theorem t_Md_sanding_L320 (v1 : Int32) (v7 : Int32)  (σ : MH) (s : Int32 × Int32) {r} (h : Md_sanding_L320 v1 v7 σ s = some r) : Go m_Md_sanding 4 (cH_Md_sanding_320 v1 v7 σ s) (cR_Md_sanding_320 v1 v7 σ r) := Go_itr (fun s o ho => t_Md_sanding_l320 v1 v7 s.1 s.2 σ ho) FU s r h
def Md_sanding_b254 (v1 : Int32) (v6 : Int32) (v7 : Int32) (v8 : Int32) (v9 : Int32) (s0 : Int32) (σ : MH) : Option (Int32 × MH) := (Md_laysWork s0 σ).bind fun σ19 => (Md_workAt (0 : Int32) v8 v9 σ19).bind fun x21 => if x21 = (1000000000 : Int32) then some ((-2 : Int32), σ19) else (if v6 = (10 : Int32) then some (x21, σ19) else ((Md_laysSanded v8 v9 σ19).bind fun σ25 => if (8 : Int32) ≤ v6 then ((Md_sanding_L320 v1 v7 σ25 ((0 : Int32), (0 : Int32))).bind fun z37 => some (z37, σ25)) else (if inb v6 8 = true then some ((σ25.1 194 v6.toNatClampNeg) + (10 : Int32), σ25) else none)))
set_option maxRecDepth 20000 in
set_option maxHeartbeats 2000000 in
theorem t_Md_sanding_b254 (v1 : Int32) (v6 : Int32) (v7 : Int32) (v8 : Int32) (v9 : Int32) (s0 : Int32)   (σ : MH) {o} (h : Md_sanding_b254 v1 v6 v7 v8 v9 s0 σ = some o) : Go m_Md_sanding 4 (some 254, [some (.ref 166), some (.int v1), none, none, none, none, some (.int v6), some (.int v7), some (.int v8), some (.int v9), none, none, none], [.int s0, .ref 166], σ) ((none, [], [.int o.1], o.2)) := by
  unfold Md_sanding_b254 at h
  obtain ⟨σ19, q20, h⟩ := bdS h
  refine Go.t (Go_callV bk_Md_sanding 142 rfl nk_Md_laysWork tw1703 tw1705 tw101 (ci := 11) rfl (as := [.int s0]) (S := []) rfl rfl rfl rfl (Nat.le_of_ble_eq_true rfl) (Nat.le_of_ble_eq_true rfl) (ev_Md_laysWork _ _ q20)) ?_
  refine Go.t (Go_sg bk_Md_sanding 143 4 (c2 := (some 263, [some (.ref 166), some (.int v1), none, none, none, none, some (.int v6), some (.int v7), some (.int v8), some (.int v9), none, none, none], [.int v9, .int v8, .int (0 : Int32), .ref 166], σ19)) (ps := []) rfl trivial) ?_
  obtain ⟨x21, q23, h⟩ := bdS h
  refine Go.t (Go_callV bk_Md_sanding 147 rfl nk_Md_workAt tw1711 tw1713 tw103 (ci := 11) rfl (as := [.int (0 : Int32), .int v8, .int v9]) (S := []) rfl rfl rfl rfl (Nat.le_of_ble_eq_true rfl) (Nat.le_of_ble_eq_true rfl) (ev_Md_workAt _ _ _ _ q23)) ?_
  refine Go.t (Go_sg bk_Md_sanding 148 3 (c2 := (some 272, [some (.ref 166), some (.int v1), none, none, none, none, some (.int v6), some (.int v7), some (.int v8), some (.int v9), some (.int x21), none, none], [.int (1000000000 : Int32), .int x21], σ19)) (ps := []) rfl trivial) ?_
  refine Go_icmp_ne bk_Md_sanding 151 rfl (fun c42 => ?_) (fun c42 => ?_)
  · have h := ifF c42 h
    refine Go.t (Go_sg bk_Md_sanding 154 2 (c2 := (some 282, [some (.ref 166), some (.int v1), none, none, none, none, some (.int v6), some (.int v7), some (.int v8), some (.int v9), some (.int x21), none, none], [.int (10 : Int32), .int v6], σ19)) (ps := []) rfl trivial) ?_
    refine Go_icmp_ne bk_Md_sanding 156 rfl (fun c41 => ?_) (fun c41 => ?_)
    · have h := ifF c41 h
      refine Go.t (Go_sg bk_Md_sanding 159 3 (c2 := (some 293, [some (.ref 166), some (.int v1), none, none, none, none, some (.int v6), some (.int v7), some (.int v8), some (.int v9), some (.int x21), none, none], [.int v9, .int v8, .ref 166], σ19)) (ps := []) rfl trivial) ?_
      obtain ⟨σ25, q26, h⟩ := bdS h
      refine Go.t (Go_callV bk_Md_sanding 162 rfl nk_Md_laysSanded tw1715 tw1717 tw104 (ci := 11) rfl (as := [.int v8, .int v9]) (S := []) rfl rfl rfl rfl (Nat.le_of_ble_eq_true rfl) (Nat.le_of_ble_eq_true rfl) (ev_Md_laysSanded _ _ _ q26)) ?_
      refine Go.t (Go_sg bk_Md_sanding 163 2 (c2 := (some 300, [some (.ref 166), some (.int v1), none, none, none, none, some (.int v6), some (.int v7), some (.int v8), some (.int v9), some (.int x21), none, none], [.int (8 : Int32), .int v6], σ25)) (ps := []) rfl trivial) ?_
      refine Go_icmp_ge bk_Md_sanding 165 rfl (fun c40 => ?_) (fun c40 => ?_)
      · have h := ifT c40 h
        refine Go.t (Go_sg bk_Md_sanding 173 4 (c2 := (some 320, [some (.ref 166), some (.int v1), none, none, none, none, some (.int v6), some (.int v7), some (.int v8), some (.int v9), some (.int x21), some (.int (0 : Int32)), some (.int (0 : Int32))], [], σ25)) (ps := []) rfl trivial) ?_
        obtain ⟨z37, q38, h⟩ := bdS h
        refine Go.t (Go.t (Go.fg (LSub.cs (LSub.cs (LSub.cn (LSub.cn (LSub.cn (LSub.cn (LSub.cn (LSub.cs (LSub.cn (LSub.cn (LSub.cn (LSub.cs (LSub.cs (LSub.nil))))))))))))))) (t_Md_sanding_L320 v1 v7 σ25 _ q38)) ?_
        have h := Option.some.inj h
        subst h
        exact Go.rf
      · have h := ifF c40 h
        obtain ⟨g39, h⟩ := gdS h
        have h := Option.some.inj h
        subst h
        refine Go.t (Go_sg bk_Md_sanding 166 6 (c2 := (some 313, [some (.ref 166), some (.int v1), none, none, none, none, some (.int v6), some (.int v7), some (.int v8), some (.int v9), some (.int x21), none, none], [.int ((σ25.1 194 v6.toNatClampNeg) + (10 : Int32))], σ25)) (ps := [shk 166 = 11, IA 194 8 ∧ inb v6 8 = true]) rfl ⟨rfl, ⟨⟨rfl, rfl⟩, g39⟩, trivial⟩) ?_
        exact Go_reti bk_Md_sanding 172 rfl
    · have h := ifT c41 h
      have h := Option.some.inj h
      subst h
      refine Go.t (Go_sg bk_Md_sanding 157 1 (c2 := (some 287, [some (.ref 166), some (.int v1), none, none, none, none, some (.int v6), some (.int v7), some (.int v8), some (.int v9), some (.int x21), none, none], [.int x21], σ19)) (ps := []) rfl trivial) ?_
      exact Go_reti bk_Md_sanding 158 rfl
  · have h := ifT c42 h
    have h := Option.some.inj h
    subst h
    refine Go.t (Go_sg bk_Md_sanding 152 1 (c2 := (some 277, [some (.ref 166), some (.int v1), none, none, none, none, some (.int v6), some (.int v7), some (.int v8), some (.int v9), some (.int x21), none, none], [.int (-2 : Int32)], σ19)) (ps := []) rfl trivial) ?_
    exact Go_reti bk_Md_sanding 153 rfl
def Md_sanding_b239 (v1 : Int32) (v4 : Int32) (v6 : Int32) (v7 : Int32) (v8 : Int32) (s0 : Int32) (σ : MH) : Option (Int32 × MH) := if v4 = (-1 : Int32) then (Md_sanding_b254 v1 v6 v7 v8 s0 (0 : Int32) σ) else (Md_sanding_b254 v1 v6 v7 v8 s0 (60 : Int32) σ)
set_option maxRecDepth 20000 in
set_option maxHeartbeats 2000000 in
theorem t_Md_sanding_b239 (v1 : Int32) (v4 : Int32) (v6 : Int32) (v7 : Int32) (v8 : Int32) (s0 : Int32)   (σ : MH) {o} (h : Md_sanding_b239 v1 v4 v6 v7 v8 s0 σ = some o) : Go m_Md_sanding 4 (some 239, [some (.ref 166), some (.int v1), none, none, some (.int v4), none, some (.int v6), some (.int v7), some (.int v8), none, none, none, none], [.int s0], σ) ((none, [], [.int o.1], o.2)) := by
  unfold Md_sanding_b239 at h
  refine Go.t (Go_sg bk_Md_sanding 134 4 (c2 := (some 245, [some (.ref 166), some (.int v1), none, none, some (.int v4), none, some (.int v6), some (.int v7), some (.int v8), some (.int s0), none, none, none], [.int (-1 : Int32), .int v4, .ref 166], σ)) (ps := []) rfl trivial) ?_
  refine Go_icmp_ne bk_Md_sanding 138 rfl (fun c43 => ?_) (fun c43 => ?_)
  · have h := ifF c43 h
    refine Go.t (Go_sg bk_Md_sanding 141 1 (c2 := (some 254, [some (.ref 166), some (.int v1), none, none, some (.int v4), none, some (.int v6), some (.int v7), some (.int v8), some (.int s0), none, none, none], [.int (60 : Int32), .ref 166], σ)) (ps := []) rfl trivial) ?_
    exact Go.t (Go.fg (LSub.cs (LSub.cs (LSub.cn (LSub.cn (LSub.cn (LSub.cn (LSub.cs (LSub.cs (LSub.cs (LSub.cs (LSub.cn (LSub.cn (LSub.cn (LSub.nil))))))))))))))) (t_Md_sanding_b254 v1 v6 v7 v8 s0 (60 : Int32) σ h)
  · have h := ifT c43 h
    refine Go.t (Go_sg bk_Md_sanding 139 2 (c2 := (some 254, [some (.ref 166), some (.int v1), none, none, some (.int v4), none, some (.int v6), some (.int v7), some (.int v8), some (.int s0), none, none, none], [.int (0 : Int32), .ref 166], σ)) (ps := []) rfl trivial) ?_
    exact Go.t (Go.fg (LSub.cs (LSub.cs (LSub.cn (LSub.cn (LSub.cn (LSub.cn (LSub.cs (LSub.cs (LSub.cs (LSub.cs (LSub.cn (LSub.cn (LSub.cn (LSub.nil))))))))))))))) (t_Md_sanding_b254 v1 v6 v7 v8 s0 (0 : Int32) σ h)
def Md_sanding_b167 (v1 : Int32) (v2 : Int32) (v3 : Int32) (v4 : Int32) (v5 : Int32) (v6 : Int32) (v7 : Int32) (σ : MH) : Option (Int32 × MH) := if inb ((72 : Int32) + v1) 1936 = true then if inb ((72 : Int32) + v2) 1936 = true then if v4 = (-1 : Int32) then (Md_sanding_b239 v1 v4 v6 v7 ((v3 + ((sI (sI (sI σ 166 43 v1) 166 44 v2) 166 45 v4).1 167 ((72 : Int32) + v1).toNatClampNeg)) + ((sI (sI (sI σ 166 43 v1) 166 44 v2) 166 45 v4).1 167 ((72 : Int32) + v2).toNatClampNeg)) (0 : Int32) (sI (sI (sI σ 166 43 v1) 166 44 v2) 166 45 v4)) else (if inb ((72 : Int32) + v4) 1936 = true then Md_sanding_b239 v1 v4 v6 v7 ((v3 + ((sI (sI (sI σ 166 43 v1) 166 44 v2) 166 45 v4).1 167 ((72 : Int32) + v1).toNatClampNeg)) + ((sI (sI (sI σ 166 43 v1) 166 44 v2) 166 45 v4).1 167 ((72 : Int32) + v2).toNatClampNeg)) ((v5 + ((sI (sI (sI σ 166 43 v1) 166 44 v2) 166 45 v4).1 167 ((72 : Int32) + v1).toNatClampNeg)) + ((sI (sI (sI σ 166 43 v1) 166 44 v2) 166 45 v4).1 167 ((72 : Int32) + v4).toNatClampNeg)) (sI (sI (sI σ 166 43 v1) 166 44 v2) 166 45 v4) else none) else none else none
set_option maxRecDepth 20000 in
set_option maxHeartbeats 2000000 in
theorem t_Md_sanding_b167 (v1 : Int32) (v2 : Int32) (v3 : Int32) (v4 : Int32) (v5 : Int32) (v6 : Int32) (v7 : Int32)   (σ : MH) {o} (h : Md_sanding_b167 v1 v2 v3 v4 v5 v6 v7 σ = some o) : Go m_Md_sanding 4 (some 167, [some (.ref 166), some (.int v1), some (.int v2), some (.int v3), some (.int v4), some (.int v5), some (.int v6), some (.int v7), none, none, none, none, none], [], σ) ((none, [], [.int o.1], o.2)) := by
  unfold Md_sanding_b167 at h
  obtain ⟨g15, h⟩ := gdS h
  obtain ⟨g16, h⟩ := gdS h
  refine Go.t (Go_sg bk_Md_sanding 89 27 (c2 := (some 209, [some (.ref 166), some (.int v1), some (.int v2), some (.int v3), some (.int v4), some (.int v5), some (.int v6), some (.int v7), some (.int ((v3 + ((sI (sI (sI σ 166 43 v1) 166 44 v2) 166 45 v4).1 167 ((72 : Int32) + v1).toNatClampNeg)) + ((sI (sI (sI σ 166 43 v1) 166 44 v2) 166 45 v4).1 167 ((72 : Int32) + v2).toNatClampNeg))), none, none, none, none], [.int (-1 : Int32), .int v4], sI (sI (sI σ 166 43 v1) 166 44 v2) 166 45 v4)) (ps := [shk 166 = 11, shk 166 = 11, shk 166 = 11, shk 166 = 11, IA 167 1936 ∧ inb ((72 : Int32) + v1) 1936 = true, shk 166 = 11, IA 167 1936 ∧ inb ((72 : Int32) + v2) 1936 = true]) rfl ⟨rfl, rfl, rfl, rfl, ⟨⟨rfl, rfl⟩, g15⟩, rfl, ⟨⟨rfl, rfl⟩, g16⟩, trivial⟩) ?_
  refine Go_icmp_ne bk_Md_sanding 116 rfl (fun c44 => ?_) (fun c44 => ?_)
  · have h := ifF c44 h
    obtain ⟨g17, h⟩ := gdS h
    refine Go.t (Go_sg bk_Md_sanding 119 15 (c2 := (some 239, [some (.ref 166), some (.int v1), some (.int v2), some (.int v3), some (.int v4), some (.int v5), some (.int v6), some (.int v7), some (.int ((v3 + ((sI (sI (sI σ 166 43 v1) 166 44 v2) 166 45 v4).1 167 ((72 : Int32) + v1).toNatClampNeg)) + ((sI (sI (sI σ 166 43 v1) 166 44 v2) 166 45 v4).1 167 ((72 : Int32) + v2).toNatClampNeg))), none, none, none, none], [.int ((v5 + ((sI (sI (sI σ 166 43 v1) 166 44 v2) 166 45 v4).1 167 ((72 : Int32) + v1).toNatClampNeg)) + ((sI (sI (sI σ 166 43 v1) 166 44 v2) 166 45 v4).1 167 ((72 : Int32) + v4).toNatClampNeg))], sI (sI (sI σ 166 43 v1) 166 44 v2) 166 45 v4)) (ps := [shk 166 = 11, IA 167 1936 ∧ inb ((72 : Int32) + v1) 1936 = true, shk 166 = 11, IA 167 1936 ∧ inb ((72 : Int32) + v4) 1936 = true]) rfl ⟨rfl, ⟨⟨rfl, rfl⟩, g15⟩, rfl, ⟨⟨rfl, rfl⟩, g17⟩, trivial⟩) ?_
    exact Go.t (Go.fg (LSub.cs (LSub.cs (LSub.cn (LSub.cn (LSub.cs (LSub.cn (LSub.cs (LSub.cs (LSub.cs (LSub.cn (LSub.cn (LSub.cn (LSub.cn (LSub.nil))))))))))))))) (t_Md_sanding_b239 v1 v4 v6 v7 ((v3 + ((sI (sI (sI σ 166 43 v1) 166 44 v2) 166 45 v4).1 167 ((72 : Int32) + v1).toNatClampNeg)) + ((sI (sI (sI σ 166 43 v1) 166 44 v2) 166 45 v4).1 167 ((72 : Int32) + v2).toNatClampNeg)) ((v5 + ((sI (sI (sI σ 166 43 v1) 166 44 v2) 166 45 v4).1 167 ((72 : Int32) + v1).toNatClampNeg)) + ((sI (sI (sI σ 166 43 v1) 166 44 v2) 166 45 v4).1 167 ((72 : Int32) + v4).toNatClampNeg)) (sI (sI (sI σ 166 43 v1) 166 44 v2) 166 45 v4) h)
  · have h := ifT c44 h
    refine Go.t (Go_sg bk_Md_sanding 117 2 (c2 := (some 239, [some (.ref 166), some (.int v1), some (.int v2), some (.int v3), some (.int v4), some (.int v5), some (.int v6), some (.int v7), some (.int ((v3 + ((sI (sI (sI σ 166 43 v1) 166 44 v2) 166 45 v4).1 167 ((72 : Int32) + v1).toNatClampNeg)) + ((sI (sI (sI σ 166 43 v1) 166 44 v2) 166 45 v4).1 167 ((72 : Int32) + v2).toNatClampNeg))), none, none, none, none], [.int (0 : Int32)], sI (sI (sI σ 166 43 v1) 166 44 v2) 166 45 v4)) (ps := []) rfl trivial) ?_
    exact Go.t (Go.fg (LSub.cs (LSub.cs (LSub.cn (LSub.cn (LSub.cs (LSub.cn (LSub.cs (LSub.cs (LSub.cs (LSub.cn (LSub.cn (LSub.cn (LSub.cn (LSub.nil))))))))))))))) (t_Md_sanding_b239 v1 v4 v6 v7 ((v3 + ((sI (sI (sI σ 166 43 v1) 166 44 v2) 166 45 v4).1 167 ((72 : Int32) + v1).toNatClampNeg)) + ((sI (sI (sI σ 166 43 v1) 166 44 v2) 166 45 v4).1 167 ((72 : Int32) + v2).toNatClampNeg)) (0 : Int32) (sI (sI (sI σ 166 43 v1) 166 44 v2) 166 45 v4) h)
def Md_sanding_b79 (v1 : Int32) (v2 : Int32) (v3 : Int32) (v4 : Int32) (v5 : Int32) (v6 : Int32) (v7 : Int32) (σ : MH) : Option (Int32 × MH) := (Md_in v7 (0 : Int32) (99 : Int32) σ).bind fun x10 => if x10 = (0 : Int32) then some ((-1 : Int32), σ) else (if (60 : Int32) < v3 then some ((-1 : Int32), σ) else (if inb ((72 : Int32) + v1) 1936 = true then if inb ((72 : Int32) + v2) 1936 = true then if (60 : Int32) < (v3 + (σ.1 167 ((72 : Int32) + v1).toNatClampNeg)) + (σ.1 167 ((72 : Int32) + v2).toNatClampNeg) then some ((-1 : Int32), σ) else (if v4 = (-1 : Int32) then (Md_sanding_b167 v1 v2 v3 v4 v5 v6 v7 σ) else (if (60 : Int32) < v5 then some ((-1 : Int32), σ) else (if inb ((72 : Int32) + v4) 1936 = true then if (v5 + (σ.1 167 ((72 : Int32) + v1).toNatClampNeg)) + (σ.1 167 ((72 : Int32) + v4).toNatClampNeg) ≤ (60 : Int32) then (Md_sanding_b167 v1 v2 v3 v4 v5 v6 v7 σ) else some ((-1 : Int32), σ) else none))) else none else none))
set_option maxRecDepth 20000 in
set_option maxHeartbeats 2000000 in
theorem t_Md_sanding_b79 (v1 : Int32) (v2 : Int32) (v3 : Int32) (v4 : Int32) (v5 : Int32) (v6 : Int32) (v7 : Int32)   (σ : MH) {o} (h : Md_sanding_b79 v1 v2 v3 v4 v5 v6 v7 σ = some o) : Go m_Md_sanding 4 (some 79, [some (.ref 166), some (.int v1), some (.int v2), some (.int v3), some (.int v4), some (.int v5), some (.int v6), some (.int v7), none, none, none, none, none], [], σ) ((none, [], [.int o.1], o.2)) := by
  unfold Md_sanding_b79 at h
  refine Go.t (Go_sg bk_Md_sanding 37 3 (c2 := (some 84, [some (.ref 166), some (.int v1), some (.int v2), some (.int v3), some (.int v4), some (.int v5), some (.int v6), some (.int v7), none, none, none, none, none], [.int (99 : Int32), .int (0 : Int32), .int v7], σ)) (ps := []) rfl trivial) ?_
  obtain ⟨x10, q12, h⟩ := bdS h
  refine Go.t (Go_callS bk_Md_sanding 40 rfl nk_Md_in tw1370 tw1371 (as := [.int v7, .int (0 : Int32), .int (99 : Int32)]) (S := []) rfl rfl rfl (Nat.le_of_ble_eq_true rfl) (Nat.le_of_ble_eq_true rfl) (ev_Md_in _ _ _ _ q12)) ?_
  refine Go_if_ne bk_Md_sanding 41 rfl (fun c51 => ?_) (fun c51 => ?_)
  · have h := ifF c51 h
    refine Go.t (Go_sg bk_Md_sanding 44 2 (c2 := (some 95, [some (.ref 166), some (.int v1), some (.int v2), some (.int v3), some (.int v4), some (.int v5), some (.int v6), some (.int v7), none, none, none, none, none], [.int (60 : Int32), .int v3], σ)) (ps := []) rfl trivial) ?_
    refine Go_icmp_gt bk_Md_sanding 46 rfl (fun c50 => ?_) (fun c50 => ?_)
    · have h := ifT c50 h
      have h := Option.some.inj h
      subst h
      refine Go.t (Go_sg bk_Md_sanding 87 1 (c2 := (some 166, [some (.ref 166), some (.int v1), some (.int v2), some (.int v3), some (.int v4), some (.int v5), some (.int v6), some (.int v7), none, none, none, none, none], [.int (-1 : Int32)], σ)) (ps := []) rfl trivial) ?_
      exact Go_reti bk_Md_sanding 88 rfl
    · have h := ifF c50 h
      obtain ⟨g13, h⟩ := gdS h
      obtain ⟨g14, h⟩ := gdS h
      refine Go.t (Go_sg bk_Md_sanding 47 16 (c2 := (some 121, [some (.ref 166), some (.int v1), some (.int v2), some (.int v3), some (.int v4), some (.int v5), some (.int v6), some (.int v7), none, none, none, none, none], [.int (60 : Int32), .int ((v3 + (σ.1 167 ((72 : Int32) + v1).toNatClampNeg)) + (σ.1 167 ((72 : Int32) + v2).toNatClampNeg))], σ)) (ps := [shk 166 = 11, IA 167 1936 ∧ inb ((72 : Int32) + v1) 1936 = true, shk 166 = 11, IA 167 1936 ∧ inb ((72 : Int32) + v2) 1936 = true]) rfl ⟨rfl, ⟨⟨rfl, rfl⟩, g13⟩, rfl, ⟨⟨rfl, rfl⟩, g14⟩, trivial⟩) ?_
      refine Go_icmp_gt bk_Md_sanding 63 rfl (fun c49 => ?_) (fun c49 => ?_)
      · have h := ifT c49 h
        have h := Option.some.inj h
        subst h
        refine Go.t (Go_sg bk_Md_sanding 87 1 (c2 := (some 166, [some (.ref 166), some (.int v1), some (.int v2), some (.int v3), some (.int v4), some (.int v5), some (.int v6), some (.int v7), none, none, none, none, none], [.int (-1 : Int32)], σ)) (ps := []) rfl trivial) ?_
        exact Go_reti bk_Md_sanding 88 rfl
      · have h := ifF c49 h
        refine Go.t (Go_sg bk_Md_sanding 64 2 (c2 := (some 127, [some (.ref 166), some (.int v1), some (.int v2), some (.int v3), some (.int v4), some (.int v5), some (.int v6), some (.int v7), none, none, none, none, none], [.int (-1 : Int32), .int v4], σ)) (ps := []) rfl trivial) ?_
        refine Go_icmp_eq bk_Md_sanding 66 rfl (fun c48 => ?_) (fun c48 => ?_)
        · have h := ifT c48 h
          exact Go.t (Go.fg (LSub.cs (LSub.cs (LSub.cs (LSub.cs (LSub.cs (LSub.cs (LSub.cs (LSub.cs (LSub.cn (LSub.cn (LSub.cn (LSub.cn (LSub.cn (LSub.nil))))))))))))))) (t_Md_sanding_b167 v1 v2 v3 v4 v5 v6 v7 σ h)
        · have h := ifF c48 h
          refine Go.t (Go_sg bk_Md_sanding 67 2 (c2 := (some 134, [some (.ref 166), some (.int v1), some (.int v2), some (.int v3), some (.int v4), some (.int v5), some (.int v6), some (.int v7), none, none, none, none, none], [.int (60 : Int32), .int v5], σ)) (ps := []) rfl trivial) ?_
          refine Go_icmp_gt bk_Md_sanding 69 rfl (fun c47 => ?_) (fun c47 => ?_)
          · have h := ifT c47 h
            have h := Option.some.inj h
            subst h
            refine Go.t (Go_sg bk_Md_sanding 87 1 (c2 := (some 166, [some (.ref 166), some (.int v1), some (.int v2), some (.int v3), some (.int v4), some (.int v5), some (.int v6), some (.int v7), none, none, none, none, none], [.int (-1 : Int32)], σ)) (ps := []) rfl trivial) ?_
            exact Go_reti bk_Md_sanding 88 rfl
          · have h := ifF c47 h
            obtain ⟨g45, h⟩ := gdS h
            refine Go.t (Go_sg bk_Md_sanding 70 16 (c2 := (some 162, [some (.ref 166), some (.int v1), some (.int v2), some (.int v3), some (.int v4), some (.int v5), some (.int v6), some (.int v7), none, none, none, none, none], [.int (60 : Int32), .int ((v5 + (σ.1 167 ((72 : Int32) + v1).toNatClampNeg)) + (σ.1 167 ((72 : Int32) + v4).toNatClampNeg))], σ)) (ps := [shk 166 = 11, IA 167 1936 ∧ inb ((72 : Int32) + v1) 1936 = true, shk 166 = 11, IA 167 1936 ∧ inb ((72 : Int32) + v4) 1936 = true]) rfl ⟨rfl, ⟨⟨rfl, rfl⟩, g13⟩, rfl, ⟨⟨rfl, rfl⟩, g45⟩, trivial⟩) ?_
            refine Go_icmp_le bk_Md_sanding 86 rfl (fun c46 => ?_) (fun c46 => ?_)
            · have h := ifT c46 h
              exact Go.t (Go.fg (LSub.cs (LSub.cs (LSub.cs (LSub.cs (LSub.cs (LSub.cs (LSub.cs (LSub.cs (LSub.cn (LSub.cn (LSub.cn (LSub.cn (LSub.cn (LSub.nil))))))))))))))) (t_Md_sanding_b167 v1 v2 v3 v4 v5 v6 v7 σ h)
            · have h := ifF c46 h
              have h := Option.some.inj h
              subst h
              refine Go.t (Go_sg bk_Md_sanding 87 1 (c2 := (some 166, [some (.ref 166), some (.int v1), some (.int v2), some (.int v3), some (.int v4), some (.int v5), some (.int v6), some (.int v7), none, none, none, none, none], [.int (-1 : Int32)], σ)) (ps := []) rfl trivial) ?_
              exact Go_reti bk_Md_sanding 88 rfl
  · have h := ifT c51 h
    have h := Option.some.inj h
    subst h
    refine Go.t (Go_sg bk_Md_sanding 42 1 (c2 := (some 91, [some (.ref 166), some (.int v1), some (.int v2), some (.int v3), some (.int v4), some (.int v5), some (.int v6), some (.int v7), none, none, none, none, none], [.int (-1 : Int32)], σ)) (ps := []) rfl trivial) ?_
    exact Go_reti bk_Md_sanding 43 rfl
def Md_sanding_b56 (v1 : Int32) (v2 : Int32) (v3 : Int32) (v4 : Int32) (v5 : Int32) (v6 : Int32) (v7 : Int32) (σ : MH) : Option (Int32 × MH) := (Md_in v6 (0 : Int32) (7 : Int32) σ).bind fun x7 => if x7 = (0 : Int32) then ((Md_in v6 (10 : Int32) (11 : Int32) σ).bind fun x52 => if x52 = (0 : Int32) then some ((-1 : Int32), σ) else (Md_sanding_b79 v1 v2 v3 v4 v5 v6 v7 σ)) else (Md_sanding_b79 v1 v2 v3 v4 v5 v6 v7 σ)
set_option maxRecDepth 20000 in
set_option maxHeartbeats 2000000 in
theorem t_Md_sanding_b56 (v1 : Int32) (v2 : Int32) (v3 : Int32) (v4 : Int32) (v5 : Int32) (v6 : Int32) (v7 : Int32)   (σ : MH) {o} (h : Md_sanding_b56 v1 v2 v3 v4 v5 v6 v7 σ = some o) : Go m_Md_sanding 4 (some 56, [some (.ref 166), some (.int v1), some (.int v2), some (.int v3), some (.int v4), some (.int v5), some (.int v6), some (.int v7), none, none, none, none, none], [], σ) ((none, [], [.int o.1], o.2)) := by
  unfold Md_sanding_b56 at h
  refine Go.t (Go_sg bk_Md_sanding 27 3 (c2 := (some 61, [some (.ref 166), some (.int v1), some (.int v2), some (.int v3), some (.int v4), some (.int v5), some (.int v6), some (.int v7), none, none, none, none, none], [.int (7 : Int32), .int (0 : Int32), .int v6], σ)) (ps := []) rfl trivial) ?_
  obtain ⟨x7, q9, h⟩ := bdS h
  refine Go.t (Go_callS bk_Md_sanding 30 rfl nk_Md_in tw1370 tw1371 (as := [.int v6, .int (0 : Int32), .int (7 : Int32)]) (S := []) rfl rfl rfl (Nat.le_of_ble_eq_true rfl) (Nat.le_of_ble_eq_true rfl) (ev_Md_in _ _ _ _ q9)) ?_
  refine Go_if_ne bk_Md_sanding 31 rfl (fun c56 => ?_) (fun c56 => ?_)
  · have h := ifF c56 h
    exact Go.t (Go.fg (LSub.cs (LSub.cs (LSub.cs (LSub.cs (LSub.cs (LSub.cs (LSub.cs (LSub.cs (LSub.cn (LSub.cn (LSub.cn (LSub.cn (LSub.cn (LSub.nil))))))))))))))) (t_Md_sanding_b79 v1 v2 v3 v4 v5 v6 v7 σ h)
  · have h := ifT c56 h
    refine Go.t (Go_sg bk_Md_sanding 32 3 (c2 := (some 73, [some (.ref 166), some (.int v1), some (.int v2), some (.int v3), some (.int v4), some (.int v5), some (.int v6), some (.int v7), none, none, none, none, none], [.int (11 : Int32), .int (10 : Int32), .int v6], σ)) (ps := []) rfl trivial) ?_
    obtain ⟨x52, q54, h⟩ := bdS h
    refine Go.t (Go_callS bk_Md_sanding 35 rfl nk_Md_in tw1370 tw1371 (as := [.int v6, .int (10 : Int32), .int (11 : Int32)]) (S := []) rfl rfl rfl (Nat.le_of_ble_eq_true rfl) (Nat.le_of_ble_eq_true rfl) (ev_Md_in _ _ _ _ q54)) ?_
    refine Go_if_eq bk_Md_sanding 36 rfl (fun c55 => ?_) (fun c55 => ?_)
    · have h := ifT c55 h
      have h := Option.some.inj h
      subst h
      refine Go.t (Go_sg bk_Md_sanding 42 1 (c2 := (some 91, [some (.ref 166), some (.int v1), some (.int v2), some (.int v3), some (.int v4), some (.int v5), some (.int v6), some (.int v7), none, none, none, none, none], [.int (-1 : Int32)], σ)) (ps := []) rfl trivial) ?_
      exact Go_reti bk_Md_sanding 43 rfl
    · have h := ifF c55 h
      exact Go.t (Go.fg (LSub.cs (LSub.cs (LSub.cs (LSub.cs (LSub.cs (LSub.cs (LSub.cs (LSub.cs (LSub.cn (LSub.cn (LSub.cn (LSub.cn (LSub.cn (LSub.nil))))))))))))))) (t_Md_sanding_b79 v1 v2 v3 v4 v5 v6 v7 σ h)
def Md_sanding0 (v1 : Int32) (v2 : Int32) (v3 : Int32) (v4 : Int32) (v5 : Int32) (v6 : Int32) (v7 : Int32) (σ : MH) : Option (Int32 × MH) := (Md_isTwelve v1 σ).bind fun x1 => if x1 = (0 : Int32) then some ((-1 : Int32), σ) else ((Md_isTwelve v2 σ).bind fun x4 => if x4 = (0 : Int32) then some ((-1 : Int32), σ) else (if v1 = v2 then some ((-1 : Int32), σ) else (if v3 < (0 : Int32) then some ((-1 : Int32), σ) else (if v4 = (-1 : Int32) then (Md_sanding_b56 v1 v2 v3 v4 v5 v6 v7 σ) else ((Md_isTwelve v4 σ).bind fun x57 => if x57 = (0 : Int32) then some ((-1 : Int32), σ) else (if v4 = v2 then some ((-1 : Int32), σ) else (if v4 = v1 then some ((-1 : Int32), σ) else (if (0 : Int32) ≤ v5 then (Md_sanding_b56 v1 v2 v3 v4 v5 v6 v7 σ) else some ((-1 : Int32), σ)))))))))
set_option maxRecDepth 20000 in
set_option maxHeartbeats 2000000 in
theorem t_Md_sanding0 (v1 : Int32) (v2 : Int32) (v3 : Int32) (v4 : Int32) (v5 : Int32) (v6 : Int32) (v7 : Int32)  (σ : MH) {o} (h : Md_sanding0 v1 v2 v3 v4 v5 v6 v7 σ = some o) : Go m_Md_sanding 4 (some 0, [some (.ref 166), some (.int v1), some (.int v2), some (.int v3), some (.int v4), some (.int v5), some (.int v6), some (.int v7), none, none, none, none, none], [], σ) ((none, [], [.int o.1], o.2)) := by
  unfold Md_sanding0 at h
  refine Go.t (Go_sg bk_Md_sanding 0 1 (c2 := (some 1, [some (.ref 166), some (.int v1), some (.int v2), some (.int v3), some (.int v4), some (.int v5), some (.int v6), some (.int v7), none, none, none, none, none], [.int v1], σ)) (ps := []) rfl trivial) ?_
  obtain ⟨x1, q3, h⟩ := bdS h
  refine Go.t (Go_callS bk_Md_sanding 1 rfl nk_Md_isTwelve tw1360 tw1361 (as := [.int v1]) (S := []) rfl rfl rfl (Nat.le_of_ble_eq_true rfl) (Nat.le_of_ble_eq_true rfl) (ev_Md_isTwelve _ _ q3)) ?_
  refine Go_if_eq bk_Md_sanding 2 rfl (fun c68 => ?_) (fun c68 => ?_)
  · have h := ifT c68 h
    have h := Option.some.inj h
    subst h
    refine Go.t (Go_sg bk_Md_sanding 25 1 (c2 := (some 55, [some (.ref 166), some (.int v1), some (.int v2), some (.int v3), some (.int v4), some (.int v5), some (.int v6), some (.int v7), none, none, none, none, none], [.int (-1 : Int32)], σ)) (ps := []) rfl trivial) ?_
    exact Go_reti bk_Md_sanding 26 rfl
  · have h := ifF c68 h
    refine Go.t (Go_sg bk_Md_sanding 3 1 (c2 := (some 8, [some (.ref 166), some (.int v1), some (.int v2), some (.int v3), some (.int v4), some (.int v5), some (.int v6), some (.int v7), none, none, none, none, none], [.int v2], σ)) (ps := []) rfl trivial) ?_
    obtain ⟨x4, q6, h⟩ := bdS h
    refine Go.t (Go_callS bk_Md_sanding 4 rfl nk_Md_isTwelve tw1360 tw1361 (as := [.int v2]) (S := []) rfl rfl rfl (Nat.le_of_ble_eq_true rfl) (Nat.le_of_ble_eq_true rfl) (ev_Md_isTwelve _ _ q6)) ?_
    refine Go_if_eq bk_Md_sanding 5 rfl (fun c67 => ?_) (fun c67 => ?_)
    · have h := ifT c67 h
      have h := Option.some.inj h
      subst h
      refine Go.t (Go_sg bk_Md_sanding 25 1 (c2 := (some 55, [some (.ref 166), some (.int v1), some (.int v2), some (.int v3), some (.int v4), some (.int v5), some (.int v6), some (.int v7), none, none, none, none, none], [.int (-1 : Int32)], σ)) (ps := []) rfl trivial) ?_
      exact Go_reti bk_Md_sanding 26 rfl
    · have h := ifF c67 h
      refine Go.t (Go_sg bk_Md_sanding 6 2 (c2 := (some 16, [some (.ref 166), some (.int v1), some (.int v2), some (.int v3), some (.int v4), some (.int v5), some (.int v6), some (.int v7), none, none, none, none, none], [.int v2, .int v1], σ)) (ps := []) rfl trivial) ?_
      refine Go_icmp_eq bk_Md_sanding 8 rfl (fun c66 => ?_) (fun c66 => ?_)
      · have h := ifT c66 h
        have h := Option.some.inj h
        subst h
        refine Go.t (Go_sg bk_Md_sanding 25 1 (c2 := (some 55, [some (.ref 166), some (.int v1), some (.int v2), some (.int v3), some (.int v4), some (.int v5), some (.int v6), some (.int v7), none, none, none, none, none], [.int (-1 : Int32)], σ)) (ps := []) rfl trivial) ?_
        exact Go_reti bk_Md_sanding 26 rfl
      · have h := ifF c66 h
        refine Go.t (Go_sg bk_Md_sanding 9 1 (c2 := (some 20, [some (.ref 166), some (.int v1), some (.int v2), some (.int v3), some (.int v4), some (.int v5), some (.int v6), some (.int v7), none, none, none, none, none], [.int v3], σ)) (ps := []) rfl trivial) ?_
        refine Go_if_lt bk_Md_sanding 10 rfl (fun c65 => ?_) (fun c65 => ?_)
        · have h := ifT c65 h
          have h := Option.some.inj h
          subst h
          refine Go.t (Go_sg bk_Md_sanding 25 1 (c2 := (some 55, [some (.ref 166), some (.int v1), some (.int v2), some (.int v3), some (.int v4), some (.int v5), some (.int v6), some (.int v7), none, none, none, none, none], [.int (-1 : Int32)], σ)) (ps := []) rfl trivial) ?_
          exact Go_reti bk_Md_sanding 26 rfl
        · have h := ifF c65 h
          refine Go.t (Go_sg bk_Md_sanding 11 2 (c2 := (some 26, [some (.ref 166), some (.int v1), some (.int v2), some (.int v3), some (.int v4), some (.int v5), some (.int v6), some (.int v7), none, none, none, none, none], [.int (-1 : Int32), .int v4], σ)) (ps := []) rfl trivial) ?_
          refine Go_icmp_eq bk_Md_sanding 13 rfl (fun c64 => ?_) (fun c64 => ?_)
          · have h := ifT c64 h
            exact Go.t (Go.fg (LSub.cs (LSub.cs (LSub.cs (LSub.cs (LSub.cs (LSub.cs (LSub.cs (LSub.cs (LSub.cn (LSub.cn (LSub.cn (LSub.cn (LSub.cn (LSub.nil))))))))))))))) (t_Md_sanding_b56 v1 v2 v3 v4 v5 v6 v7 σ h)
          · have h := ifF c64 h
            refine Go.t (Go_sg bk_Md_sanding 14 1 (c2 := (some 31, [some (.ref 166), some (.int v1), some (.int v2), some (.int v3), some (.int v4), some (.int v5), some (.int v6), some (.int v7), none, none, none, none, none], [.int v4], σ)) (ps := []) rfl trivial) ?_
            obtain ⟨x57, q59, h⟩ := bdS h
            refine Go.t (Go_callS bk_Md_sanding 15 rfl nk_Md_isTwelve tw1360 tw1361 (as := [.int v4]) (S := []) rfl rfl rfl (Nat.le_of_ble_eq_true rfl) (Nat.le_of_ble_eq_true rfl) (ev_Md_isTwelve _ _ q59)) ?_
            refine Go_if_eq bk_Md_sanding 16 rfl (fun c63 => ?_) (fun c63 => ?_)
            · have h := ifT c63 h
              have h := Option.some.inj h
              subst h
              refine Go.t (Go_sg bk_Md_sanding 25 1 (c2 := (some 55, [some (.ref 166), some (.int v1), some (.int v2), some (.int v3), some (.int v4), some (.int v5), some (.int v6), some (.int v7), none, none, none, none, none], [.int (-1 : Int32)], σ)) (ps := []) rfl trivial) ?_
              exact Go_reti bk_Md_sanding 26 rfl
            · have h := ifF c63 h
              refine Go.t (Go_sg bk_Md_sanding 17 2 (c2 := (some 40, [some (.ref 166), some (.int v1), some (.int v2), some (.int v3), some (.int v4), some (.int v5), some (.int v6), some (.int v7), none, none, none, none, none], [.int v2, .int v4], σ)) (ps := []) rfl trivial) ?_
              refine Go_icmp_eq bk_Md_sanding 19 rfl (fun c62 => ?_) (fun c62 => ?_)
              · have h := ifT c62 h
                have h := Option.some.inj h
                subst h
                refine Go.t (Go_sg bk_Md_sanding 25 1 (c2 := (some 55, [some (.ref 166), some (.int v1), some (.int v2), some (.int v3), some (.int v4), some (.int v5), some (.int v6), some (.int v7), none, none, none, none, none], [.int (-1 : Int32)], σ)) (ps := []) rfl trivial) ?_
                exact Go_reti bk_Md_sanding 26 rfl
              · have h := ifF c62 h
                refine Go.t (Go_sg bk_Md_sanding 20 2 (c2 := (some 46, [some (.ref 166), some (.int v1), some (.int v2), some (.int v3), some (.int v4), some (.int v5), some (.int v6), some (.int v7), none, none, none, none, none], [.int v1, .int v4], σ)) (ps := []) rfl trivial) ?_
                refine Go_icmp_eq bk_Md_sanding 22 rfl (fun c61 => ?_) (fun c61 => ?_)
                · have h := ifT c61 h
                  have h := Option.some.inj h
                  subst h
                  refine Go.t (Go_sg bk_Md_sanding 25 1 (c2 := (some 55, [some (.ref 166), some (.int v1), some (.int v2), some (.int v3), some (.int v4), some (.int v5), some (.int v6), some (.int v7), none, none, none, none, none], [.int (-1 : Int32)], σ)) (ps := []) rfl trivial) ?_
                  exact Go_reti bk_Md_sanding 26 rfl
                · have h := ifF c61 h
                  refine Go.t (Go_sg bk_Md_sanding 23 1 (c2 := (some 51, [some (.ref 166), some (.int v1), some (.int v2), some (.int v3), some (.int v4), some (.int v5), some (.int v6), some (.int v7), none, none, none, none, none], [.int v5], σ)) (ps := []) rfl trivial) ?_
                  refine Go_if_ge bk_Md_sanding 24 rfl (fun c60 => ?_) (fun c60 => ?_)
                  · have h := ifT c60 h
                    exact Go.t (Go.fg (LSub.cs (LSub.cs (LSub.cs (LSub.cs (LSub.cs (LSub.cs (LSub.cs (LSub.cs (LSub.cn (LSub.cn (LSub.cn (LSub.cn (LSub.cn (LSub.nil))))))))))))))) (t_Md_sanding_b56 v1 v2 v3 v4 v5 v6 v7 σ h)
                  · have h := ifF c60 h
                    have h := Option.some.inj h
                    subst h
                    refine Go.t (Go_sg bk_Md_sanding 25 1 (c2 := (some 55, [some (.ref 166), some (.int v1), some (.int v2), some (.int v3), some (.int v4), some (.int v5), some (.int v6), some (.int v7), none, none, none, none, none], [.int (-1 : Int32)], σ)) (ps := []) rfl trivial) ?_
                    exact Go_reti bk_Md_sanding 26 rfl
def Md_sanding (v1 : Int32) (v2 : Int32) (v3 : Int32) (v4 : Int32) (v5 : Int32) (v6 : Int32) (v7 : Int32) (σ : MH) : Option (Int32 × MH) := Md_sanding0 v1 v2 v3 v4 v5 v6 v7 σ
set_option maxRecDepth 20000 in
set_option maxHeartbeats 2000000 in
theorem ev_Md_sanding (v1 : Int32) (v2 : Int32) (v3 : Int32) (v4 : Int32) (v5 : Int32) (v6 : Int32) (v7 : Int32)  (σ : MH) {o} (h : Md_sanding v1 v2 v3 v4 v5 v6 v7 σ = some o) : Ev m_Md_sanding 4 [.ref 166, .int v1, .int v2, .int v3, .int v4, .int v5, .int v6, .int v7] σ (some (.int o.1)) o.2 := Ev.of2 (by decide +kernel) rfl (Nat.le_of_ble_eq_true rfl) ⟨.int, rfl, rfl⟩ (t_Md_sanding0 v1 v2 v3 v4 v5 v6 v7 σ h)
def cH_Md_slackSteamed_6 (v1 : Int32) (v2 : Int32) (v3 : Int32) (v4 : Int32) (σ : MH) (s : Int32 × Int32) : MC := (some 6, [some (.ref 166), some (.int v1), some (.int v2), some (.int v3), some (.int v4), some (.int s.1), some (.int s.2), none], [], σ)
def cR_Md_slackSteamed_6 (v1 : Int32) (v2 : Int32) (v3 : Int32) (v4 : Int32) (σ : MH) : ((Int32)) → MC := (fun r : Int32 => ((some 67, [some (.ref 166), some (.int v1), some (.int v2), none, none, some (.int r), none, none], [], σ) : MC))
def Md_slackSteamed_l6 (v1 : Int32) (v2 : Int32) (v3 : Int32) (v4 : Int32) (v5 : Int32) (v6 : Int32) (σ : MH) : Option (((Int32 × Int32) ⊕ ((Int32)))) := if (8 : Int32) ≤ v6 then some (.inr (v5)) else ((Md_heightOf v1 (jrem (v6 + v3) (8 : Int32)) σ).bind fun x1 => (Md_min (9 : Int32) (x1 + v4) σ).bind fun x4 => (Md_max (-9 : Int32) x4 σ).bind fun x7 => (Md_heightOf v2 ((7 : Int32) - v6) σ).bind fun x10 => (Md_size (x7 + x10) σ).bind fun x13 => some (.inl (v5 + x13, v6 + (1 : Int32))))
set_option maxRecDepth 20000 in
set_option maxHeartbeats 2000000 in
theorem t_Md_slackSteamed_l6 (v1 : Int32) (v2 : Int32) (v3 : Int32) (v4 : Int32) (v5 : Int32) (v6 : Int32)  (σ : MH) {o} (h : Md_slackSteamed_l6 v1 v2 v3 v4 v5 v6 σ = some o) : Go m_Md_slackSteamed 2 (cH_Md_slackSteamed_6 v1 v2 v3 v4 σ (v5, v6)) (cS (cH_Md_slackSteamed_6 v1 v2 v3 v4 σ) (cR_Md_slackSteamed_6 v1 v2 v3 v4 σ) o) := by
  unfold Md_slackSteamed_l6 at h
  unfold cH_Md_slackSteamed_6
  refine Go.t (Go_sg bk_Md_slackSteamed 4 2 (c2 := (some 10, [some (.ref 166), some (.int v1), some (.int v2), some (.int v3), some (.int v4), some (.int v5), some (.int v6), none], [.int (8 : Int32), .int v6], σ)) (ps := []) rfl trivial) ?_
  refine Go_icmp_ge bk_Md_slackSteamed 6 rfl (fun c16 => ?_) (fun c16 => ?_)
  · have h := ifT c16 h
    have h := Option.some.inj h
    subst h
    exact Go.fg (LSub.cs (LSub.cs (LSub.cs (LSub.cn (LSub.cn (LSub.cs (LSub.cn (LSub.cn (LSub.nil)))))))))
  · have h := ifF c16 h
    refine Go.t (Go_sg bk_Md_slackSteamed 7 7 (c2 := (some 22, [some (.ref 166), some (.int v1), some (.int v2), some (.int v3), some (.int v4), some (.int v5), some (.int v6), none], [.int (jrem (v6 + v3) (8 : Int32)), .int v1, .ref 166], σ)) (ps := [(8 : Int32) ≠ 0]) rfl ⟨(by decide), trivial⟩) ?_
    obtain ⟨x1, q3, h⟩ := bdS h
    refine Go.t (Go_callV bk_Md_slackSteamed 14 rfl nk_Md_heightOf tw1547 tw1549 tw77 (ci := 11) rfl (as := [.int v1, .int (jrem (v6 + v3) (8 : Int32))]) (S := []) rfl rfl rfl rfl (Nat.le_of_ble_eq_true rfl) (Nat.le_of_ble_eq_true rfl) (ev_Md_heightOf _ _ _ q3)) ?_
    refine Go.t (Go_sg bk_Md_slackSteamed 15 7 (c2 := (some 38, [some (.ref 166), some (.int v1), some (.int v2), some (.int v3), some (.int v4), some (.int v5), some (.int v6), some (.int (x1 + v4))], [.int (x1 + v4), .int (9 : Int32), .int (-9 : Int32), .int v5], σ)) (ps := []) rfl trivial) ?_
    obtain ⟨x4, q6, h⟩ := bdS h
    refine Go.t (Go_callS bk_Md_slackSteamed 22 rfl nk_Md_min tw1554 tw1555 (as := [.int (9 : Int32), .int (x1 + v4)]) (S := [.int (-9 : Int32), .int v5]) rfl rfl rfl (Nat.le_of_ble_eq_true rfl) (Nat.le_of_ble_eq_true rfl) (ev_Md_min _ _ _ q6)) ?_
    obtain ⟨x7, q9, h⟩ := bdS h
    refine Go.t (Go_callS bk_Md_slackSteamed 23 rfl nk_Md_max tw1551 tw1552 (as := [.int (-9 : Int32), .int x4]) (S := [.int v5]) rfl rfl rfl (Nat.le_of_ble_eq_true rfl) (Nat.le_of_ble_eq_true rfl) (ev_Md_max _ _ _ q9)) ?_
    refine Go.t (Go_sg bk_Md_slackSteamed 24 5 (c2 := (some 51, [some (.ref 166), some (.int v1), some (.int v2), some (.int v3), some (.int v4), some (.int v5), some (.int v6), some (.int (x1 + v4))], [.int ((7 : Int32) - v6), .int v2, .ref 166, .int x7, .int v5], σ)) (ps := []) rfl trivial) ?_
    obtain ⟨x10, q12, h⟩ := bdS h
    refine Go.t (Go_callV bk_Md_slackSteamed 29 rfl nk_Md_heightOf tw1547 tw1549 tw77 (ci := 11) rfl (as := [.int v2, .int ((7 : Int32) - v6)]) (S := [.int x7, .int v5]) rfl rfl rfl rfl (Nat.le_of_ble_eq_true rfl) (Nat.le_of_ble_eq_true rfl) (ev_Md_heightOf _ _ _ q12)) ?_
    refine Go.t (Go_sg bk_Md_slackSteamed 30 1 (c2 := (some 55, [some (.ref 166), some (.int v1), some (.int v2), some (.int v3), some (.int v4), some (.int v5), some (.int v6), some (.int (x1 + v4))], [.int (x7 + x10), .int v5], σ)) (ps := []) rfl trivial) ?_
    obtain ⟨x13, q15, h⟩ := bdS h
    refine Go.t (Go_callS bk_Md_slackSteamed 31 rfl nk_Md_size tw1503 tw1504 (as := [.int (x7 + x10)]) (S := [.int v5]) rfl rfl rfl (Nat.le_of_ble_eq_true rfl) (Nat.le_of_ble_eq_true rfl) (ev_Md_size _ _ q15)) ?_
    refine Go.t (Go_sg bk_Md_slackSteamed 32 4 (c2 := (some 6, [some (.ref 166), some (.int v1), some (.int v2), some (.int v3), some (.int v4), some (.int (v5 + x13)), some (.int (v6 + (1 : Int32))), some (.int (x1 + v4))], [], σ)) (ps := []) rfl trivial) ?_
    have h := Option.some.inj h
    subst h
    exact Go.fg (LSub.cs (LSub.cs (LSub.cs (LSub.cs (LSub.cs (LSub.cs (LSub.cs (LSub.cn (LSub.nil)))))))))
def Md_slackSteamed_L6 (v1 : Int32) (v2 : Int32) (v3 : Int32) (v4 : Int32) (σ : MH) (s : Int32 × Int32) : Option ((Int32)) := itr (fun s : Int32 × Int32 => Md_slackSteamed_l6 v1 v2 v3 v4 s.1 s.2 σ) FU s
set_option maxRecDepth 20000 in
set_option maxHeartbeats 2000000 in
theorem t_Md_slackSteamed_L6 (v1 : Int32) (v2 : Int32) (v3 : Int32) (v4 : Int32)  (σ : MH) (s : Int32 × Int32) {r} (h : Md_slackSteamed_L6 v1 v2 v3 v4 σ s = some r) : Go m_Md_slackSteamed 2 (cH_Md_slackSteamed_6 v1 v2 v3 v4 σ s) (cR_Md_slackSteamed_6 v1 v2 v3 v4 σ r) := Go_itr (fun s o ho => t_Md_slackSteamed_l6 v1 v2 v3 v4 s.1 s.2 σ ho) FU s r h
def Md_slackSteamed0 (v1 : Int32) (v2 : Int32) (v3 : Int32) (v4 : Int32) (σ : MH) : Option (Int32) := (Md_slackSteamed_L6 v1 v2 v3 v4 σ ((0 : Int32), (0 : Int32))).bind fun z17 => if inb ((72 : Int32) + v1) 1936 = true then if inb ((72 : Int32) + v2) 1936 = true then (Md_max (0 : Int32) ((z17 - (σ.1 167 ((72 : Int32) + v1).toNatClampNeg)) - (σ.1 167 ((72 : Int32) + v2).toNatClampNeg)) σ).bind fun x21 => some (x21) else none else none
set_option maxRecDepth 20000 in
set_option maxHeartbeats 2000000 in
theorem t_Md_slackSteamed0 (v1 : Int32) (v2 : Int32) (v3 : Int32) (v4 : Int32)  (σ : MH) {o} (h : Md_slackSteamed0 v1 v2 v3 v4 σ = some o) : Go m_Md_slackSteamed 2 (some 0, [some (.ref 166), some (.int v1), some (.int v2), some (.int v3), some (.int v4), none, none, none], [], σ) ((none, [], [.int o], σ)) := by
  unfold Md_slackSteamed0 at h
  refine Go.t (Go_sg bk_Md_slackSteamed 0 4 (c2 := (some 6, [some (.ref 166), some (.int v1), some (.int v2), some (.int v3), some (.int v4), some (.int (0 : Int32)), some (.int (0 : Int32)), none], [], σ)) (ps := []) rfl trivial) ?_
  obtain ⟨z17, q18, h⟩ := bdS h
  refine Go.t (Go.t (Go.fg (LSub.cs (LSub.cs (LSub.cs (LSub.cs (LSub.cs (LSub.cs (LSub.cs (LSub.cn (LSub.nil)))))))))) (t_Md_slackSteamed_L6 v1 v2 v3 v4 σ _ q18)) ?_
  obtain ⟨g19, h⟩ := gdS h
  obtain ⟨g20, h⟩ := gdS h
  refine Go.t (Go_sg bk_Md_slackSteamed 36 16 (c2 := (some 90, [some (.ref 166), some (.int v1), some (.int v2), none, none, some (.int z17), none, none], [.int ((z17 - (σ.1 167 ((72 : Int32) + v1).toNatClampNeg)) - (σ.1 167 ((72 : Int32) + v2).toNatClampNeg)), .int (0 : Int32)], σ)) (ps := [shk 166 = 11, IA 167 1936 ∧ inb ((72 : Int32) + v1) 1936 = true, shk 166 = 11, IA 167 1936 ∧ inb ((72 : Int32) + v2) 1936 = true]) rfl ⟨rfl, ⟨⟨rfl, rfl⟩, g19⟩, rfl, ⟨⟨rfl, rfl⟩, g20⟩, trivial⟩) ?_
  obtain ⟨x21, q23, h⟩ := bdS h
  refine Go.t (Go_callS bk_Md_slackSteamed 52 rfl nk_Md_max tw1551 tw1552 (as := [.int (0 : Int32), .int ((z17 - (σ.1 167 ((72 : Int32) + v1).toNatClampNeg)) - (σ.1 167 ((72 : Int32) + v2).toNatClampNeg))]) (S := []) rfl rfl rfl (Nat.le_of_ble_eq_true rfl) (Nat.le_of_ble_eq_true rfl) (ev_Md_max _ _ _ q23)) ?_
  have h := Option.some.inj h
  subst h
  exact Go_reti bk_Md_slackSteamed 53 rfl
def Md_slackSteamed (v1 : Int32) (v2 : Int32) (v3 : Int32) (v4 : Int32) (σ : MH) : Option (Int32) := Md_slackSteamed0 v1 v2 v3 v4 σ
set_option maxRecDepth 20000 in
set_option maxHeartbeats 2000000 in
theorem ev_Md_slackSteamed (v1 : Int32) (v2 : Int32) (v3 : Int32) (v4 : Int32)  (σ : MH) {o} (h : Md_slackSteamed v1 v2 v3 v4 σ = some o) : Ev m_Md_slackSteamed 2 [.ref 166, .int v1, .int v2, .int v3, .int v4] σ (some (.int o)) σ := Ev.of2 (by decide +kernel) rfl (Nat.le_of_ble_eq_true rfl) ⟨.int, rfl, rfl⟩ (t_Md_slackSteamed0 v1 v2 v3 v4 σ h)
def cH_Md_steaming_51 (v1 : Int32) (v2 : Int32) (v3 : Int32) (v4 : Int32) (σ : MH) (s : Int32 × Int32 × Int32) : MC := (some 51, [some (.ref 166), some (.int v1), some (.int v2), some (.int v3), some (.int v4), some (.int s.1), some (.int s.2.1), some (.int s.2.2), none], [], σ)
def cR_Md_steaming_51 (v1 : Int32) (v2 : Int32) (v3 : Int32) (v4 : Int32) (σ : MH) : ((Int32 × Int32)) → MC := (fun r : Int32 × Int32 => ((some 134, [none, none, none, none, some (.int v4), some (.int r.1), some (.int r.2), none, none], [], σ) : MC))
def cH_Md_steaming_62 (v1 : Int32) (v2 : Int32) (v3 : Int32) (v4 : Int32) (v7 : Int32) (σ : MH) (s : Int32 × Int32 × Int32) : MC := (some 62, [some (.ref 166), some (.int v1), some (.int v2), some (.int v3), some (.int v4), some (.int s.1), some (.int s.2.1), some (.int v7), some (.int s.2.2)], [], σ)
def cR_Md_steaming_62 (v1 : Int32) (v2 : Int32) (v3 : Int32) (v4 : Int32) (v7 : Int32) (σ : MH) : ((Int32 × Int32)) → MC := (fun r : Int32 × Int32 => ((some 128, [some (.ref 166), some (.int v1), some (.int v2), some (.int v3), some (.int v4), some (.int r.1), some (.int r.2), some (.int v7), none], [], σ) : MC))
def Md_steaming_b122 (v1 : Int32) (v2 : Int32) (v3 : Int32) (v4 : Int32) (v5 : Int32) (v6 : Int32) (v7 : Int32) (v8 : Int32) (σ : MH) : Option (((Int32 × Int32 × Int32) ⊕ ((Int32 × Int32)))) := some (.inl (v5, v6, v8 + (1 : Int32)))
set_option maxRecDepth 20000 in
set_option maxHeartbeats 2000000 in
theorem t_Md_steaming_b122 (v1 : Int32) (v2 : Int32) (v3 : Int32) (v4 : Int32) (v5 : Int32) (v6 : Int32) (v7 : Int32) (v8 : Int32)   (σ : MH) {o} (h : Md_steaming_b122 v1 v2 v3 v4 v5 v6 v7 v8 σ = some o) : Go m_Md_steaming 3 (some 122, [some (.ref 166), some (.int v1), some (.int v2), some (.int v3), some (.int v4), some (.int v5), some (.int v6), some (.int v7), some (.int v8)], [], σ) (cS (cH_Md_steaming_62 v1 v2 v3 v4 v7 σ) (cR_Md_steaming_62 v1 v2 v3 v4 v7 σ) o) := by
  unfold Md_steaming_b122 at h
  refine Go.t (Go_sg bk_Md_steaming 63 2 (c2 := (some 62, [some (.ref 166), some (.int v1), some (.int v2), some (.int v3), some (.int v4), some (.int v5), some (.int v6), some (.int v7), some (.int (v8 + (1 : Int32)))], [], σ)) (ps := []) rfl trivial) ?_
  have h := Option.some.inj h
  subst h
  exact Go.fg (LSub.cs (LSub.cs (LSub.cs (LSub.cs (LSub.cs (LSub.cs (LSub.cs (LSub.cs (LSub.cs (LSub.nil))))))))))
def Md_steaming_l62 (v1 : Int32) (v2 : Int32) (v3 : Int32) (v4 : Int32) (v7 : Int32) (v5 : Int32) (v6 : Int32) (v8 : Int32) (σ : MH) : Option (((Int32 × Int32 × Int32) ⊕ ((Int32 × Int32)))) := if (9 : Int32) < v8 then some (.inr (v5, v6)) else ((Md_size v8 σ).bind fun x13 => if v6 ≤ v7 + x13 then (Md_steaming_b122 v1 v2 v3 v4 v5 v6 v7 v8 σ) else ((Md_slackSteamed v1 v2 v7 v8 σ).bind fun x16 => if x16 ≤ v3 then ((Md_size v8 σ).bind fun x19 => Md_steaming_b122 v1 v2 v3 v4 ((((20 : Int32) * v7) + v8) + (10 : Int32)) (v7 + x19) v7 v8 σ) else (Md_steaming_b122 v1 v2 v3 v4 v5 v6 v7 v8 σ)))
set_option maxRecDepth 20000 in
set_option maxHeartbeats 2000000 in
theorem t_Md_steaming_l62 (v1 : Int32) (v2 : Int32) (v3 : Int32) (v4 : Int32) (v7 : Int32) (v5 : Int32) (v6 : Int32) (v8 : Int32)  (σ : MH) {o} (h : Md_steaming_l62 v1 v2 v3 v4 v7 v5 v6 v8 σ = some o) : Go m_Md_steaming 3 (cH_Md_steaming_62 v1 v2 v3 v4 v7 σ (v5, v6, v8)) (cS (cH_Md_steaming_62 v1 v2 v3 v4 v7 σ) (cR_Md_steaming_62 v1 v2 v3 v4 v7 σ) o) := by
  unfold Md_steaming_l62 at h
  unfold cH_Md_steaming_62
  refine Go.t (Go_sg bk_Md_steaming 32 2 (c2 := (some 66, [some (.ref 166), some (.int v1), some (.int v2), some (.int v3), some (.int v4), some (.int v5), some (.int v6), some (.int v7), some (.int v8)], [.int (9 : Int32), .int v8], σ)) (ps := []) rfl trivial) ?_
  refine Go_icmp_gt bk_Md_steaming 34 rfl (fun c24 => ?_) (fun c24 => ?_)
  · have h := ifT c24 h
    have h := Option.some.inj h
    subst h
    exact Go.fg (LSub.cs (LSub.cs (LSub.cs (LSub.cs (LSub.cs (LSub.cs (LSub.cs (LSub.cs (LSub.cn (LSub.nil))))))))))
  · have h := ifF c24 h
    refine Go.t (Go_sg bk_Md_steaming 35 2 (c2 := (some 73, [some (.ref 166), some (.int v1), some (.int v2), some (.int v3), some (.int v4), some (.int v5), some (.int v6), some (.int v7), some (.int v8)], [.int v8, .int v7], σ)) (ps := []) rfl trivial) ?_
    obtain ⟨x13, q15, h⟩ := bdS h
    refine Go.t (Go_callS bk_Md_steaming 37 rfl nk_Md_size tw1503 tw1504 (as := [.int v8]) (S := [.int v7]) rfl rfl rfl (Nat.le_of_ble_eq_true rfl) (Nat.le_of_ble_eq_true rfl) (ev_Md_size _ _ q15)) ?_
    refine Go.t (Go_sg bk_Md_steaming 38 2 (c2 := (some 79, [some (.ref 166), some (.int v1), some (.int v2), some (.int v3), some (.int v4), some (.int v5), some (.int v6), some (.int v7), some (.int v8)], [.int v6, .int (v7 + x13)], σ)) (ps := []) rfl trivial) ?_
    refine Go_icmp_ge bk_Md_steaming 40 rfl (fun c23 => ?_) (fun c23 => ?_)
    · have h := ifT c23 h
      exact Go.t (Go.fg (LSub.cs (LSub.cs (LSub.cs (LSub.cs (LSub.cs (LSub.cs (LSub.cs (LSub.cs (LSub.cs (LSub.nil))))))))))) (t_Md_steaming_b122 v1 v2 v3 v4 v5 v6 v7 v8 σ h)
    · have h := ifF c23 h
      refine Go.t (Go_sg bk_Md_steaming 41 5 (c2 := (some 89, [some (.ref 166), some (.int v1), some (.int v2), some (.int v3), some (.int v4), some (.int v5), some (.int v6), some (.int v7), some (.int v8)], [.int v8, .int v7, .int v2, .int v1, .ref 166], σ)) (ps := []) rfl trivial) ?_
      obtain ⟨x16, q18, h⟩ := bdS h
      refine Go.t (Go_callV bk_Md_steaming 46 rfl nk_Md_slackSteamed tw1727 tw1729 tw106 (ci := 11) rfl (as := [.int v1, .int v2, .int v7, .int v8]) (S := []) rfl rfl rfl rfl (Nat.le_of_ble_eq_true rfl) (Nat.le_of_ble_eq_true rfl) (ev_Md_slackSteamed _ _ _ _ _ q18)) ?_
      refine Go.t (Go_sg bk_Md_steaming 47 1 (c2 := (some 93, [some (.ref 166), some (.int v1), some (.int v2), some (.int v3), some (.int v4), some (.int v5), some (.int v6), some (.int v7), some (.int v8)], [.int v3, .int x16], σ)) (ps := []) rfl trivial) ?_
      refine Go_icmp_le bk_Md_steaming 48 rfl (fun c22 => ?_) (fun c22 => ?_)
      · have h := ifT c22 h
        refine Go.t (Go_sg bk_Md_steaming 50 2 (c2 := (some 103, [some (.ref 166), some (.int v1), some (.int v2), some (.int v3), some (.int v4), some (.int v5), some (.int v6), some (.int v7), some (.int v8)], [.int v8, .int v7], σ)) (ps := []) rfl trivial) ?_
        obtain ⟨x19, q21, h⟩ := bdS h
        refine Go.t (Go_callS bk_Md_steaming 52 rfl nk_Md_size tw1503 tw1504 (as := [.int v8]) (S := [.int v7]) rfl rfl rfl (Nat.le_of_ble_eq_true rfl) (Nat.le_of_ble_eq_true rfl) (ev_Md_size _ _ q21)) ?_
        refine Go.t (Go_sg bk_Md_steaming 53 10 (c2 := (some 122, [some (.ref 166), some (.int v1), some (.int v2), some (.int v3), some (.int v4), some (.int ((((20 : Int32) * v7) + v8) + (10 : Int32))), some (.int (v7 + x19)), some (.int v7), some (.int v8)], [], σ)) (ps := []) rfl trivial) ?_
        exact Go.t (Go.fg (LSub.cs (LSub.cs (LSub.cs (LSub.cs (LSub.cs (LSub.cs (LSub.cs (LSub.cs (LSub.cs (LSub.nil))))))))))) (t_Md_steaming_b122 v1 v2 v3 v4 ((((20 : Int32) * v7) + v8) + (10 : Int32)) (v7 + x19) v7 v8 σ h)
      · have h := ifF c22 h
        refine Go.t (Go_sg bk_Md_steaming 49 1 (c2 := (some 122, [some (.ref 166), some (.int v1), some (.int v2), some (.int v3), some (.int v4), some (.int v5), some (.int v6), some (.int v7), some (.int v8)], [], σ)) (ps := []) rfl trivial) ?_
        exact Go.t (Go.fg (LSub.cs (LSub.cs (LSub.cs (LSub.cs (LSub.cs (LSub.cs (LSub.cs (LSub.cs (LSub.cs (LSub.nil))))))))))) (t_Md_steaming_b122 v1 v2 v3 v4 v5 v6 v7 v8 σ h)
def Md_steaming_L62 (v1 : Int32) (v2 : Int32) (v3 : Int32) (v4 : Int32) (v7 : Int32) (σ : MH) (s : Int32 × Int32 × Int32) : Option ((Int32 × Int32)) := itr (fun s : Int32 × Int32 × Int32 => Md_steaming_l62 v1 v2 v3 v4 v7 s.1 s.2.1 s.2.2 σ) FU s
set_option maxRecDepth 20000 in
set_option maxHeartbeats 2000000 in
theorem t_Md_steaming_L62 (v1 : Int32) (v2 : Int32) (v3 : Int32) (v4 : Int32) (v7 : Int32)  (σ : MH) (s : Int32 × Int32 × Int32) {r} (h : Md_steaming_L62 v1 v2 v3 v4 v7 σ s = some r) : Go m_Md_steaming 3 (cH_Md_steaming_62 v1 v2 v3 v4 v7 σ s) (cR_Md_steaming_62 v1 v2 v3 v4 v7 σ r) := Go_itr (fun s o ho => t_Md_steaming_l62 v1 v2 v3 v4 v7 s.1 s.2.1 s.2.2 σ ho) FU s r h
def Md_steaming_l51 (v1 : Int32) (v2 : Int32) (v3 : Int32) (v4 : Int32) (v5 : Int32) (v6 : Int32) (v7 : Int32) (σ : MH) : Option (((Int32 × Int32 × Int32) ⊕ ((Int32 × Int32)))) := if (8 : Int32) ≤ v7 then some (.inr (v5, v6)) else ((Md_steaming_L62 v1 v2 v3 v4 v7 σ (v5, v6, (-9 : Int32))).bind fun z25 => some (.inl (z25.1, z25.2, v7 + (1 : Int32))))
set_option maxRecDepth 20000 in
set_option maxHeartbeats 2000000 in
theorem t_Md_steaming_l51 (v1 : Int32) (v2 : Int32) (v3 : Int32) (v4 : Int32) (v5 : Int32) (v6 : Int32) (v7 : Int32)  (σ : MH) {o} (h : Md_steaming_l51 v1 v2 v3 v4 v5 v6 v7 σ = some o) : Go m_Md_steaming 3 (cH_Md_steaming_51 v1 v2 v3 v4 σ (v5, v6, v7)) (cS (cH_Md_steaming_51 v1 v2 v3 v4 σ) (cR_Md_steaming_51 v1 v2 v3 v4 σ) o) := by
  unfold Md_steaming_l51 at h
  unfold cH_Md_steaming_51
  refine Go.t (Go_sg bk_Md_steaming 27 2 (c2 := (some 55, [some (.ref 166), some (.int v1), some (.int v2), some (.int v3), some (.int v4), some (.int v5), some (.int v6), some (.int v7), none], [.int (8 : Int32), .int v7], σ)) (ps := []) rfl trivial) ?_
  refine Go_icmp_ge bk_Md_steaming 29 rfl (fun c27 => ?_) (fun c27 => ?_)
  · have h := ifT c27 h
    have h := Option.some.inj h
    subst h
    exact Go.fg (LSub.cn (LSub.cn (LSub.cn (LSub.cn (LSub.cs (LSub.cs (LSub.cs (LSub.cn (LSub.cn (LSub.nil))))))))))
  · have h := ifF c27 h
    refine Go.t (Go_sg bk_Md_steaming 30 2 (c2 := (some 62, [some (.ref 166), some (.int v1), some (.int v2), some (.int v3), some (.int v4), some (.int v5), some (.int v6), some (.int v7), some (.int (-9 : Int32))], [], σ)) (ps := []) rfl trivial) ?_
    obtain ⟨z25, q26, h⟩ := bdS h
    refine Go.t (Go.t (Go.fg (LSub.cs (LSub.cs (LSub.cs (LSub.cs (LSub.cs (LSub.cs (LSub.cs (LSub.cs (LSub.cs (LSub.nil))))))))))) (t_Md_steaming_L62 v1 v2 v3 v4 v7 σ _ q26)) ?_
    refine Go.t (Go_sg bk_Md_steaming 65 2 (c2 := (some 51, [some (.ref 166), some (.int v1), some (.int v2), some (.int v3), some (.int v4), some (.int z25.1), some (.int z25.2), some (.int (v7 + (1 : Int32))), none], [], σ)) (ps := []) rfl trivial) ?_
    have h := Option.some.inj h
    subst h
    exact Go.fg (LSub.cs (LSub.cs (LSub.cs (LSub.cs (LSub.cs (LSub.cs (LSub.cs (LSub.cs (LSub.cn (LSub.nil))))))))))
def Md_steaming_L51 (v1 : Int32) (v2 : Int32) (v3 : Int32) (v4 : Int32) (σ : MH) (s : Int32 × Int32 × Int32) : Option ((Int32 × Int32)) := itr (fun s : Int32 × Int32 × Int32 => Md_steaming_l51 v1 v2 v3 v4 s.1 s.2.1 s.2.2 σ) FU s
set_option maxRecDepth 20000 in
set_option maxHeartbeats 2000000 in
theorem t_Md_steaming_L51 (v1 : Int32) (v2 : Int32) (v3 : Int32) (v4 : Int32)  (σ : MH) (s : Int32 × Int32 × Int32) {r} (h : Md_steaming_L51 v1 v2 v3 v4 σ s = some r) : Go m_Md_steaming 3 (cH_Md_steaming_51 v1 v2 v3 v4 σ s) (cR_Md_steaming_51 v1 v2 v3 v4 σ r) := Go_itr (fun s o ho => t_Md_steaming_l51 v1 v2 v3 v4 s.1 s.2.1 s.2.2 σ ho) FU s r h
def Md_steaming0 (v1 : Int32) (v2 : Int32) (v3 : Int32) (v4 : Int32) (σ : MH) : Option (Int32) := (Md_isTwelve v1 σ).bind fun x1 => if x1 = (0 : Int32) then some ((-1 : Int32)) else ((Md_isTwelve v2 σ).bind fun x4 => if x4 = (0 : Int32) then some ((-1 : Int32)) else (if v1 = v2 then some ((-1 : Int32)) else ((Md_in v3 (0 : Int32) (99 : Int32) σ).bind fun x7 => if x7 = (0 : Int32) then some ((-1 : Int32)) else ((Md_in v4 (0 : Int32) (2 : Int32) σ).bind fun x10 => if x10 = (0 : Int32) then some ((-1 : Int32)) else ((Md_steaming_L51 v1 v2 v3 v4 σ ((-1 : Int32), (1000000000 : Int32), (0 : Int32))).bind fun z28 => if z28.1 = (-1 : Int32) then some ((-2 : Int32)) else (if v4 = (0 : Int32) then some (z28.2) else (if v4 = (1 : Int32) then some (z28.1 / (20 : Int32)) else some (jrem z28.1 (20 : Int32)))))))))
set_option maxRecDepth 20000 in
set_option maxHeartbeats 2000000 in
theorem t_Md_steaming0 (v1 : Int32) (v2 : Int32) (v3 : Int32) (v4 : Int32)  (σ : MH) {o} (h : Md_steaming0 v1 v2 v3 v4 σ = some o) : Go m_Md_steaming 3 (some 0, [some (.ref 166), some (.int v1), some (.int v2), some (.int v3), some (.int v4), none, none, none, none], [], σ) ((none, [], [.int o], σ)) := by
  unfold Md_steaming0 at h
  refine Go.t (Go_sg bk_Md_steaming 0 1 (c2 := (some 1, [some (.ref 166), some (.int v1), some (.int v2), some (.int v3), some (.int v4), none, none, none, none], [.int v1], σ)) (ps := []) rfl trivial) ?_
  obtain ⟨x1, q3, h⟩ := bdS h
  refine Go.t (Go_callS bk_Md_steaming 1 rfl nk_Md_isTwelve tw1360 tw1361 (as := [.int v1]) (S := []) rfl rfl rfl (Nat.le_of_ble_eq_true rfl) (Nat.le_of_ble_eq_true rfl) (ev_Md_isTwelve _ _ q3)) ?_
  refine Go_if_eq bk_Md_steaming 2 rfl (fun c37 => ?_) (fun c37 => ?_)
  · have h := ifT c37 h
    have h := Option.some.inj h
    subst h
    refine Go.t (Go_sg bk_Md_steaming 19 1 (c2 := (some 40, [some (.ref 166), some (.int v1), some (.int v2), some (.int v3), some (.int v4), none, none, none, none], [.int (-1 : Int32)], σ)) (ps := []) rfl trivial) ?_
    exact Go_reti bk_Md_steaming 20 rfl
  · have h := ifF c37 h
    refine Go.t (Go_sg bk_Md_steaming 3 1 (c2 := (some 8, [some (.ref 166), some (.int v1), some (.int v2), some (.int v3), some (.int v4), none, none, none, none], [.int v2], σ)) (ps := []) rfl trivial) ?_
    obtain ⟨x4, q6, h⟩ := bdS h
    refine Go.t (Go_callS bk_Md_steaming 4 rfl nk_Md_isTwelve tw1360 tw1361 (as := [.int v2]) (S := []) rfl rfl rfl (Nat.le_of_ble_eq_true rfl) (Nat.le_of_ble_eq_true rfl) (ev_Md_isTwelve _ _ q6)) ?_
    refine Go_if_eq bk_Md_steaming 5 rfl (fun c36 => ?_) (fun c36 => ?_)
    · have h := ifT c36 h
      have h := Option.some.inj h
      subst h
      refine Go.t (Go_sg bk_Md_steaming 19 1 (c2 := (some 40, [some (.ref 166), some (.int v1), some (.int v2), some (.int v3), some (.int v4), none, none, none, none], [.int (-1 : Int32)], σ)) (ps := []) rfl trivial) ?_
      exact Go_reti bk_Md_steaming 20 rfl
    · have h := ifF c36 h
      refine Go.t (Go_sg bk_Md_steaming 6 2 (c2 := (some 16, [some (.ref 166), some (.int v1), some (.int v2), some (.int v3), some (.int v4), none, none, none, none], [.int v2, .int v1], σ)) (ps := []) rfl trivial) ?_
      refine Go_icmp_eq bk_Md_steaming 8 rfl (fun c35 => ?_) (fun c35 => ?_)
      · have h := ifT c35 h
        have h := Option.some.inj h
        subst h
        refine Go.t (Go_sg bk_Md_steaming 19 1 (c2 := (some 40, [some (.ref 166), some (.int v1), some (.int v2), some (.int v3), some (.int v4), none, none, none, none], [.int (-1 : Int32)], σ)) (ps := []) rfl trivial) ?_
        exact Go_reti bk_Md_steaming 20 rfl
      · have h := ifF c35 h
        refine Go.t (Go_sg bk_Md_steaming 9 3 (c2 := (some 23, [some (.ref 166), some (.int v1), some (.int v2), some (.int v3), some (.int v4), none, none, none, none], [.int (99 : Int32), .int (0 : Int32), .int v3], σ)) (ps := []) rfl trivial) ?_
        obtain ⟨x7, q9, h⟩ := bdS h
        refine Go.t (Go_callS bk_Md_steaming 12 rfl nk_Md_in tw1370 tw1371 (as := [.int v3, .int (0 : Int32), .int (99 : Int32)]) (S := []) rfl rfl rfl (Nat.le_of_ble_eq_true rfl) (Nat.le_of_ble_eq_true rfl) (ev_Md_in _ _ _ _ q9)) ?_
        refine Go_if_eq bk_Md_steaming 13 rfl (fun c34 => ?_) (fun c34 => ?_)
        · have h := ifT c34 h
          have h := Option.some.inj h
          subst h
          refine Go.t (Go_sg bk_Md_steaming 19 1 (c2 := (some 40, [some (.ref 166), some (.int v1), some (.int v2), some (.int v3), some (.int v4), none, none, none, none], [.int (-1 : Int32)], σ)) (ps := []) rfl trivial) ?_
          exact Go_reti bk_Md_steaming 20 rfl
        · have h := ifF c34 h
          refine Go.t (Go_sg bk_Md_steaming 14 3 (c2 := (some 33, [some (.ref 166), some (.int v1), some (.int v2), some (.int v3), some (.int v4), none, none, none, none], [.int (2 : Int32), .int (0 : Int32), .int v4], σ)) (ps := []) rfl trivial) ?_
          obtain ⟨x10, q12, h⟩ := bdS h
          refine Go.t (Go_callS bk_Md_steaming 17 rfl nk_Md_in tw1370 tw1371 (as := [.int v4, .int (0 : Int32), .int (2 : Int32)]) (S := []) rfl rfl rfl (Nat.le_of_ble_eq_true rfl) (Nat.le_of_ble_eq_true rfl) (ev_Md_in _ _ _ _ q12)) ?_
          refine Go_if_ne bk_Md_steaming 18 rfl (fun c33 => ?_) (fun c33 => ?_)
          · have h := ifF c33 h
            refine Go.t (Go_sg bk_Md_steaming 21 6 (c2 := (some 51, [some (.ref 166), some (.int v1), some (.int v2), some (.int v3), some (.int v4), some (.int (-1 : Int32)), some (.int (1000000000 : Int32)), some (.int (0 : Int32)), none], [], σ)) (ps := []) rfl trivial) ?_
            obtain ⟨z28, q29, h⟩ := bdS h
            refine Go.t (Go.t (Go.fg (LSub.cs (LSub.cs (LSub.cs (LSub.cs (LSub.cs (LSub.cs (LSub.cs (LSub.cs (LSub.cn (LSub.nil))))))))))) (t_Md_steaming_L51 v1 v2 v3 v4 σ _ q29)) ?_
            refine Go.t (Go_sg bk_Md_steaming 67 2 (c2 := (some 137, [none, none, none, none, some (.int v4), some (.int z28.1), some (.int z28.2), none, none], [.int (-1 : Int32), .int z28.1], σ)) (ps := []) rfl trivial) ?_
            refine Go_icmp_ne bk_Md_steaming 69 rfl (fun c32 => ?_) (fun c32 => ?_)
            · have h := ifF c32 h
              refine Go.t (Go_sg bk_Md_steaming 72 1 (c2 := (some 147, [none, none, none, none, some (.int v4), some (.int z28.1), some (.int z28.2), none, none], [.int v4], σ)) (ps := []) rfl trivial) ?_
              refine Go_if_ne bk_Md_steaming 73 rfl (fun c31 => ?_) (fun c31 => ?_)
              · have h := ifF c31 h
                refine Go.t (Go_sg bk_Md_steaming 76 2 (c2 := (some 158, [none, none, none, none, some (.int v4), some (.int z28.1), some (.int z28.2), none, none], [.int (1 : Int32), .int v4], σ)) (ps := []) rfl trivial) ?_
                refine Go_icmp_ne bk_Md_steaming 78 rfl (fun c30 => ?_) (fun c30 => ?_)
                · have h := ifF c30 h
                  have h := Option.some.inj h
                  subst h
                  refine Go.t (Go_sg bk_Md_steaming 83 3 (c2 := (some 174, [none, none, none, none, some (.int v4), some (.int z28.1), some (.int z28.2), none, none], [.int (jrem z28.1 (20 : Int32))], σ)) (ps := [(20 : Int32) ≠ 0]) rfl ⟨(by decide), trivial⟩) ?_
                  exact Go_reti bk_Md_steaming 86 rfl
                · have h := ifT c30 h
                  refine Go.t (Go_sg bk_Md_steaming 79 4 (c2 := (some 174, [none, none, none, none, some (.int v4), some (.int z28.1), some (.int z28.2), none, none], [.int (z28.1 / (20 : Int32))], σ)) (ps := [(20 : Int32) ≠ 0]) rfl ⟨(by decide), trivial⟩) ?_
                  have h := Option.some.inj h
                  subst h
                  exact Go_reti bk_Md_steaming 86 rfl
              · have h := ifT c31 h
                refine Go.t (Go_sg bk_Md_steaming 74 2 (c2 := (some 174, [none, none, none, none, some (.int v4), some (.int z28.1), some (.int z28.2), none, none], [.int z28.2], σ)) (ps := []) rfl trivial) ?_
                have h := Option.some.inj h
                subst h
                exact Go_reti bk_Md_steaming 86 rfl
            · have h := ifT c32 h
              refine Go.t (Go_sg bk_Md_steaming 70 2 (c2 := (some 174, [none, none, none, none, some (.int v4), some (.int z28.1), some (.int z28.2), none, none], [.int (-2 : Int32)], σ)) (ps := []) rfl trivial) ?_
              have h := Option.some.inj h
              subst h
              exact Go_reti bk_Md_steaming 86 rfl
          · have h := ifT c33 h
            have h := Option.some.inj h
            subst h
            refine Go.t (Go_sg bk_Md_steaming 19 1 (c2 := (some 40, [some (.ref 166), some (.int v1), some (.int v2), some (.int v3), some (.int v4), none, none, none, none], [.int (-1 : Int32)], σ)) (ps := []) rfl trivial) ?_
            exact Go_reti bk_Md_steaming 20 rfl
def Md_steaming (v1 : Int32) (v2 : Int32) (v3 : Int32) (v4 : Int32) (σ : MH) : Option (Int32) := Md_steaming0 v1 v2 v3 v4 σ
set_option maxRecDepth 20000 in
set_option maxHeartbeats 2000000 in
theorem ev_Md_steaming (v1 : Int32) (v2 : Int32) (v3 : Int32) (v4 : Int32)  (σ : MH) {o} (h : Md_steaming v1 v2 v3 v4 σ = some o) : Ev m_Md_steaming 3 [.ref 166, .int v1, .int v2, .int v3, .int v4] σ (some (.int o)) σ := Ev.of2 (by decide +kernel) rfl (Nat.le_of_ble_eq_true rfl) ⟨.int, rfl, rfl⟩ (t_Md_steaming0 v1 v2 v3 v4 σ h)
def cH_Md_worn_89 (v3 : Int32) (v4 : Int32) (v5 : Int32) (s : Int32 × MH) : MC := (some 89, [some (.ref 166), none, none, some (.int v3), some (.int v4), some (.int v5), some (.int s.1), none], [], s.2)
def cR_Md_worn_89 (v3 : Int32) (v4 : Int32) (v5 : Int32) : ((Int32 × MH)) → MC := (fun r : Int32 × MH => ((some 130, [some (.ref 166), none, none, some (.int v3), some (.int v4), none, some (.int r.1), none], [], r.2) : MC))
def Md_worn_l89 (v3 : Int32) (v4 : Int32) (v5 : Int32) (v6 : Int32) (σ : MH) : Option (((Int32 × MH) ⊕ ((Int32 × MH)))) := if (100 : Int32) ≤ v6 then some (.inr (v6, σ)) else ((Md_fit v3 v4 σ).bind fun (x15, σ16) => if x15 = (0 : Int32) then ((Md_wearsAll v3 v5 σ16).bind fun σ19 => (Md_wearsAll v4 v5 σ19).bind fun σ22 => some (.inl (v6 + (1 : Int32), σ22))) else some (.inr (v6, σ16)))
set_option maxRecDepth 20000 in
set_option maxHeartbeats 2000000 in
theorem t_Md_worn_l89 (v3 : Int32) (v4 : Int32) (v5 : Int32) (v6 : Int32)  (σ : MH) {o} (h : Md_worn_l89 v3 v4 v5 v6 σ = some o) : Go m_Md_worn 6 (cH_Md_worn_89 v3 v4 v5 (v6, σ)) (cS (cH_Md_worn_89 v3 v4 v5) (cR_Md_worn_89 v3 v4 v5) o) := by
  unfold Md_worn_l89 at h
  unfold cH_Md_worn_89
  refine Go.t (Go_sg bk_Md_worn 53 2 (c2 := (some 93, [some (.ref 166), none, none, some (.int v3), some (.int v4), some (.int v5), some (.int v6), none], [.int (100 : Int32), .int v6], σ)) (ps := []) rfl trivial) ?_
  refine Go_icmp_ge bk_Md_worn 55 rfl (fun c25 => ?_) (fun c25 => ?_)
  · have h := ifT c25 h
    have h := Option.some.inj h
    subst h
    exact Go.fg (LSub.cs (LSub.cn (LSub.cn (LSub.cs (LSub.cs (LSub.cn (LSub.cs (LSub.cn (LSub.nil)))))))))
  · have h := ifF c25 h
    refine Go.t (Go_sg bk_Md_worn 56 3 (c2 := (some 100, [some (.ref 166), none, none, some (.int v3), some (.int v4), some (.int v5), some (.int v6), none], [.int v4, .int v3, .ref 166], σ)) (ps := []) rfl trivial) ?_
    obtain ⟨⟨x15, σ16⟩, q17, h⟩ := bdS h
    dsimp only at h
    refine Go.t (Go_callV bk_Md_worn 59 rfl nk_Md_fit tw1534 tw1536 tw74 (ci := 11) rfl (as := [.int v3, .int v4]) (S := []) rfl rfl rfl rfl (Nat.le_of_ble_eq_true rfl) (Nat.le_of_ble_eq_true rfl) (ev_Md_fit _ _ _ q17)) ?_
    refine Go_if_ne bk_Md_worn 60 rfl (fun c24 => ?_) (fun c24 => ?_)
    · have h := ifF c24 h
      have h := Option.some.inj h
      subst h
      exact Go.fg (LSub.cs (LSub.cn (LSub.cn (LSub.cs (LSub.cs (LSub.cn (LSub.cs (LSub.cn (LSub.nil)))))))))
    · have h := ifT c24 h
      refine Go.t (Go_sg bk_Md_worn 61 3 (c2 := (some 110, [some (.ref 166), none, none, some (.int v3), some (.int v4), some (.int v5), some (.int v6), none], [.int v5, .int v3, .ref 166], σ16)) (ps := []) rfl trivial) ?_
      obtain ⟨σ19, q20, h⟩ := bdS h
      refine Go.t (Go_callV bk_Md_worn 64 rfl nk_Md_wearsAll tw1583 tw1585 tw83 (ci := 11) rfl (as := [.int v3, .int v5]) (S := []) rfl rfl rfl rfl (Nat.le_of_ble_eq_true rfl) (Nat.le_of_ble_eq_true rfl) (ev_Md_wearsAll _ _ _ q20)) ?_
      refine Go.t (Go_sg bk_Md_worn 65 3 (c2 := (some 118, [some (.ref 166), none, none, some (.int v3), some (.int v4), some (.int v5), some (.int v6), none], [.int v5, .int v4, .ref 166], σ19)) (ps := []) rfl trivial) ?_
      obtain ⟨σ22, q23, h⟩ := bdS h
      refine Go.t (Go_callV bk_Md_worn 68 rfl nk_Md_wearsAll tw1583 tw1585 tw83 (ci := 11) rfl (as := [.int v4, .int v5]) (S := []) rfl rfl rfl rfl (Nat.le_of_ble_eq_true rfl) (Nat.le_of_ble_eq_true rfl) (ev_Md_wearsAll _ _ _ q23)) ?_
      refine Go.t (Go_sg bk_Md_worn 69 5 (c2 := (some 89, [some (.ref 166), none, none, some (.int v3), some (.int v4), some (.int v5), some (.int (v6 + (1 : Int32))), none], [], σ22)) (ps := []) rfl trivial) ?_
      have h := Option.some.inj h
      subst h
      exact Go.fg (LSub.cs (LSub.cn (LSub.cn (LSub.cs (LSub.cs (LSub.cs (LSub.cs (LSub.cn (LSub.nil)))))))))
def Md_worn_L89 (v3 : Int32) (v4 : Int32) (v5 : Int32) (s : Int32 × MH) : Option ((Int32 × MH)) := itr (fun s : Int32 × MH => Md_worn_l89 v3 v4 v5 s.1 s.2) FU s
set_option maxRecDepth 20000 in
set_option maxHeartbeats 2000000 in
theorem t_Md_worn_L89 (v3 : Int32) (v4 : Int32) (v5 : Int32)  (s : Int32 × MH) {r} (h : Md_worn_L89 v3 v4 v5 s = some r) : Go m_Md_worn 6 (cH_Md_worn_89 v3 v4 v5 s) (cR_Md_worn_89 v3 v4 v5 r) := Go_itr (fun s o ho => t_Md_worn_l89 v3 v4 v5 s.1 s.2 ho) FU s r h
def Md_worn_b130 (v3 : Int32) (v4 : Int32) (v6 : Int32) (σ : MH) : Option (Int32 × MH) := (Md_fit v3 v4 σ).bind fun (x28, σ29) => (Md_copiesRow 168 167 σ29).bind fun σ32 => if x28 = (0 : Int32) then some ((-2 : Int32), σ32) else some (v6, σ32)
set_option maxRecDepth 20000 in
set_option maxHeartbeats 2000000 in
theorem t_Md_worn_b130 (v3 : Int32) (v4 : Int32) (v6 : Int32)   (σ : MH) {o} (h : Md_worn_b130 v3 v4 v6 σ = some o) : Go m_Md_worn 6 (some 130, [some (.ref 166), none, none, some (.int v3), some (.int v4), none, some (.int v6), none], [], σ) ((none, [], [.int o.1], o.2)) := by
  unfold Md_worn_b130 at h
  refine Go.t (Go_sg bk_Md_worn 74 3 (c2 := (some 134, [some (.ref 166), none, none, some (.int v3), some (.int v4), none, some (.int v6), none], [.int v4, .int v3, .ref 166], σ)) (ps := []) rfl trivial) ?_
  obtain ⟨⟨x28, σ29⟩, q30, h⟩ := bdS h
  dsimp only at h
  refine Go.t (Go_callV bk_Md_worn 77 rfl nk_Md_fit tw1534 tw1536 tw74 (ci := 11) rfl (as := [.int v3, .int v4]) (S := []) rfl rfl rfl rfl (Nat.le_of_ble_eq_true rfl) (Nat.le_of_ble_eq_true rfl) (ev_Md_fit _ _ _ q30)) ?_
  refine Go.t (Go_sg bk_Md_worn 78 5 (c2 := (some 147, [some (.ref 166), none, none, some (.int v3), some (.int v4), none, some (.int v6), some (.int x28)], [.ref 167, .ref 168], σ29)) (ps := [shk 166 = 11, shk 166 = 11]) rfl ⟨rfl, rfl, trivial⟩) ?_
  obtain ⟨σ32, q33, h⟩ := bdS h
  refine Go.t (Go_callS bk_Md_worn 83 rfl nk_Md_copiesRow tw1600 tw1601 (as := [.ref 168, .ref 167]) (S := []) rfl rfl rfl (Nat.le_of_ble_eq_true rfl) (Nat.le_of_ble_eq_true rfl) (ev_Md_copiesRow _ _ ⟨rfl, rfl⟩ ⟨rfl, rfl⟩ _ q33)) ?_
  refine Go.t (Go_sg bk_Md_worn 84 1 (c2 := (some 152, [some (.ref 166), none, none, some (.int v3), some (.int v4), none, some (.int v6), some (.int x28)], [.int x28], σ32)) (ps := []) rfl trivial) ?_
  refine Go_if_eq bk_Md_worn 85 rfl (fun c34 => ?_) (fun c34 => ?_)
  · have h := ifT c34 h
    have h := Option.some.inj h
    subst h
    refine Go.t (Go_sg bk_Md_worn 88 1 (c2 := (some 162, [some (.ref 166), none, none, some (.int v3), some (.int v4), none, some (.int v6), some (.int x28)], [.int (-2 : Int32)], σ32)) (ps := []) rfl trivial) ?_
    exact Go_reti bk_Md_worn 89 rfl
  · have h := ifF c34 h
    refine Go.t (Go_sg bk_Md_worn 86 2 (c2 := (some 162, [some (.ref 166), none, none, some (.int v3), some (.int v4), none, some (.int v6), some (.int x28)], [.int v6], σ32)) (ps := []) rfl trivial) ?_
    have h := Option.some.inj h
    subst h
    exact Go_reti bk_Md_worn 89 rfl
def Md_worn_b64 (v3 : Int32) (s0 : Int32) (σ : MH) : Option (Int32 × MH) := (Md_wearsBy v3 s0 σ).bind fun (x9, σ10) => (Md_copiesRow 167 168 σ10).bind fun σ13 => (Md_worn_L89 v3 s0 x9 ((0 : Int32), σ13)).bind fun z26 => Md_worn_b130 v3 s0 z26.1 z26.2
set_option maxRecDepth 20000 in
set_option maxHeartbeats 2000000 in
theorem t_Md_worn_b64 (v3 : Int32) (s0 : Int32)   (σ : MH) {o} (h : Md_worn_b64 v3 s0 σ = some o) : Go m_Md_worn 6 (some 64, [some (.ref 166), none, none, some (.int v3), none, none, none, none], [.int s0], σ) ((none, [], [.int o.1], o.2)) := by
  unfold Md_worn_b64 at h
  refine Go.t (Go_sg bk_Md_worn 40 4 (c2 := (some 70, [some (.ref 166), none, none, some (.int v3), some (.int s0), none, none, none], [.int s0, .int v3, .ref 166], σ)) (ps := []) rfl trivial) ?_
  obtain ⟨⟨x9, σ10⟩, q11, h⟩ := bdS h
  dsimp only at h
  refine Go.t (Go_callV bk_Md_worn 44 rfl nk_Md_wearsBy tw1579 tw1581 tw82 (ci := 11) rfl (as := [.int v3, .int s0]) (S := []) rfl rfl rfl rfl (Nat.le_of_ble_eq_true rfl) (Nat.le_of_ble_eq_true rfl) (ev_Md_wearsBy _ _ _ q11)) ?_
  refine Go.t (Go_sg bk_Md_worn 45 5 (c2 := (some 83, [some (.ref 166), none, none, some (.int v3), some (.int s0), some (.int x9), none, none], [.ref 168, .ref 167], σ10)) (ps := [shk 166 = 11, shk 166 = 11]) rfl ⟨rfl, rfl, trivial⟩) ?_
  obtain ⟨σ13, q14, h⟩ := bdS h
  refine Go.t (Go_callS bk_Md_worn 50 rfl nk_Md_copiesRow tw1600 tw1601 (as := [.ref 167, .ref 168]) (S := []) rfl rfl rfl (Nat.le_of_ble_eq_true rfl) (Nat.le_of_ble_eq_true rfl) (ev_Md_copiesRow _ _ ⟨rfl, rfl⟩ ⟨rfl, rfl⟩ _ q14)) ?_
  refine Go.t (Go_sg bk_Md_worn 51 2 (c2 := (some 89, [some (.ref 166), none, none, some (.int v3), some (.int s0), some (.int x9), some (.int (0 : Int32)), none], [], σ13)) (ps := []) rfl trivial) ?_
  obtain ⟨z26, q27, h⟩ := bdS h
  refine Go.t (Go.t (Go.fg (LSub.cs (LSub.cn (LSub.cn (LSub.cs (LSub.cs (LSub.cs (LSub.cs (LSub.cn (LSub.nil)))))))))) (t_Md_worn_L89 v3 s0 x9 _ q27)) ?_
  exact Go.t (Go.fg (LSub.cs (LSub.cn (LSub.cn (LSub.cs (LSub.cs (LSub.cn (LSub.cs (LSub.cn (LSub.nil)))))))))) (t_Md_worn_b130 v3 s0 z26.1 z26.2 h)
def Md_worn_b53 (v1 : Int32) (v2 : Int32) (s0 : Int32) (σ : MH) : Option (Int32 × MH) := if s0 = v1 then (Md_worn_b64 s0 v2 σ) else (Md_worn_b64 s0 v1 σ)
set_option maxRecDepth 20000 in
set_option maxHeartbeats 2000000 in
theorem t_Md_worn_b53 (v1 : Int32) (v2 : Int32) (s0 : Int32)   (σ : MH) {o} (h : Md_worn_b53 v1 v2 s0 σ = some o) : Go m_Md_worn 6 (some 53, [some (.ref 166), some (.int v1), some (.int v2), none, none, none, none, none], [.int s0], σ) ((none, [], [.int o.1], o.2)) := by
  unfold Md_worn_b53 at h
  refine Go.t (Go_sg bk_Md_worn 33 3 (c2 := (some 56, [some (.ref 166), some (.int v1), some (.int v2), some (.int s0), none, none, none, none], [.int v1, .int s0], σ)) (ps := []) rfl trivial) ?_
  refine Go_icmp_ne bk_Md_worn 36 rfl (fun c35 => ?_) (fun c35 => ?_)
  · have h := ifF c35 h
    refine Go.t (Go_sg bk_Md_worn 39 1 (c2 := (some 64, [some (.ref 166), some (.int v1), some (.int v2), some (.int s0), none, none, none, none], [.int v1], σ)) (ps := []) rfl trivial) ?_
    exact Go.t (Go.fg (LSub.cs (LSub.cn (LSub.cn (LSub.cs (LSub.cn (LSub.cn (LSub.cn (LSub.cn (LSub.nil)))))))))) (t_Md_worn_b64 s0 v1 σ h)
  · have h := ifT c35 h
    refine Go.t (Go_sg bk_Md_worn 37 2 (c2 := (some 64, [some (.ref 166), some (.int v1), some (.int v2), some (.int s0), none, none, none, none], [.int v2], σ)) (ps := []) rfl trivial) ?_
    exact Go.t (Go.fg (LSub.cs (LSub.cn (LSub.cn (LSub.cs (LSub.cn (LSub.cn (LSub.cn (LSub.cn (LSub.nil)))))))))) (t_Md_worn_b64 s0 v2 σ h)
def Md_worn0 (v1 : Int32) (v2 : Int32) (σ : MH) : Option (Int32 × MH) := (Md_lives v1 σ).bind fun x1 => if x1 = (0 : Int32) then some ((-1 : Int32), σ) else ((Md_lives v2 σ).bind fun x4 => if x4 = (0 : Int32) then some ((-1 : Int32), σ) else (if inb ((0 : Int32) + v1) 1936 = true then if inb ((0 : Int32) + v2) 1936 = true then if σ.1 167 ((0 : Int32) + v1).toNatClampNeg = σ.1 167 ((0 : Int32) + v2).toNatClampNeg then some ((-1 : Int32), σ) else (if σ.1 167 ((0 : Int32) + v1).toNatClampNeg = (0 : Int32) then (Md_worn_b53 v1 v2 v1 σ) else (Md_worn_b53 v1 v2 v2 σ)) else none else none))
set_option maxRecDepth 20000 in
set_option maxHeartbeats 2000000 in
theorem t_Md_worn0 (v1 : Int32) (v2 : Int32)  (σ : MH) {o} (h : Md_worn0 v1 v2 σ = some o) : Go m_Md_worn 6 (some 0, [some (.ref 166), some (.int v1), some (.int v2), none, none, none, none, none], [], σ) ((none, [], [.int o.1], o.2)) := by
  unfold Md_worn0 at h
  refine Go.t (Go_sg bk_Md_worn 0 2 (c2 := (some 2, [some (.ref 166), some (.int v1), some (.int v2), none, none, none, none, none], [.int v1, .ref 166], σ)) (ps := []) rfl trivial) ?_
  obtain ⟨x1, q3, h⟩ := bdS h
  refine Go.t (Go_callV bk_Md_worn 2 rfl nk_Md_lives tw1381 tw1383 tw45 (ci := 11) rfl (as := [.int v1]) (S := []) rfl rfl rfl rfl (Nat.le_of_ble_eq_true rfl) (Nat.le_of_ble_eq_true rfl) (ev_Md_lives _ _ q3)) ?_
  refine Go_if_eq bk_Md_worn 3 rfl (fun c39 => ?_) (fun c39 => ?_)
  · have h := ifT c39 h
    have h := Option.some.inj h
    subst h
    refine Go.t (Go_sg bk_Md_worn 21 1 (c2 := (some 36, [some (.ref 166), some (.int v1), some (.int v2), none, none, none, none, none], [.int (-1 : Int32)], σ)) (ps := []) rfl trivial) ?_
    exact Go_reti bk_Md_worn 22 rfl
  · have h := ifF c39 h
    refine Go.t (Go_sg bk_Md_worn 4 2 (c2 := (some 10, [some (.ref 166), some (.int v1), some (.int v2), none, none, none, none, none], [.int v2, .ref 166], σ)) (ps := []) rfl trivial) ?_
    obtain ⟨x4, q6, h⟩ := bdS h
    refine Go.t (Go_callV bk_Md_worn 6 rfl nk_Md_lives tw1381 tw1383 tw45 (ci := 11) rfl (as := [.int v2]) (S := []) rfl rfl rfl rfl (Nat.le_of_ble_eq_true rfl) (Nat.le_of_ble_eq_true rfl) (ev_Md_lives _ _ q6)) ?_
    refine Go_if_eq bk_Md_worn 7 rfl (fun c38 => ?_) (fun c38 => ?_)
    · have h := ifT c38 h
      have h := Option.some.inj h
      subst h
      refine Go.t (Go_sg bk_Md_worn 21 1 (c2 := (some 36, [some (.ref 166), some (.int v1), some (.int v2), none, none, none, none, none], [.int (-1 : Int32)], σ)) (ps := []) rfl trivial) ?_
      exact Go_reti bk_Md_worn 22 rfl
    · have h := ifF c38 h
      obtain ⟨g7, h⟩ := gdS h
      obtain ⟨g8, h⟩ := gdS h
      refine Go.t (Go_sg bk_Md_worn 8 12 (c2 := (some 32, [some (.ref 166), some (.int v1), some (.int v2), none, none, none, none, none], [.int (σ.1 167 ((0 : Int32) + v2).toNatClampNeg), .int (σ.1 167 ((0 : Int32) + v1).toNatClampNeg)], σ)) (ps := [shk 166 = 11, IA 167 1936 ∧ inb ((0 : Int32) + v1) 1936 = true, shk 166 = 11, IA 167 1936 ∧ inb ((0 : Int32) + v2) 1936 = true]) rfl ⟨rfl, ⟨⟨rfl, rfl⟩, g7⟩, rfl, ⟨⟨rfl, rfl⟩, g8⟩, trivial⟩) ?_
      refine Go_icmp_ne bk_Md_worn 20 rfl (fun c37 => ?_) (fun c37 => ?_)
      · have h := ifF c37 h
        refine Go.t (Go_sg bk_Md_worn 23 6 (c2 := (some 45, [some (.ref 166), some (.int v1), some (.int v2), none, none, none, none, none], [.int (σ.1 167 ((0 : Int32) + v1).toNatClampNeg)], σ)) (ps := [shk 166 = 11, IA 167 1936 ∧ inb ((0 : Int32) + v1) 1936 = true]) rfl ⟨rfl, ⟨⟨rfl, rfl⟩, g7⟩, trivial⟩) ?_
        refine Go_if_ne bk_Md_worn 29 rfl (fun c36 => ?_) (fun c36 => ?_)
        · have h := ifF c36 h
          refine Go.t (Go_sg bk_Md_worn 32 1 (c2 := (some 53, [some (.ref 166), some (.int v1), some (.int v2), none, none, none, none, none], [.int v2], σ)) (ps := []) rfl trivial) ?_
          exact Go.t (Go.fg (LSub.cs (LSub.cs (LSub.cs (LSub.cn (LSub.cn (LSub.cn (LSub.cn (LSub.cn (LSub.nil)))))))))) (t_Md_worn_b53 v1 v2 v2 σ h)
        · have h := ifT c36 h
          refine Go.t (Go_sg bk_Md_worn 30 2 (c2 := (some 53, [some (.ref 166), some (.int v1), some (.int v2), none, none, none, none, none], [.int v1], σ)) (ps := []) rfl trivial) ?_
          exact Go.t (Go.fg (LSub.cs (LSub.cs (LSub.cs (LSub.cn (LSub.cn (LSub.cn (LSub.cn (LSub.cn (LSub.nil)))))))))) (t_Md_worn_b53 v1 v2 v1 σ h)
      · have h := ifT c37 h
        have h := Option.some.inj h
        subst h
        refine Go.t (Go_sg bk_Md_worn 21 1 (c2 := (some 36, [some (.ref 166), some (.int v1), some (.int v2), none, none, none, none, none], [.int (-1 : Int32)], σ)) (ps := []) rfl trivial) ?_
        exact Go_reti bk_Md_worn 22 rfl
def Md_worn (v1 : Int32) (v2 : Int32) (σ : MH) : Option (Int32 × MH) := Md_worn0 v1 v2 σ
set_option maxRecDepth 20000 in
set_option maxHeartbeats 2000000 in
theorem ev_Md_worn (v1 : Int32) (v2 : Int32)  (σ : MH) {o} (h : Md_worn v1 v2 σ = some o) : Ev m_Md_worn 6 [.ref 166, .int v1, .int v2] σ (some (.int o.1)) o.2 := Ev.of2 (by decide +kernel) rfl (Nat.le_of_ble_eq_true rfl) ⟨.int, rfl, rfl⟩ (t_Md_worn0 v1 v2 σ h)
def cH_Md_makes_33 (v2 : Int32) (v3 : Int32) (v4 : Int32) (v5 : Int32) (v6 : Int32) (σ : MH) (s : Int32) : MC := (some 33, [some (.ref 166), none, some (.int v2), some (.int v3), some (.int v4), some (.int v5), some (.int v6), some (.int s)], [], σ)
def cR_Md_makes_33 (v2 : Int32) (v3 : Int32) (v4 : Int32) (v5 : Int32) (v6 : Int32) (σ : MH) : ((Int32)) → MC := (fun r : Int32 => ((none, [], [.int r], σ) : MC))
def Md_makes_b76 (v2 : Int32) (v3 : Int32) (v4 : Int32) (v5 : Int32) (v6 : Int32) (v7 : Int32) (s0 : Int32) (s1 : Int32) (σ : MH) : Option (((Int32) ⊕ ((Int32)))) := if s1 = s0 + v6 then some (.inl (v7 + (1 : Int32))) else some (.inr ((0 : Int32)))
set_option maxRecDepth 20000 in
set_option maxHeartbeats 2000000 in
theorem t_Md_makes_b76 (v2 : Int32) (v3 : Int32) (v4 : Int32) (v5 : Int32) (v6 : Int32) (v7 : Int32) (s0 : Int32) (s1 : Int32)   (σ : MH) {o} (h : Md_makes_b76 v2 v3 v4 v5 v6 v7 s0 s1 σ = some o) : Go m_Md_makes 2 (some 76, [some (.ref 166), none, some (.int v2), some (.int v3), some (.int v4), some (.int v5), some (.int v6), some (.int v7)], [.int s0, .int s1], σ) (cS (cH_Md_makes_33 v2 v3 v4 v5 v6 σ) (cR_Md_makes_33 v2 v3 v4 v5 v6 σ) o) := by
  unfold Md_makes_b76 at h
  refine Go.t (Go_sg bk_Md_makes 44 2 (c2 := (some 79, [some (.ref 166), none, some (.int v2), some (.int v3), some (.int v4), some (.int v5), some (.int v6), some (.int v7)], [.int (s0 + v6), .int s1], σ)) (ps := []) rfl trivial) ?_
  refine Go_icmp_eq bk_Md_makes 46 rfl (fun c7 => ?_) (fun c7 => ?_)
  · have h := ifT c7 h
    refine Go.t (Go_sg bk_Md_makes 49 2 (c2 := (some 33, [some (.ref 166), none, some (.int v2), some (.int v3), some (.int v4), some (.int v5), some (.int v6), some (.int (v7 + (1 : Int32)))], [], σ)) (ps := []) rfl trivial) ?_
    have h := Option.some.inj h
    subst h
    exact Go.fg (LSub.cs (LSub.cn (LSub.cs (LSub.cs (LSub.cs (LSub.cs (LSub.cs (LSub.cs (LSub.nil)))))))))
  · have h := ifF c7 h
    have h := Option.some.inj h
    subst h
    refine Go.t (Go_sg bk_Md_makes 47 1 (c2 := (some 83, [some (.ref 166), none, some (.int v2), some (.int v3), some (.int v4), some (.int v5), some (.int v6), some (.int v7)], [.int (0 : Int32)], σ)) (ps := []) rfl trivial) ?_
    exact Go_reti bk_Md_makes 48 rfl
def Md_makes_l33 (v2 : Int32) (v3 : Int32) (v4 : Int32) (v5 : Int32) (v6 : Int32) (v7 : Int32) (σ : MH) : Option (((Int32) ⊕ ((Int32)))) := if (8 : Int32) ≤ v7 then some (.inr ((1 : Int32))) else ((Md_heightOf v3 (jrem (v7 + v4) (8 : Int32)) σ).bind fun x1 => if v5 = (0 : Int32) then ((Md_heightOf v2 v7 σ).bind fun x4 => Md_makes_b76 v2 v3 v4 v5 v6 v7 x4 x1 σ) else ((Md_heightOf v2 v7 σ).bind fun x8 => Md_makes_b76 v2 v3 v4 v5 v6 v7 (-x8) x1 σ))
set_option maxRecDepth 20000 in
set_option maxHeartbeats 2000000 in
theorem t_Md_makes_l33 (v2 : Int32) (v3 : Int32) (v4 : Int32) (v5 : Int32) (v6 : Int32) (v7 : Int32)  (σ : MH) {o} (h : Md_makes_l33 v2 v3 v4 v5 v6 v7 σ = some o) : Go m_Md_makes 2 (cH_Md_makes_33 v2 v3 v4 v5 v6 σ (v7)) (cS (cH_Md_makes_33 v2 v3 v4 v5 v6 σ) (cR_Md_makes_33 v2 v3 v4 v5 v6 σ) o) := by
  unfold Md_makes_l33 at h
  unfold cH_Md_makes_33
  refine Go.t (Go_sg bk_Md_makes 21 2 (c2 := (some 37, [some (.ref 166), none, some (.int v2), some (.int v3), some (.int v4), some (.int v5), some (.int v6), some (.int v7)], [.int (8 : Int32), .int v7], σ)) (ps := []) rfl trivial) ?_
  refine Go_icmp_ge bk_Md_makes 23 rfl (fun c12 => ?_) (fun c12 => ?_)
  · have h := ifT c12 h
    have h := Option.some.inj h
    subst h
    refine Go.t (Go_sg bk_Md_makes 51 1 (c2 := (some 91, [some (.ref 166), none, some (.int v2), some (.int v3), some (.int v4), some (.int v5), some (.int v6), some (.int v7)], [.int (1 : Int32)], σ)) (ps := []) rfl trivial) ?_
    exact Go_reti bk_Md_makes 52 rfl
  · have h := ifF c12 h
    refine Go.t (Go_sg bk_Md_makes 24 7 (c2 := (some 50, [some (.ref 166), none, some (.int v2), some (.int v3), some (.int v4), some (.int v5), some (.int v6), some (.int v7)], [.int (jrem (v7 + v4) (8 : Int32)), .int v3, .ref 166], σ)) (ps := [(8 : Int32) ≠ 0]) rfl ⟨(by decide), trivial⟩) ?_
    obtain ⟨x1, q3, h⟩ := bdS h
    refine Go.t (Go_callV bk_Md_makes 31 rfl nk_Md_heightOf tw1547 tw1549 tw77 (ci := 11) rfl (as := [.int v3, .int (jrem (v7 + v4) (8 : Int32))]) (S := []) rfl rfl rfl rfl (Nat.le_of_ble_eq_true rfl) (Nat.le_of_ble_eq_true rfl) (ev_Md_heightOf _ _ _ q3)) ?_
    refine Go.t (Go_sg bk_Md_makes 32 1 (c2 := (some 55, [some (.ref 166), none, some (.int v2), some (.int v3), some (.int v4), some (.int v5), some (.int v6), some (.int v7)], [.int v5, .int x1], σ)) (ps := []) rfl trivial) ?_
    refine Go_if_eq bk_Md_makes 33 rfl (fun c11 => ?_) (fun c11 => ?_)
    · have h := ifT c11 h
      refine Go.t (Go_sg bk_Md_makes 40 3 (c2 := (some 73, [some (.ref 166), none, some (.int v2), some (.int v3), some (.int v4), some (.int v5), some (.int v6), some (.int v7)], [.int v7, .int v2, .ref 166, .int x1], σ)) (ps := []) rfl trivial) ?_
      obtain ⟨x4, q6, h⟩ := bdS h
      refine Go.t (Go_callV bk_Md_makes 43 rfl nk_Md_heightOf tw1547 tw1549 tw77 (ci := 11) rfl (as := [.int v2, .int v7]) (S := [.int x1]) rfl rfl rfl rfl (Nat.le_of_ble_eq_true rfl) (Nat.le_of_ble_eq_true rfl) (ev_Md_heightOf _ _ _ q6)) ?_
      exact Go.t (Go.fg (LSub.cs (LSub.cn (LSub.cs (LSub.cs (LSub.cs (LSub.cs (LSub.cs (LSub.cs (LSub.nil)))))))))) (t_Md_makes_b76 v2 v3 v4 v5 v6 v7 x4 x1 σ h)
    · have h := ifF c11 h
      refine Go.t (Go_sg bk_Md_makes 34 3 (c2 := (some 62, [some (.ref 166), none, some (.int v2), some (.int v3), some (.int v4), some (.int v5), some (.int v6), some (.int v7)], [.int v7, .int v2, .ref 166, .int x1], σ)) (ps := []) rfl trivial) ?_
      obtain ⟨x8, q10, h⟩ := bdS h
      refine Go.t (Go_callV bk_Md_makes 37 rfl nk_Md_heightOf tw1547 tw1549 tw77 (ci := 11) rfl (as := [.int v2, .int v7]) (S := [.int x1]) rfl rfl rfl rfl (Nat.le_of_ble_eq_true rfl) (Nat.le_of_ble_eq_true rfl) (ev_Md_heightOf _ _ _ q10)) ?_
      refine Go.t (Go_sg bk_Md_makes 38 2 (c2 := (some 76, [some (.ref 166), none, some (.int v2), some (.int v3), some (.int v4), some (.int v5), some (.int v6), some (.int v7)], [.int (-x8), .int x1], σ)) (ps := []) rfl trivial) ?_
      exact Go.t (Go.fg (LSub.cs (LSub.cn (LSub.cs (LSub.cs (LSub.cs (LSub.cs (LSub.cs (LSub.cs (LSub.nil)))))))))) (t_Md_makes_b76 v2 v3 v4 v5 v6 v7 (-x8) x1 σ h)
def Md_makes_L33 (v2 : Int32) (v3 : Int32) (v4 : Int32) (v5 : Int32) (v6 : Int32) (σ : MH) (s : Int32) : Option ((Int32)) := itr (fun s : Int32 => Md_makes_l33 v2 v3 v4 v5 v6 s σ) FU s
set_option maxRecDepth 20000 in
set_option maxHeartbeats 2000000 in
theorem t_Md_makes_L33 (v2 : Int32) (v3 : Int32) (v4 : Int32) (v5 : Int32) (v6 : Int32)  (σ : MH) (s : Int32) {r} (h : Md_makes_L33 v2 v3 v4 v5 v6 σ s = some r) : Go m_Md_makes 2 (cH_Md_makes_33 v2 v3 v4 v5 v6 σ s) (cR_Md_makes_33 v2 v3 v4 v5 v6 σ r) := Go_itr (fun s o ho => t_Md_makes_l33 v2 v3 v4 v5 v6 s σ ho) FU s r h
def Md_makes_b20 (v1 : Int32) (v2 : Int32) (v3 : Int32) (v4 : Int32) (s0 : Int32) (σ : MH) : Option (Int32) := (Md_makes_L33 v2 v3 v4 s0 ((jrem v1 (7 : Int32)) - (3 : Int32)) σ ((0 : Int32))).bind fun z13 => some (z13)
set_option maxRecDepth 20000 in
set_option maxHeartbeats 2000000 in
theorem t_Md_makes_b20 (v1 : Int32) (v2 : Int32) (v3 : Int32) (v4 : Int32) (s0 : Int32)   (σ : MH) {o} (h : Md_makes_b20 v1 v2 v3 v4 s0 σ = some o) : Go m_Md_makes 2 (some 20, [some (.ref 166), some (.int v1), some (.int v2), some (.int v3), some (.int v4), none, none, none], [.int s0], σ) ((none, [], [.int o], σ)) := by
  unfold Md_makes_b20 at h
  refine Go.t (Go_sg bk_Md_makes 12 9 (c2 := (some 33, [some (.ref 166), some (.int v1), some (.int v2), some (.int v3), some (.int v4), some (.int s0), some (.int ((jrem v1 (7 : Int32)) - (3 : Int32))), some (.int (0 : Int32))], [], σ)) (ps := [(7 : Int32) ≠ 0]) rfl ⟨(by decide), trivial⟩) ?_
  obtain ⟨z13, q14, h⟩ := bdS h
  refine Go.t (Go.t (Go.fg (LSub.cs (LSub.cn (LSub.cs (LSub.cs (LSub.cs (LSub.cs (LSub.cs (LSub.cs (LSub.nil)))))))))) (t_Md_makes_L33 v2 v3 v4 s0 ((jrem v1 (7 : Int32)) - (3 : Int32)) σ _ q14)) ?_
  have h := Option.some.inj h
  subst h
  exact Go.rf
def Md_makes0 (v1 : Int32) (v2 : Int32) (v3 : Int32) (σ : MH) : Option (Int32) := if jrem v1 (14 : Int32) ≤ (6 : Int32) then (Md_makes_b20 v1 v2 v3 (v1 / (14 : Int32)) (0 : Int32) σ) else (Md_makes_b20 v1 v2 v3 (v1 / (14 : Int32)) (1 : Int32) σ)
set_option maxRecDepth 20000 in
set_option maxHeartbeats 2000000 in
theorem t_Md_makes0 (v1 : Int32) (v2 : Int32) (v3 : Int32)  (σ : MH) {o} (h : Md_makes0 v1 v2 v3 σ = some o) : Go m_Md_makes 2 (some 0, [some (.ref 166), some (.int v1), some (.int v2), some (.int v3), none, none, none, none], [], σ) ((none, [], [.int o], σ)) := by
  unfold Md_makes0 at h
  refine Go.t (Go_sg bk_Md_makes 0 8 (c2 := (some 12, [some (.ref 166), some (.int v1), some (.int v2), some (.int v3), some (.int (v1 / (14 : Int32))), none, none, none], [.int (6 : Int32), .int (jrem v1 (14 : Int32))], σ)) (ps := [(14 : Int32) ≠ 0, (14 : Int32) ≠ 0]) rfl ⟨(by decide), (by decide), trivial⟩) ?_
  refine Go_icmp_le bk_Md_makes 8 rfl (fun c15 => ?_) (fun c15 => ?_)
  · have h := ifT c15 h
    refine Go.t (Go_sg bk_Md_makes 11 1 (c2 := (some 20, [some (.ref 166), some (.int v1), some (.int v2), some (.int v3), some (.int (v1 / (14 : Int32))), none, none, none], [.int (0 : Int32)], σ)) (ps := []) rfl trivial) ?_
    exact Go.t (Go.fg (LSub.cs (LSub.cs (LSub.cs (LSub.cs (LSub.cs (LSub.cn (LSub.cn (LSub.cn (LSub.nil)))))))))) (t_Md_makes_b20 v1 v2 v3 (v1 / (14 : Int32)) (0 : Int32) σ h)
  · have h := ifF c15 h
    refine Go.t (Go_sg bk_Md_makes 9 2 (c2 := (some 20, [some (.ref 166), some (.int v1), some (.int v2), some (.int v3), some (.int (v1 / (14 : Int32))), none, none, none], [.int (1 : Int32)], σ)) (ps := []) rfl trivial) ?_
    exact Go.t (Go.fg (LSub.cs (LSub.cs (LSub.cs (LSub.cs (LSub.cs (LSub.cn (LSub.cn (LSub.cn (LSub.nil)))))))))) (t_Md_makes_b20 v1 v2 v3 (v1 / (14 : Int32)) (1 : Int32) σ h)
def Md_makes (v1 : Int32) (v2 : Int32) (v3 : Int32) (σ : MH) : Option (Int32) := bzp (Md_makes0 v1 v2 v3 σ)
set_option maxRecDepth 20000 in
set_option maxHeartbeats 2000000 in
theorem ev_Md_makes (v1 : Int32) (v2 : Int32) (v3 : Int32)  (σ : MH) {o} (h : Md_makes v1 v2 v3 σ = some o) : Ev m_Md_makes 2 [.ref 166, .int v1, .int v2, .int v3] σ (some (.int o)) σ := Ev.of2 (by decide +kernel) rfl (Nat.le_of_ble_eq_true rfl) ⟨.boolean, rfl, nrB (bzp2 h)⟩ (t_Md_makes0 v1 v2 v3 σ (bzp1 h))
def cH_Md_makesAll_2 (v1 : Int32) (v2 : Int32) (σ : MH) (s : Int32) : MC := (some 2, [some (.ref 166), some (.int v1), some (.int v2), some (.int s)], [], σ)
def cR_Md_makesAll_2 (v1 : Int32) (v2 : Int32) (σ : MH) : ((Int32)) → MC := (fun r : Int32 => ((none, [], [.int r], σ) : MC))
def Md_makesAll_l2 (v1 : Int32) (v2 : Int32) (v3 : Int32) (σ : MH) : Option (((Int32) ⊕ ((Int32)))) := if v2 ≤ v3 then some (.inr ((1 : Int32))) else (if inb ((2 : Int32) * v3) 260 = true then if inb (((2 : Int32) * v3) + (1 : Int32)) 260 = true then (Md_makes v1 (σ.1 170 ((2 : Int32) * v3).toNatClampNeg) (σ.1 170 (((2 : Int32) * v3) + (1 : Int32)).toNatClampNeg) σ).bind fun x3 => if x3 = (0 : Int32) then some (.inr ((0 : Int32))) else some (.inl (v3 + (1 : Int32))) else none else none)
set_option maxRecDepth 20000 in
set_option maxHeartbeats 2000000 in
theorem t_Md_makesAll_l2 (v1 : Int32) (v2 : Int32) (v3 : Int32)  (σ : MH) {o} (h : Md_makesAll_l2 v1 v2 v3 σ = some o) : Go m_Md_makesAll 3 (cH_Md_makesAll_2 v1 v2 σ (v3)) (cS (cH_Md_makesAll_2 v1 v2 σ) (cR_Md_makesAll_2 v1 v2 σ) o) := by
  unfold Md_makesAll_l2 at h
  unfold cH_Md_makesAll_2
  refine Go.t (Go_sg bk_Md_makesAll 2 2 (c2 := (some 4, [some (.ref 166), some (.int v1), some (.int v2), some (.int v3)], [.int v2, .int v3], σ)) (ps := []) rfl trivial) ?_
  refine Go_icmp_ge bk_Md_makesAll 4 rfl (fun c7 => ?_) (fun c7 => ?_)
  · have h := ifT c7 h
    have h := Option.some.inj h
    subst h
    refine Go.t (Go_sg bk_Md_makesAll 27 1 (c2 := (some 42, [some (.ref 166), some (.int v1), some (.int v2), some (.int v3)], [.int (1 : Int32)], σ)) (ps := []) rfl trivial) ?_
    exact Go_reti bk_Md_makesAll 28 rfl
  · have h := ifF c7 h
    obtain ⟨g1, h⟩ := gdS h
    obtain ⟨g2, h⟩ := gdS h
    refine Go.t (Go_sg bk_Md_makesAll 5 16 (c2 := (some 27, [some (.ref 166), some (.int v1), some (.int v2), some (.int v3)], [.int (σ.1 170 (((2 : Int32) * v3) + (1 : Int32)).toNatClampNeg), .int (σ.1 170 ((2 : Int32) * v3).toNatClampNeg), .int v1, .ref 166], σ)) (ps := [shk 166 = 11, IB 170 260 ∧ inb ((2 : Int32) * v3) 260 = true, shk 166 = 11, IB 170 260 ∧ inb (((2 : Int32) * v3) + (1 : Int32)) 260 = true]) rfl ⟨rfl, ⟨⟨rfl, rfl⟩, g1⟩, rfl, ⟨⟨rfl, rfl⟩, g2⟩, trivial⟩) ?_
    obtain ⟨x3, q5, h⟩ := bdS h
    refine Go.t (Go_callV bk_Md_makesAll 21 rfl nk_Md_makes tw1743 tw1745 tw108 (ci := 11) rfl (as := [.int v1, .int (σ.1 170 ((2 : Int32) * v3).toNatClampNeg), .int (σ.1 170 (((2 : Int32) * v3) + (1 : Int32)).toNatClampNeg)]) (S := []) rfl rfl rfl rfl (Nat.le_of_ble_eq_true rfl) (Nat.le_of_ble_eq_true rfl) (ev_Md_makes _ _ _ _ q5)) ?_
    refine Go_if_ne bk_Md_makesAll 22 rfl (fun c6 => ?_) (fun c6 => ?_)
    · have h := ifF c6 h
      refine Go.t (Go_sg bk_Md_makesAll 25 2 (c2 := (some 2, [some (.ref 166), some (.int v1), some (.int v2), some (.int (v3 + (1 : Int32)))], [], σ)) (ps := []) rfl trivial) ?_
      have h := Option.some.inj h
      subst h
      exact Go.fg (LSub.cs (LSub.cs (LSub.cs (LSub.cs (LSub.nil)))))
    · have h := ifT c6 h
      have h := Option.some.inj h
      subst h
      refine Go.t (Go_sg bk_Md_makesAll 23 1 (c2 := (some 34, [some (.ref 166), some (.int v1), some (.int v2), some (.int v3)], [.int (0 : Int32)], σ)) (ps := []) rfl trivial) ?_
      exact Go_reti bk_Md_makesAll 24 rfl
def Md_makesAll_L2 (v1 : Int32) (v2 : Int32) (σ : MH) (s : Int32) : Option ((Int32)) := itr (fun s : Int32 => Md_makesAll_l2 v1 v2 s σ) FU s
set_option maxRecDepth 20000 in
set_option maxHeartbeats 2000000 in
theorem t_Md_makesAll_L2 (v1 : Int32) (v2 : Int32)  (σ : MH) (s : Int32) {r} (h : Md_makesAll_L2 v1 v2 σ s = some r) : Go m_Md_makesAll 3 (cH_Md_makesAll_2 v1 v2 σ s) (cR_Md_makesAll_2 v1 v2 σ r) := Go_itr (fun s o ho => t_Md_makesAll_l2 v1 v2 s σ ho) FU s r h
def Md_makesAll0 (v1 : Int32) (v2 : Int32) (σ : MH) : Option (Int32) := (Md_makesAll_L2 v1 v2 σ ((0 : Int32))).bind fun z8 => some (z8)
set_option maxRecDepth 20000 in
set_option maxHeartbeats 2000000 in
theorem t_Md_makesAll0 (v1 : Int32) (v2 : Int32)  (σ : MH) {o} (h : Md_makesAll0 v1 v2 σ = some o) : Go m_Md_makesAll 3 (some 0, [some (.ref 166), some (.int v1), some (.int v2), none], [], σ) ((none, [], [.int o], σ)) := by
  unfold Md_makesAll0 at h
  refine Go.t (Go_sg bk_Md_makesAll 0 2 (c2 := (some 2, [some (.ref 166), some (.int v1), some (.int v2), some (.int (0 : Int32))], [], σ)) (ps := []) rfl trivial) ?_
  obtain ⟨z8, q9, h⟩ := bdS h
  refine Go.t (Go.t (Go.fg (LSub.cs (LSub.cs (LSub.cs (LSub.cs (LSub.nil)))))) (t_Md_makesAll_L2 v1 v2 σ _ q9)) ?_
  have h := Option.some.inj h
  subst h
  exact Go.rf
def Md_makesAll (v1 : Int32) (v2 : Int32) (σ : MH) : Option (Int32) := bzp (Md_makesAll0 v1 v2 σ)
set_option maxRecDepth 20000 in
set_option maxHeartbeats 2000000 in
theorem ev_Md_makesAll (v1 : Int32) (v2 : Int32)  (σ : MH) {o} (h : Md_makesAll v1 v2 σ = some o) : Ev m_Md_makesAll 3 [.ref 166, .int v1, .int v2] σ (some (.int o)) σ := Ev.of2 (by decide +kernel) rfl (Nat.le_of_ble_eq_true rfl) ⟨.boolean, rfl, nrB (bzp2 h)⟩ (t_Md_makesAll0 v1 v2 σ (bzp1 h))
def cH_Md_cutter_48 (v1 : Int32) (v2 : Int32) (σ : MH) (s : Int32) : MC := (some 48, [some (.ref 166), some (.int v1), some (.int v2), some (.int s), none, none], [], σ)
def cR_Md_cutter_48 (v1 : Int32) (v2 : Int32) (σ : MH) : ((Unit) ⊕ (Int32)) → MC := (cS (fun r : Unit => ((some 113, [some (.ref 166), some (.int v1), some (.int v2), none, none, none], [], σ) : MC)) (fun r : Int32 => ((none, [], [.int r], σ) : MC)))
def Md_cutter_l48 (v1 : Int32) (v2 : Int32) (v3 : Int32) (σ : MH) : Option (((Int32) ⊕ ((Unit) ⊕ (Int32)))) := if v1 ≤ v3 then some (.inr (.inl ())) else (if inb ((2 : Int32) * v3) 260 = true then (Md_isTwelve (σ.1 170 ((2 : Int32) * v3).toNatClampNeg) σ).bind fun x8 => if x8 = (0 : Int32) then some (.inr (.inr ((-3 : Int32)))) else (if inb (((2 : Int32) * v3) + (1 : Int32)) 260 = true then (Md_isTwelve (σ.1 170 (((2 : Int32) * v3) + (1 : Int32)).toNatClampNeg) σ).bind fun x12 => if x12 = (0 : Int32) then some (.inr (.inr ((-3 : Int32)))) else (if σ.1 170 ((2 : Int32) * v3).toNatClampNeg = σ.1 170 (((2 : Int32) * v3) + (1 : Int32)).toNatClampNeg then some (.inr (.inr ((-3 : Int32)))) else some (.inl (v3 + (1 : Int32)))) else none) else none)
set_option maxRecDepth 20000 in
set_option maxHeartbeats 2000000 in
theorem t_Md_cutter_l48 (v1 : Int32) (v2 : Int32) (v3 : Int32)  (σ : MH) {o} (h : Md_cutter_l48 v1 v2 v3 σ = some o) : Go m_Md_cutter 4 (cH_Md_cutter_48 v1 v2 σ (v3)) (cS (cH_Md_cutter_48 v1 v2 σ) (cR_Md_cutter_48 v1 v2 σ) o) := by
  unfold Md_cutter_l48 at h
  unfold cH_Md_cutter_48
  refine Go.t (Go_sg bk_Md_cutter 28 2 (c2 := (some 50, [some (.ref 166), some (.int v1), some (.int v2), some (.int v3), none, none], [.int v1, .int v3], σ)) (ps := []) rfl trivial) ?_
  refine Go_icmp_ge bk_Md_cutter 30 rfl (fun c18 => ?_) (fun c18 => ?_)
  · have h := ifT c18 h
    have h := Option.some.inj h
    subst h
    exact Go.fg (LSub.cs (LSub.cs (LSub.cs (LSub.cn (LSub.cn (LSub.cn (LSub.nil)))))))
  · have h := ifF c18 h
    obtain ⟨g7, h⟩ := gdS h
    refine Go.t (Go_sg bk_Md_cutter 31 6 (c2 := (some 61, [some (.ref 166), some (.int v1), some (.int v2), some (.int v3), none, none], [.int (σ.1 170 ((2 : Int32) * v3).toNatClampNeg)], σ)) (ps := [shk 166 = 11, IB 170 260 ∧ inb ((2 : Int32) * v3) 260 = true]) rfl ⟨rfl, ⟨⟨rfl, rfl⟩, g7⟩, trivial⟩) ?_
    obtain ⟨x8, q10, h⟩ := bdS h
    refine Go.t (Go_callS bk_Md_cutter 37 rfl nk_Md_isTwelve tw1360 tw1361 (as := [.int (σ.1 170 ((2 : Int32) * v3).toNatClampNeg)]) (S := []) rfl rfl rfl (Nat.le_of_ble_eq_true rfl) (Nat.le_of_ble_eq_true rfl) (ev_Md_isTwelve _ _ q10)) ?_
    refine Go_if_eq bk_Md_cutter 38 rfl (fun c17 => ?_) (fun c17 => ?_)
    · have h := ifT c17 h
      have h := Option.some.inj h
      subst h
      refine Go.t (Go_sg bk_Md_cutter 64 1 (c2 := (some 106, [some (.ref 166), some (.int v1), some (.int v2), some (.int v3), none, none], [.int (-3 : Int32)], σ)) (ps := []) rfl trivial) ?_
      exact Go_reti bk_Md_cutter 65 rfl
    · have h := ifF c17 h
      obtain ⟨g11, h⟩ := gdS h
      refine Go.t (Go_sg bk_Md_cutter 39 8 (c2 := (some 77, [some (.ref 166), some (.int v1), some (.int v2), some (.int v3), none, none], [.int (σ.1 170 (((2 : Int32) * v3) + (1 : Int32)).toNatClampNeg)], σ)) (ps := [shk 166 = 11, IB 170 260 ∧ inb (((2 : Int32) * v3) + (1 : Int32)) 260 = true]) rfl ⟨rfl, ⟨⟨rfl, rfl⟩, g11⟩, trivial⟩) ?_
      obtain ⟨x12, q14, h⟩ := bdS h
      refine Go.t (Go_callS bk_Md_cutter 47 rfl nk_Md_isTwelve tw1360 tw1361 (as := [.int (σ.1 170 (((2 : Int32) * v3) + (1 : Int32)).toNatClampNeg)]) (S := []) rfl rfl rfl (Nat.le_of_ble_eq_true rfl) (Nat.le_of_ble_eq_true rfl) (ev_Md_isTwelve _ _ q14)) ?_
      refine Go_if_eq bk_Md_cutter 48 rfl (fun c16 => ?_) (fun c16 => ?_)
      · have h := ifT c16 h
        have h := Option.some.inj h
        subst h
        refine Go.t (Go_sg bk_Md_cutter 64 1 (c2 := (some 106, [some (.ref 166), some (.int v1), some (.int v2), some (.int v3), none, none], [.int (-3 : Int32)], σ)) (ps := []) rfl trivial) ?_
        exact Go_reti bk_Md_cutter 65 rfl
      · have h := ifF c16 h
        refine Go.t (Go_sg bk_Md_cutter 49 14 (c2 := (some 101, [some (.ref 166), some (.int v1), some (.int v2), some (.int v3), none, none], [.int (σ.1 170 (((2 : Int32) * v3) + (1 : Int32)).toNatClampNeg), .int (σ.1 170 ((2 : Int32) * v3).toNatClampNeg)], σ)) (ps := [shk 166 = 11, IB 170 260 ∧ inb ((2 : Int32) * v3) 260 = true, shk 166 = 11, IB 170 260 ∧ inb (((2 : Int32) * v3) + (1 : Int32)) 260 = true]) rfl ⟨rfl, ⟨⟨rfl, rfl⟩, g7⟩, rfl, ⟨⟨rfl, rfl⟩, g11⟩, trivial⟩) ?_
        refine Go_icmp_ne bk_Md_cutter 63 rfl (fun c15 => ?_) (fun c15 => ?_)
        · have h := ifF c15 h
          refine Go.t (Go_sg bk_Md_cutter 66 2 (c2 := (some 48, [some (.ref 166), some (.int v1), some (.int v2), some (.int (v3 + (1 : Int32))), none, none], [], σ)) (ps := []) rfl trivial) ?_
          have h := Option.some.inj h
          subst h
          exact Go.fg (LSub.cs (LSub.cs (LSub.cs (LSub.cs (LSub.cn (LSub.cn (LSub.nil)))))))
        · have h := ifT c15 h
          have h := Option.some.inj h
          subst h
          refine Go.t (Go_sg bk_Md_cutter 64 1 (c2 := (some 106, [some (.ref 166), some (.int v1), some (.int v2), some (.int v3), none, none], [.int (-3 : Int32)], σ)) (ps := []) rfl trivial) ?_
          exact Go_reti bk_Md_cutter 65 rfl
def Md_cutter_L48 (v1 : Int32) (v2 : Int32) (σ : MH) (s : Int32) : Option ((Unit) ⊕ (Int32)) := itr (fun s : Int32 => Md_cutter_l48 v1 v2 s σ) FU s
set_option maxRecDepth 20000 in
set_option maxHeartbeats 2000000 in
theorem t_Md_cutter_L48 (v1 : Int32) (v2 : Int32)  (σ : MH) (s : Int32) {r} (h : Md_cutter_L48 v1 v2 σ s = some r) : Go m_Md_cutter 4 (cH_Md_cutter_48 v1 v2 σ s) (cR_Md_cutter_48 v1 v2 σ r) := Go_itr (fun s o ho => t_Md_cutter_l48 v1 v2 s σ ho) FU s r h
def cH_Md_cutter_122 (v1 : Int32) (v2 : Int32) (σ : MH) (s : Int32 × Int32 × Int32) : MC := (some 122, [some (.ref 166), some (.int v1), some (.int v2), some (.int s.1), some (.int s.2.1), some (.int s.2.2)], [], σ)
def cR_Md_cutter_122 (v1 : Int32) (v2 : Int32) (σ : MH) : ((Int32 × Int32)) → MC := (fun r : Int32 × Int32 => ((some 165, [some (.ref 166), none, some (.int v2), some (.int r.1), some (.int r.2), none], [], σ) : MC))
def Md_cutter_b159 (v1 : Int32) (v2 : Int32) (v3 : Int32) (v4 : Int32) (v5 : Int32) (σ : MH) : Option (((Int32 × Int32 × Int32) ⊕ ((Int32 × Int32)))) := some (.inl (v3, v4, v5 + (1 : Int32)))
set_option maxRecDepth 20000 in
set_option maxHeartbeats 2000000 in
theorem t_Md_cutter_b159 (v1 : Int32) (v2 : Int32) (v3 : Int32) (v4 : Int32) (v5 : Int32)   (σ : MH) {o} (h : Md_cutter_b159 v1 v2 v3 v4 v5 σ = some o) : Go m_Md_cutter 4 (some 159, [some (.ref 166), some (.int v1), some (.int v2), some (.int v3), some (.int v4), some (.int v5)], [], σ) (cS (cH_Md_cutter_122 v1 v2 σ) (cR_Md_cutter_122 v1 v2 σ) o) := by
  unfold Md_cutter_b159 at h
  refine Go.t (Go_sg bk_Md_cutter 93 2 (c2 := (some 122, [some (.ref 166), some (.int v1), some (.int v2), some (.int v3), some (.int v4), some (.int (v5 + (1 : Int32)))], [], σ)) (ps := []) rfl trivial) ?_
  have h := Option.some.inj h
  subst h
  exact Go.fg (LSub.cs (LSub.cs (LSub.cs (LSub.cs (LSub.cs (LSub.cs (LSub.nil)))))))
def Md_cutter_b153 (v1 : Int32) (v2 : Int32) (v3 : Int32) (v5 : Int32) (s0 : Int32) (σ : MH) : Option (((Int32 × Int32 × Int32) ⊕ ((Int32 × Int32)))) := Md_cutter_b159 v1 v2 (v3 + (1 : Int32)) s0 v5 σ
set_option maxRecDepth 20000 in
set_option maxHeartbeats 2000000 in
theorem t_Md_cutter_b153 (v1 : Int32) (v2 : Int32) (v3 : Int32) (v5 : Int32) (s0 : Int32)   (σ : MH) {o} (h : Md_cutter_b153 v1 v2 v3 v5 s0 σ = some o) : Go m_Md_cutter 4 (some 153, [some (.ref 166), some (.int v1), some (.int v2), some (.int v3), none, some (.int v5)], [.int s0], σ) (cS (cH_Md_cutter_122 v1 v2 σ) (cR_Md_cutter_122 v1 v2 σ) o) := by
  unfold Md_cutter_b153 at h
  refine Go.t (Go_sg bk_Md_cutter 88 5 (c2 := (some 159, [some (.ref 166), some (.int v1), some (.int v2), some (.int (v3 + (1 : Int32))), some (.int s0), some (.int v5)], [], σ)) (ps := []) rfl trivial) ?_
  exact Go.t (Go.fg (LSub.cs (LSub.cs (LSub.cs (LSub.cs (LSub.cs (LSub.cs (LSub.nil)))))))) (t_Md_cutter_b159 v1 v2 (v3 + (1 : Int32)) s0 v5 σ h)
def Md_cutter_l122 (v1 : Int32) (v2 : Int32) (v3 : Int32) (v4 : Int32) (v5 : Int32) (σ : MH) : Option (((Int32 × Int32 × Int32) ⊕ ((Int32 × Int32)))) := if (112 : Int32) ≤ v5 then some (.inr (v3, v4)) else ((Md_makesAll v5 v1 σ).bind fun x21 => if x21 = (0 : Int32) then (Md_cutter_b159 v1 v2 v3 v4 v5 σ) else (if v3 = (0 : Int32) then (Md_cutter_b153 v1 v2 v3 v5 v5 σ) else (Md_cutter_b153 v1 v2 v3 v5 v4 σ)))
set_option maxRecDepth 20000 in
set_option maxHeartbeats 2000000 in
theorem t_Md_cutter_l122 (v1 : Int32) (v2 : Int32) (v3 : Int32) (v4 : Int32) (v5 : Int32)  (σ : MH) {o} (h : Md_cutter_l122 v1 v2 v3 v4 v5 σ = some o) : Go m_Md_cutter 4 (cH_Md_cutter_122 v1 v2 σ (v3, v4, v5)) (cS (cH_Md_cutter_122 v1 v2 σ) (cR_Md_cutter_122 v1 v2 σ) o) := by
  unfold Md_cutter_l122 at h
  unfold cH_Md_cutter_122
  refine Go.t (Go_sg bk_Md_cutter 74 2 (c2 := (some 126, [some (.ref 166), some (.int v1), some (.int v2), some (.int v3), some (.int v4), some (.int v5)], [.int (112 : Int32), .int v5], σ)) (ps := []) rfl trivial) ?_
  refine Go_icmp_ge bk_Md_cutter 76 rfl (fun c26 => ?_) (fun c26 => ?_)
  · have h := ifT c26 h
    have h := Option.some.inj h
    subst h
    exact Go.fg (LSub.cs (LSub.cn (LSub.cs (LSub.cs (LSub.cs (LSub.cn (LSub.nil)))))))
  · have h := ifF c26 h
    refine Go.t (Go_sg bk_Md_cutter 77 3 (c2 := (some 133, [some (.ref 166), some (.int v1), some (.int v2), some (.int v3), some (.int v4), some (.int v5)], [.int v1, .int v5, .ref 166], σ)) (ps := []) rfl trivial) ?_
    obtain ⟨x21, q23, h⟩ := bdS h
    refine Go.t (Go_callV bk_Md_cutter 80 rfl nk_Md_makesAll tw1739 tw1741 tw107 (ci := 11) rfl (as := [.int v5, .int v1]) (S := []) rfl rfl rfl rfl (Nat.le_of_ble_eq_true rfl) (Nat.le_of_ble_eq_true rfl) (ev_Md_makesAll _ _ _ q23)) ?_
    refine Go_if_ne bk_Md_cutter 81 rfl (fun c25 => ?_) (fun c25 => ?_)
    · have h := ifF c25 h
      refine Go.t (Go_sg bk_Md_cutter 83 1 (c2 := (some 143, [some (.ref 166), some (.int v1), some (.int v2), some (.int v3), some (.int v4), some (.int v5)], [.int v3], σ)) (ps := []) rfl trivial) ?_
      refine Go_if_ne bk_Md_cutter 84 rfl (fun c24 => ?_) (fun c24 => ?_)
      · have h := ifF c24 h
        refine Go.t (Go_sg bk_Md_cutter 87 1 (c2 := (some 153, [some (.ref 166), some (.int v1), some (.int v2), some (.int v3), some (.int v4), some (.int v5)], [.int v4], σ)) (ps := []) rfl trivial) ?_
        exact Go.t (Go.fg (LSub.cs (LSub.cs (LSub.cs (LSub.cs (LSub.cn (LSub.cs (LSub.nil)))))))) (t_Md_cutter_b153 v1 v2 v3 v5 v4 σ h)
      · have h := ifT c24 h
        refine Go.t (Go_sg bk_Md_cutter 85 2 (c2 := (some 153, [some (.ref 166), some (.int v1), some (.int v2), some (.int v3), some (.int v4), some (.int v5)], [.int v5], σ)) (ps := []) rfl trivial) ?_
        exact Go.t (Go.fg (LSub.cs (LSub.cs (LSub.cs (LSub.cs (LSub.cn (LSub.cs (LSub.nil)))))))) (t_Md_cutter_b153 v1 v2 v3 v5 v5 σ h)
    · have h := ifT c25 h
      refine Go.t (Go_sg bk_Md_cutter 82 1 (c2 := (some 159, [some (.ref 166), some (.int v1), some (.int v2), some (.int v3), some (.int v4), some (.int v5)], [], σ)) (ps := []) rfl trivial) ?_
      exact Go.t (Go.fg (LSub.cs (LSub.cs (LSub.cs (LSub.cs (LSub.cs (LSub.cs (LSub.nil)))))))) (t_Md_cutter_b159 v1 v2 v3 v4 v5 σ h)
def Md_cutter_L122 (v1 : Int32) (v2 : Int32) (σ : MH) (s : Int32 × Int32 × Int32) : Option ((Int32 × Int32)) := itr (fun s : Int32 × Int32 × Int32 => Md_cutter_l122 v1 v2 s.1 s.2.1 s.2.2 σ) FU s
set_option maxRecDepth 20000 in
set_option maxHeartbeats 2000000 in
theorem t_Md_cutter_L122 (v1 : Int32) (v2 : Int32)  (σ : MH) (s : Int32 × Int32 × Int32) {r} (h : Md_cutter_L122 v1 v2 σ s = some r) : Go m_Md_cutter 4 (cH_Md_cutter_122 v1 v2 σ s) (cR_Md_cutter_122 v1 v2 σ r) := Go_itr (fun s o ho => t_Md_cutter_l122 v1 v2 s.1 s.2.1 s.2.2 σ ho) FU s r h
def cH_Md_cutter_184 (v2 : Int32) (v4 : Int32) (σ : MH) (s : Int32) : MC := (some 184, [some (.ref 166), none, some (.int v2), none, some (.int v4), some (.int s)], [], σ)
def cR_Md_cutter_184 (v2 : Int32) (v4 : Int32) (σ : MH) : ((Int32)) → MC := (fun r : Int32 => ((none, [], [.int r], σ) : MC))
def Md_cutter_l184 (v2 : Int32) (v4 : Int32) (v5 : Int32) (σ : MH) : Option (((Int32) ⊕ ((Int32)))) := if (12 : Int32) ≤ v5 then some (.inr ((-2 : Int32))) else (if v4 = (-2 : Int32) then some (.inr ((-2 : Int32))) else ((Md_makes v4 (v2 - (10 : Int32)) v5 σ).bind fun x29 => if x29 = (0 : Int32) then some (.inl (v5 + (1 : Int32))) else some (.inr (v5))))
set_option maxRecDepth 20000 in
set_option maxHeartbeats 2000000 in
theorem t_Md_cutter_l184 (v2 : Int32) (v4 : Int32) (v5 : Int32)  (σ : MH) {o} (h : Md_cutter_l184 v2 v4 v5 σ = some o) : Go m_Md_cutter 4 (cH_Md_cutter_184 v2 v4 σ (v5)) (cS (cH_Md_cutter_184 v2 v4 σ) (cR_Md_cutter_184 v2 v4 σ) o) := by
  unfold Md_cutter_l184 at h
  unfold cH_Md_cutter_184
  refine Go.t (Go_sg bk_Md_cutter 106 2 (c2 := (some 188, [some (.ref 166), none, some (.int v2), none, some (.int v4), some (.int v5)], [.int (12 : Int32), .int v5], σ)) (ps := []) rfl trivial) ?_
  refine Go_icmp_ge bk_Md_cutter 108 rfl (fun c34 => ?_) (fun c34 => ?_)
  · have h := ifT c34 h
    have h := Option.some.inj h
    subst h
    refine Go.t (Go_sg bk_Md_cutter 124 1 (c2 := (some 224, [some (.ref 166), none, some (.int v2), none, some (.int v4), some (.int v5)], [.int (-2 : Int32)], σ)) (ps := []) rfl trivial) ?_
    exact Go_reti bk_Md_cutter 125 rfl
  · have h := ifF c34 h
    refine Go.t (Go_sg bk_Md_cutter 109 2 (c2 := (some 195, [some (.ref 166), none, some (.int v2), none, some (.int v4), some (.int v5)], [.int (-2 : Int32), .int v4], σ)) (ps := []) rfl trivial) ?_
    refine Go_icmp_eq bk_Md_cutter 111 rfl (fun c33 => ?_) (fun c33 => ?_)
    · have h := ifT c33 h
      have h := Option.some.inj h
      subst h
      refine Go.t (Go_sg bk_Md_cutter 124 1 (c2 := (some 224, [some (.ref 166), none, some (.int v2), none, some (.int v4), some (.int v5)], [.int (-2 : Int32)], σ)) (ps := []) rfl trivial) ?_
      exact Go_reti bk_Md_cutter 125 rfl
    · have h := ifF c33 h
      refine Go.t (Go_sg bk_Md_cutter 112 6 (c2 := (some 207, [some (.ref 166), none, some (.int v2), none, some (.int v4), some (.int v5)], [.int v5, .int (v2 - (10 : Int32)), .int v4, .ref 166], σ)) (ps := []) rfl trivial) ?_
      obtain ⟨x29, q31, h⟩ := bdS h
      refine Go.t (Go_callV bk_Md_cutter 118 rfl nk_Md_makes tw1743 tw1745 tw108 (ci := 11) rfl (as := [.int v4, .int (v2 - (10 : Int32)), .int v5]) (S := []) rfl rfl rfl rfl (Nat.le_of_ble_eq_true rfl) (Nat.le_of_ble_eq_true rfl) (ev_Md_makes _ _ _ _ q31)) ?_
      refine Go_if_eq bk_Md_cutter 119 rfl (fun c32 => ?_) (fun c32 => ?_)
      · have h := ifT c32 h
        refine Go.t (Go_sg bk_Md_cutter 122 2 (c2 := (some 184, [some (.ref 166), none, some (.int v2), none, some (.int v4), some (.int (v5 + (1 : Int32)))], [], σ)) (ps := []) rfl trivial) ?_
        have h := Option.some.inj h
        subst h
        exact Go.fg (LSub.cs (LSub.cn (LSub.cs (LSub.cn (LSub.cs (LSub.cs (LSub.nil)))))))
      · have h := ifF c32 h
        have h := Option.some.inj h
        subst h
        refine Go.t (Go_sg bk_Md_cutter 120 1 (c2 := (some 215, [some (.ref 166), none, some (.int v2), none, some (.int v4), some (.int v5)], [.int v5], σ)) (ps := []) rfl trivial) ?_
        exact Go_reti bk_Md_cutter 121 rfl
def Md_cutter_L184 (v2 : Int32) (v4 : Int32) (σ : MH) (s : Int32) : Option ((Int32)) := itr (fun s : Int32 => Md_cutter_l184 v2 v4 s σ) FU s
set_option maxRecDepth 20000 in
set_option maxHeartbeats 2000000 in
theorem t_Md_cutter_L184 (v2 : Int32) (v4 : Int32)  (σ : MH) (s : Int32) {r} (h : Md_cutter_L184 v2 v4 σ s = some r) : Go m_Md_cutter 4 (cH_Md_cutter_184 v2 v4 σ s) (cR_Md_cutter_184 v2 v4 σ r) := Go_itr (fun s o ho => t_Md_cutter_l184 v2 v4 s σ ho) FU s r h
def Md_cutter_b29 (v1 : Int32) (v2 : Int32) (σ : MH) : Option (Int32 × MH) := if (2 : Int32) * v1 ≤ σ.1 166 4 then ((Md_cutter_L48 v1 v2 (sI σ 166 4 (0 : Int32)) ((0 : Int32))).bind fun z19 => (match z19 with | .inl z19a => (Md_cutter_L122 v1 v2 (sI σ 166 4 (0 : Int32)) ((0 : Int32), (-2 : Int32), (0 : Int32))).bind fun z27 => if (2 : Int32) ≤ v2 then ((Md_cutter_L184 v2 z27.2 (sI σ 166 4 (0 : Int32)) ((0 : Int32))).bind fun z35 => some (z35, sI σ 166 4 (0 : Int32))) else (if v2 = (0 : Int32) then some (z27.1, sI σ 166 4 (0 : Int32)) else some (z27.2, sI σ 166 4 (0 : Int32))) | .inr z19b => some (z19b, sI σ 166 4 (0 : Int32)))) else some ((-1 : Int32), σ)
set_option maxRecDepth 20000 in
set_option maxHeartbeats 2000000 in
theorem t_Md_cutter_b29 (v1 : Int32) (v2 : Int32)   (σ : MH) {o} (h : Md_cutter_b29 v1 v2 σ = some o) : Go m_Md_cutter 4 (some 29, [some (.ref 166), some (.int v1), some (.int v2), none, none, none], [], σ) ((none, [], [.int o.1], o.2)) := by
  unfold Md_cutter_b29 at h
  refine Go.t (Go_sg bk_Md_cutter 15 5 (c2 := (some 36, [some (.ref 166), some (.int v1), some (.int v2), none, none, none], [.int (σ.1 166 4), .int ((2 : Int32) * v1)], σ)) (ps := [shk 166 = 11]) rfl ⟨rfl, trivial⟩) ?_
  refine Go_icmp_le bk_Md_cutter 20 rfl (fun c39 => ?_) (fun c39 => ?_)
  · have h := ifT c39 h
    refine Go.t (Go_sg bk_Md_cutter 23 5 (c2 := (some 48, [some (.ref 166), some (.int v1), some (.int v2), some (.int (0 : Int32)), none, none], [], sI σ 166 4 (0 : Int32))) (ps := [shk 166 = 11]) rfl ⟨rfl, trivial⟩) ?_
    obtain ⟨z19, q20, h⟩ := bdS h
    refine Go.t (Go.t (Go.fg (LSub.cs (LSub.cs (LSub.cs (LSub.cs (LSub.cn (LSub.cn (LSub.nil)))))))) (t_Md_cutter_L48 v1 v2 (sI σ 166 4 (0 : Int32)) _ q20)) ?_
    rcases z19 with z19a | z19b
    · dsimp only at h
      refine Go.t (Go_sg bk_Md_cutter 68 6 (c2 := (some 122, [some (.ref 166), some (.int v1), some (.int v2), some (.int (0 : Int32)), some (.int (-2 : Int32)), some (.int (0 : Int32))], [], sI σ 166 4 (0 : Int32))) (ps := []) rfl trivial) ?_
      obtain ⟨z27, q28, h⟩ := bdS h
      refine Go.t (Go.t (Go.fg (LSub.cs (LSub.cs (LSub.cs (LSub.cs (LSub.cs (LSub.cs (LSub.nil)))))))) (t_Md_cutter_L122 v1 v2 (sI σ 166 4 (0 : Int32)) _ q28)) ?_
      refine Go.t (Go_sg bk_Md_cutter 95 2 (c2 := (some 167, [some (.ref 166), none, some (.int v2), some (.int z27.1), some (.int z27.2), none], [.int (2 : Int32), .int v2], sI σ 166 4 (0 : Int32))) (ps := []) rfl trivial) ?_
      refine Go_icmp_ge bk_Md_cutter 97 rfl (fun c38 => ?_) (fun c38 => ?_)
      · have h := ifT c38 h
        refine Go.t (Go_sg bk_Md_cutter 104 2 (c2 := (some 184, [some (.ref 166), none, some (.int v2), some (.int z27.1), some (.int z27.2), some (.int (0 : Int32))], [], sI σ 166 4 (0 : Int32))) (ps := []) rfl trivial) ?_
        obtain ⟨z35, q36, h⟩ := bdS h
        refine Go.t (Go.t (Go.fg (LSub.cs (LSub.cn (LSub.cs (LSub.cn (LSub.cs (LSub.cs (LSub.nil)))))))) (t_Md_cutter_L184 v2 z27.2 (sI σ 166 4 (0 : Int32)) _ q36)) ?_
        have h := Option.some.inj h
        subst h
        exact Go.rf
      · have h := ifF c38 h
        refine Go.t (Go_sg bk_Md_cutter 98 1 (c2 := (some 171, [some (.ref 166), none, some (.int v2), some (.int z27.1), some (.int z27.2), none], [.int v2], sI σ 166 4 (0 : Int32))) (ps := []) rfl trivial) ?_
        refine Go_if_ne bk_Md_cutter 99 rfl (fun c37 => ?_) (fun c37 => ?_)
        · have h := ifF c37 h
          have h := Option.some.inj h
          subst h
          refine Go.t (Go_sg bk_Md_cutter 102 1 (c2 := (some 180, [some (.ref 166), none, some (.int v2), some (.int z27.1), some (.int z27.2), none], [.int z27.2], sI σ 166 4 (0 : Int32))) (ps := []) rfl trivial) ?_
          exact Go_reti bk_Md_cutter 103 rfl
        · have h := ifT c37 h
          refine Go.t (Go_sg bk_Md_cutter 100 2 (c2 := (some 180, [some (.ref 166), none, some (.int v2), some (.int z27.1), some (.int z27.2), none], [.int z27.1], sI σ 166 4 (0 : Int32))) (ps := []) rfl trivial) ?_
          have h := Option.some.inj h
          subst h
          exact Go_reti bk_Md_cutter 103 rfl
    · dsimp only at h
      have h := Option.some.inj h
      subst h
      exact Go.rf
  · have h := ifF c39 h
    have h := Option.some.inj h
    subst h
    refine Go.t (Go_sg bk_Md_cutter 21 1 (c2 := (some 40, [some (.ref 166), some (.int v1), some (.int v2), none, none, none], [.int (-1 : Int32)], σ)) (ps := []) rfl trivial) ?_
    exact Go_reti bk_Md_cutter 22 rfl
def Md_cutter0 (v1 : Int32) (v2 : Int32) (σ : MH) : Option (Int32 × MH) := (Md_in v1 (1 : Int32) (5 : Int32) σ).bind fun x1 => if x1 = (0 : Int32) then some ((-1 : Int32), σ) else ((Md_in v2 (0 : Int32) (1 : Int32) σ).bind fun x4 => if x4 = (0 : Int32) then ((Md_in v2 (10 : Int32) (21 : Int32) σ).bind fun x40 => if x40 = (0 : Int32) then some ((-1 : Int32), σ) else (Md_cutter_b29 v1 v2 σ)) else (Md_cutter_b29 v1 v2 σ))
set_option maxRecDepth 20000 in
set_option maxHeartbeats 2000000 in
theorem t_Md_cutter0 (v1 : Int32) (v2 : Int32)  (σ : MH) {o} (h : Md_cutter0 v1 v2 σ = some o) : Go m_Md_cutter 4 (some 0, [some (.ref 166), some (.int v1), some (.int v2), none, none, none], [], σ) ((none, [], [.int o.1], o.2)) := by
  unfold Md_cutter0 at h
  refine Go.t (Go_sg bk_Md_cutter 0 3 (c2 := (some 3, [some (.ref 166), some (.int v1), some (.int v2), none, none, none], [.int (5 : Int32), .int (1 : Int32), .int v1], σ)) (ps := []) rfl trivial) ?_
  obtain ⟨x1, q3, h⟩ := bdS h
  refine Go.t (Go_callS bk_Md_cutter 3 rfl nk_Md_in tw1370 tw1371 (as := [.int v1, .int (1 : Int32), .int (5 : Int32)]) (S := []) rfl rfl rfl (Nat.le_of_ble_eq_true rfl) (Nat.le_of_ble_eq_true rfl) (ev_Md_in _ _ _ _ q3)) ?_
  refine Go_if_eq bk_Md_cutter 4 rfl (fun c45 => ?_) (fun c45 => ?_)
  · have h := ifT c45 h
    have h := Option.some.inj h
    subst h
    refine Go.t (Go_sg bk_Md_cutter 21 1 (c2 := (some 40, [some (.ref 166), some (.int v1), some (.int v2), none, none, none], [.int (-1 : Int32)], σ)) (ps := []) rfl trivial) ?_
    exact Go_reti bk_Md_cutter 22 rfl
  · have h := ifF c45 h
    refine Go.t (Go_sg bk_Md_cutter 5 3 (c2 := (some 12, [some (.ref 166), some (.int v1), some (.int v2), none, none, none], [.int (1 : Int32), .int (0 : Int32), .int v2], σ)) (ps := []) rfl trivial) ?_
    obtain ⟨x4, q6, h⟩ := bdS h
    refine Go.t (Go_callS bk_Md_cutter 8 rfl nk_Md_in tw1370 tw1371 (as := [.int v2, .int (0 : Int32), .int (1 : Int32)]) (S := []) rfl rfl rfl (Nat.le_of_ble_eq_true rfl) (Nat.le_of_ble_eq_true rfl) (ev_Md_in _ _ _ _ q6)) ?_
    refine Go_if_ne bk_Md_cutter 9 rfl (fun c44 => ?_) (fun c44 => ?_)
    · have h := ifF c44 h
      exact Go.t (Go.fg (LSub.cs (LSub.cs (LSub.cs (LSub.cn (LSub.cn (LSub.cn (LSub.nil)))))))) (t_Md_cutter_b29 v1 v2 σ h)
    · have h := ifT c44 h
      refine Go.t (Go_sg bk_Md_cutter 10 3 (c2 := (some 23, [some (.ref 166), some (.int v1), some (.int v2), none, none, none], [.int (21 : Int32), .int (10 : Int32), .int v2], σ)) (ps := []) rfl trivial) ?_
      obtain ⟨x40, q42, h⟩ := bdS h
      refine Go.t (Go_callS bk_Md_cutter 13 rfl nk_Md_in tw1370 tw1371 (as := [.int v2, .int (10 : Int32), .int (21 : Int32)]) (S := []) rfl rfl rfl (Nat.le_of_ble_eq_true rfl) (Nat.le_of_ble_eq_true rfl) (ev_Md_in _ _ _ _ q42)) ?_
      refine Go_if_eq bk_Md_cutter 14 rfl (fun c43 => ?_) (fun c43 => ?_)
      · have h := ifT c43 h
        have h := Option.some.inj h
        subst h
        refine Go.t (Go_sg bk_Md_cutter 21 1 (c2 := (some 40, [some (.ref 166), some (.int v1), some (.int v2), none, none, none], [.int (-1 : Int32)], σ)) (ps := []) rfl trivial) ?_
        exact Go_reti bk_Md_cutter 22 rfl
      · have h := ifF c43 h
        exact Go.t (Go.fg (LSub.cs (LSub.cs (LSub.cs (LSub.cn (LSub.cn (LSub.cn (LSub.nil)))))))) (t_Md_cutter_b29 v1 v2 σ h)
def Md_cutter (v1 : Int32) (v2 : Int32) (σ : MH) : Option (Int32 × MH) := Md_cutter0 v1 v2 σ
set_option maxRecDepth 20000 in
set_option maxHeartbeats 2000000 in
theorem ev_Md_cutter (v1 : Int32) (v2 : Int32)  (σ : MH) {o} (h : Md_cutter v1 v2 σ = some o) : Ev m_Md_cutter 4 [.ref 166, .int v1, .int v2] σ (some (.int o.1)) o.2 := Ev.of2 (by decide +kernel) rfl (Nat.le_of_ble_eq_true rfl) ⟨.int, rfl, rfl⟩ (t_Md_cutter0 v1 v2 σ h)
