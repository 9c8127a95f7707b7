/-! FUNCTIONS: Couples_bestOf Couples_withBond Couples_weighAll Couples_choose Couples_findMost Pz_most Couples_prefers Couples_askNext Couples_findStable Pz_stable Pz_likingNow Pz_wouldLeave Pz_unrest Search_accept Search_weigh -/
def Couples_bestOf0 (v1 : Int32) (v2 : Int32) (σ : MH) : Option (Int32) := if (jshl v1 (σ.1 129 7)) + v2 < (0 : Int32) then some ((0 : Int32)) else (if (4096 : Int32) ≤ (jshl v1 (σ.1 129 7)) + v2 then some ((0 : Int32)) else (if inb ((jshl v1 (σ.1 129 7)) + v2) 4096 = true then some (σ.1 146 ((jshl v1 (σ.1 129 7)) + v2).toNatClampNeg) else none))
set_option maxRecDepth 20000 in
set_option maxHeartbeats 2000000 in
theorem t_Couples_bestOf0 (v1 : Int32) (v2 : Int32)  (σ : MH) {o} (h : Couples_bestOf0 v1 v2 σ = some o) : Go m_Couples_bestOf 1 (some 0, [some (.ref 129), some (.int v1), some (.int v2), none], [], σ) ((none, [], [.int o], σ)) := by
  unfold Couples_bestOf0 at h
  refine Go.t (Go_sg bk_Couples_bestOf 0 8 (c2 := (some 10, [some (.ref 129), some (.int v1), some (.int v2), some (.int ((jshl v1 (σ.1 129 7)) + v2))], [.int ((jshl v1 (σ.1 129 7)) + v2)], σ)) (ps := [shk 129 = 0]) rfl ⟨rfl, trivial⟩) ?_
  refine Go_if_lt bk_Couples_bestOf 8 rfl (fun c3 => ?_) (fun c3 => ?_)
  · have h := ifT c3 h
    have h := Option.some.inj h
    subst h
    refine Go.t (Go_sg bk_Couples_bestOf 17 1 (c2 := (some 30, [some (.ref 129), some (.int v1), some (.int v2), some (.int ((jshl v1 (σ.1 129 7)) + v2))], [.int (0 : Int32)], σ)) (ps := []) rfl trivial) ?_
    exact Go_reti bk_Couples_bestOf 18 rfl
  · have h := ifF c3 h
    refine Go.t (Go_sg bk_Couples_bestOf 9 2 (c2 := (some 17, [some (.ref 129), some (.int v1), some (.int v2), some (.int ((jshl v1 (σ.1 129 7)) + v2))], [.int (4096 : Int32), .int ((jshl v1 (σ.1 129 7)) + v2)], σ)) (ps := []) rfl trivial) ?_
    refine Go_icmp_ge bk_Couples_bestOf 11 rfl (fun c2 => ?_) (fun c2 => ?_)
    · have h := ifT c2 h
      have h := Option.some.inj h
      subst h
      refine Go.t (Go_sg bk_Couples_bestOf 17 1 (c2 := (some 30, [some (.ref 129), some (.int v1), some (.int v2), some (.int ((jshl v1 (σ.1 129 7)) + v2))], [.int (0 : Int32)], σ)) (ps := []) rfl trivial) ?_
      exact Go_reti bk_Couples_bestOf 18 rfl
    · have h := ifF c2 h
      obtain ⟨g1, h⟩ := gdS h
      refine Go.t (Go_sg bk_Couples_bestOf 12 5 (c2 := (some 30, [some (.ref 129), some (.int v1), some (.int v2), some (.int ((jshl v1 (σ.1 129 7)) + v2))], [.int (σ.1 146 ((jshl v1 (σ.1 129 7)) + v2).toNatClampNeg)], σ)) (ps := [shk 129 = 0, IA 146 4096 ∧ inb ((jshl v1 (σ.1 129 7)) + v2) 4096 = true]) rfl ⟨rfl, ⟨⟨rfl, rfl⟩, g1⟩, trivial⟩) ?_
      have h := Option.some.inj h
      subst h
      exact Go_reti bk_Couples_bestOf 18 rfl
def Couples_bestOf (v1 : Int32) (v2 : Int32) (σ : MH) : Option (Int32) := Couples_bestOf0 v1 v2 σ
set_option maxRecDepth 20000 in
set_option maxHeartbeats 2000000 in
theorem ev_Couples_bestOf (v1 : Int32) (v2 : Int32)  (σ : MH) {o} (h : Couples_bestOf v1 v2 σ = some o) : Ev m_Couples_bestOf 1 [.ref 129, .int v1, .int v2] σ (some (.int o)) σ := Ev.of2 (by decide +kernel) rfl (Nat.le_of_ble_eq_true rfl) ⟨.int, rfl, rfl⟩ (t_Couples_bestOf0 v1 v2 σ h)
def Couples_withBond0 (v1 : Int32) (v2 : Int32) (v3 : Int32) (σ : MH) : Option (Int32) := if (jshr v3 v2) &&& (1 : Int32) = (1 : Int32) then some ((-1 : Int32)) else (if inb v1 12 = true then if inb v2 12 = true then if σ.1 (rfv 133 v1.toNatClampNeg) v2.toNatClampNeg = (0 : Int32) then some ((-1 : Int32)) else ((Couples_bestOf (v1 + (1 : Int32)) (v3 ||| (jshl (1 : Int32) v2)) σ).bind fun x3 => some ((σ.1 (rfv 133 v1.toNatClampNeg) v2.toNatClampNeg) + x3)) else none else none)
set_option maxRecDepth 20000 in
set_option maxHeartbeats 2000000 in
theorem t_Couples_withBond0 (v1 : Int32) (v2 : Int32) (v3 : Int32)  (σ : MH) {o} (h : Couples_withBond0 v1 v2 v3 σ = some o) : Go m_Couples_withBond 2 (some 0, [some (.ref 129), some (.int v1), some (.int v2), some (.int v3)], [], σ) ((none, [], [.int o], σ)) := by
  unfold Couples_withBond0 at h
  refine Go.t (Go_sg bk_Couples_withBond 0 6 (c2 := (some 6, [some (.ref 129), some (.int v1), some (.int v2), some (.int v3)], [.int (1 : Int32), .int ((jshr v3 v2) &&& (1 : Int32))], σ)) (ps := []) rfl trivial) ?_
  refine Go_icmp_eq bk_Couples_withBond 6 rfl (fun c7 => ?_) (fun c7 => ?_)
  · have h := ifT c7 h
    have h := Option.some.inj h
    subst h
    refine Go.t (Go_sg bk_Couples_withBond 14 1 (c2 := (some 21, [some (.ref 129), some (.int v1), some (.int v2), some (.int v3)], [.int (-1 : Int32)], σ)) (ps := []) rfl trivial) ?_
    exact Go_reti bk_Couples_withBond 15 rfl
  · have h := ifF c7 h
    obtain ⟨g1, h⟩ := gdS h
    obtain ⟨g2, h⟩ := gdS h
    refine Go.t (Go_sg bk_Couples_withBond 7 6 (c2 := (some 17, [some (.ref 129), some (.int v1), some (.int v2), some (.int v3)], [.int (σ.1 (rfv 133 v1.toNatClampNeg) v2.toNatClampNeg)], σ)) (ps := [shk 129 = 0, IR 133 12 ∧ inb v1 12 = true, IA (rfv 133 v1.toNatClampNeg) 12 ∧ inb v2 12 = true]) rfl ⟨rfl, ⟨⟨rfl, rfl⟩, g1⟩, ⟨(rw_133 g1), g2⟩, trivial⟩) ?_
    refine Go_if_ne bk_Couples_withBond 13 rfl (fun c6 => ?_) (fun c6 => ?_)
    · have h := ifF c6 h
      refine Go.t (Go_sg bk_Couples_withBond 16 15 (c2 := (some 39, [some (.ref 129), some (.int v1), some (.int v2), some (.int v3)], [.int (v3 ||| (jshl (1 : Int32) v2)), .int (v1 + (1 : Int32)), .ref 129, .int (σ.1 (rfv 133 v1.toNatClampNeg) v2.toNatClampNeg)], σ)) (ps := [shk 129 = 0, IR 133 12 ∧ inb v1 12 = true, IA (rfv 133 v1.toNatClampNeg) 12 ∧ inb v2 12 = true]) rfl ⟨rfl, ⟨⟨rfl, rfl⟩, g1⟩, ⟨(rw_133 g1), g2⟩, trivial⟩) ?_
      obtain ⟨x3, q5, h⟩ := bdS h
      refine Go.t (Go_callV bk_Couples_withBond 31 rfl nk_Couples_bestOf tw1011 tw1013 tw24 (ci := 0) rfl (as := [.int (v1 + (1 : Int32)), .int (v3 ||| (jshl (1 : Int32) v2))]) (S := [.int (σ.1 (rfv 133 v1.toNatClampNeg) v2.toNatClampNeg)]) rfl rfl rfl rfl (Nat.le_of_ble_eq_true rfl) (Nat.le_of_ble_eq_true rfl) (ev_Couples_bestOf _ _ _ q5)) ?_
      have h := Option.some.inj h
      subst h
      refine Go.t (Go_sg bk_Couples_withBond 32 1 (c2 := (some 43, [some (.ref 129), some (.int v1), some (.int v2), some (.int v3)], [.int ((σ.1 (rfv 133 v1.toNatClampNeg) v2.toNatClampNeg) + x3)], σ)) (ps := []) rfl trivial) ?_
      exact Go_reti bk_Couples_withBond 33 rfl
    · have h := ifT c6 h
      have h := Option.some.inj h
      subst h
      refine Go.t (Go_sg bk_Couples_withBond 14 1 (c2 := (some 21, [some (.ref 129), some (.int v1), some (.int v2), some (.int v3)], [.int (-1 : Int32)], σ)) (ps := []) rfl trivial) ?_
      exact Go_reti bk_Couples_withBond 15 rfl
def Couples_withBond (v1 : Int32) (v2 : Int32) (v3 : Int32) (σ : MH) : Option (Int32) := Couples_withBond0 v1 v2 v3 σ
set_option maxRecDepth 20000 in
set_option maxHeartbeats 2000000 in
theorem ev_Couples_withBond (v1 : Int32) (v2 : Int32) (v3 : Int32)  (σ : MH) {o} (h : Couples_withBond v1 v2 v3 σ = some o) : Ev m_Couples_withBond 2 [.ref 129, .int v1, .int v2, .int v3] σ (some (.int o)) σ := Ev.of2 (by decide +kernel) rfl (Nat.le_of_ble_eq_true rfl) ⟨.int, rfl, rfl⟩ (t_Couples_withBond0 v1 v2 v3 σ h)
def cH_Couples_weighAll_9 (v1 : Int32) (s : Int32 × MH) : MC := (some 9, [some (.ref 129), some (.int v1), some (.int s.1), none, none, none], [], s.2)
def cR_Couples_weighAll_9 (v1 : Int32) : ((MH)) → MC := (fun r : MH => ((some 30, [some (.ref 129), some (.int v1), none, none, none, none], [], r) : MC))
def Couples_weighAll_l9 (v1 : Int32) (v2 : Int32) (σ : MH) : Option (((Int32 × MH) ⊕ ((MH)))) := if v1 ≤ v2 then some (.inr (σ)) else ((Couples_setBest (σ.1 129 6) v2 (0 : Int32) σ).bind fun σ2 => some (.inl (v2 + (1 : Int32), σ2)))
set_option maxRecDepth 20000 in
set_option maxHeartbeats 2000000 in
theorem t_Couples_weighAll_l9 (v1 : Int32) (v2 : Int32)  (σ : MH) {o} (h : Couples_weighAll_l9 v1 v2 σ = some o) : Go m_Couples_weighAll 3 (cH_Couples_weighAll_9 v1 (v2, σ)) (cS (cH_Couples_weighAll_9 v1) (cR_Couples_weighAll_9 v1) o) := by
  unfold Couples_weighAll_l9 at h
  unfold cH_Couples_weighAll_9
  refine Go.t (Go_sg bk_Couples_weighAll 7 2 (c2 := (some 11, [some (.ref 129), some (.int v1), some (.int v2), none, none, none], [.int v1, .int v2], σ)) (ps := []) rfl trivial) ?_
  refine Go_icmp_ge bk_Couples_weighAll 9 rfl (fun c4 => ?_) (fun c4 => ?_)
  · have h := ifT c4 h
    have h := Option.some.inj h
    subst h
    exact Go.fg (LSub.cs (LSub.cs (LSub.cn (LSub.cn (LSub.cn (LSub.cn (LSub.nil)))))))
  · have h := ifF c4 h
    refine Go.t (Go_sg bk_Couples_weighAll 10 5 (c2 := (some 21, [some (.ref 129), some (.int v1), some (.int v2), none, none, none], [.int (0 : Int32), .int v2, .int (σ.1 129 6), .ref 129], σ)) (ps := [shk 129 = 0]) rfl ⟨rfl, trivial⟩) ?_
    obtain ⟨σ2, q3, h⟩ := bdS h
    refine Go.t (Go_callV bk_Couples_weighAll 15 rfl nk_Couples_setBest tw1007 tw1009 tw23 (ci := 0) rfl (as := [.int (σ.1 129 6), .int v2, .int (0 : Int32)]) (S := []) rfl rfl rfl rfl (Nat.le_of_ble_eq_true rfl) (Nat.le_of_ble_eq_true rfl) (ev_Couples_setBest _ _ _ _ q3)) ?_
    refine Go.t (Go_sg bk_Couples_weighAll 16 2 (c2 := (some 9, [some (.ref 129), some (.int v1), some (.int (v2 + (1 : Int32))), none, none, none], [], σ2)) (ps := []) rfl trivial) ?_
    have h := Option.some.inj h
    subst h
    exact Go.fg (LSub.cs (LSub.cs (LSub.cs (LSub.cn (LSub.cn (LSub.cn (LSub.nil)))))))
def Couples_weighAll_L9 (v1 : Int32) (s : Int32 × MH) : Option ((MH)) := itr (fun s : Int32 × MH => Couples_weighAll_l9 v1 s.1 s.2) FU s
set_option maxRecDepth 20000 in
set_option maxHeartbeats 2000000 in
theorem t_Couples_weighAll_L9 (v1 : Int32)  (s : Int32 × MH) {r} (h : Couples_weighAll_L9 v1 s = some r) : Go m_Couples_weighAll 3 (cH_Couples_weighAll_9 v1 s) (cR_Couples_weighAll_9 v1 r) := Go_itr (fun s o ho => t_Couples_weighAll_l9 v1 s.1 s.2 ho) FU s r h
def cH_Couples_weighAll_37 (v1 : Int32) (s : Int32 × MH) : MC := (some 37, [some (.ref 129), some (.int v1), some (.int s.1), none, none, none], [], s.2)
def cR_Couples_weighAll_37 (v1 : Int32) : ((MH)) → MC := (fun r : MH => ((none, [], [], r) : MC))
def cH_Couples_weighAll_43 (v1 : Int32) (v2 : Int32) (s : Int32 × MH) : MC := (some 43, [some (.ref 129), some (.int v1), some (.int v2), some (.int s.1), none, none], [], s.2)
def cR_Couples_weighAll_43 (v1 : Int32) (v2 : Int32) : ((MH)) → MC := (fun r : MH => ((some 105, [some (.ref 129), some (.int v1), some (.int v2), none, none, none], [], r) : MC))
def cH_Couples_weighAll_61 (v1 : Int32) (v2 : Int32) (v3 : Int32) (σ : MH) (s : Int32 × Int32) : MC := (some 61, [some (.ref 129), some (.int v1), some (.int v2), some (.int v3), some (.int s.1), some (.int s.2)], [], σ)
def cR_Couples_weighAll_61 (v1 : Int32) (v2 : Int32) (v3 : Int32) (σ : MH) : ((Int32)) → MC := (fun r : Int32 => ((some 91, [some (.ref 129), some (.int v1), some (.int v2), some (.int v3), some (.int r), none], [], σ) : MC))
def Couples_weighAll_l61 (v1 : Int32) (v2 : Int32) (v3 : Int32) (v4 : Int32) (v5 : Int32) (σ : MH) : Option (((Int32 × Int32) ⊕ ((Int32)))) := if σ.1 129 7 ≤ v5 then some (.inr (v4)) else ((Couples_withBond v2 v5 v3 σ).bind fun x10 => some (.inl (jmax v4 x10, v5 + (1 : Int32))))
set_option maxRecDepth 20000 in
set_option maxHeartbeats 2000000 in
theorem t_Couples_weighAll_l61 (v1 : Int32) (v2 : Int32) (v3 : Int32) (v4 : Int32) (v5 : Int32)  (σ : MH) {o} (h : Couples_weighAll_l61 v1 v2 v3 v4 v5 σ = some o) : Go m_Couples_weighAll 3 (cH_Couples_weighAll_61 v1 v2 v3 σ (v4, v5)) (cS (cH_Couples_weighAll_61 v1 v2 v3 σ) (cR_Couples_weighAll_61 v1 v2 v3 σ) o) := by
  unfold Couples_weighAll_l61 at h
  unfold cH_Couples_weighAll_61
  refine Go.t (Go_sg bk_Couples_weighAll 39 3 (c2 := (some 67, [some (.ref 129), some (.int v1), some (.int v2), some (.int v3), some (.int v4), some (.int v5)], [.int (σ.1 129 7), .int v5], σ)) (ps := [shk 129 = 0]) rfl ⟨rfl, trivial⟩) ?_
  refine Go_icmp_ge bk_Couples_weighAll 42 rfl (fun c13 => ?_) (fun c13 => ?_)
  · have h := ifT c13 h
    have h := Option.some.inj h
    subst h
    exact Go.fg (LSub.cs (LSub.cs (LSub.cs (LSub.cs (LSub.cs (LSub.cn (LSub.nil)))))))
  · have h := ifF c13 h
    refine Go.t (Go_sg bk_Couples_weighAll 43 5 (c2 := (some 77, [some (.ref 129), some (.int v1), some (.int v2), some (.int v3), some (.int v4), some (.int v5)], [.int v3, .int v5, .int v2, .ref 129, .int v4], σ)) (ps := []) rfl trivial) ?_
    obtain ⟨x10, q12, h⟩ := bdS h
    refine Go.t (Go_callV bk_Couples_weighAll 48 rfl nk_Couples_withBond tw1015 tw1017 tw25 (ci := 0) rfl (as := [.int v2, .int v5, .int v3]) (S := [.int v4]) rfl rfl rfl rfl (Nat.le_of_ble_eq_true rfl) (Nat.le_of_ble_eq_true rfl) (ev_Couples_withBond _ _ _ _ q12)) ?_
    refine Go.t (Go_mmax bk_Couples_weighAll 49 rfl tw1019 (Nat.le_of_ble_eq_true rfl) (Nat.le_of_ble_eq_true rfl)) ?_
    refine Go.t (Go_sg bk_Couples_weighAll 50 3 (c2 := (some 61, [some (.ref 129), some (.int v1), some (.int v2), some (.int v3), some (.int (jmax v4 x10)), some (.int (v5 + (1 : Int32)))], [], σ)) (ps := []) rfl trivial) ?_
    have h := Option.some.inj h
    subst h
    exact Go.fg (LSub.cs (LSub.cs (LSub.cs (LSub.cs (LSub.cs (LSub.cs (LSub.nil)))))))
def Couples_weighAll_L61 (v1 : Int32) (v2 : Int32) (v3 : Int32) (σ : MH) (s : Int32 × Int32) : Option ((Int32)) := itr (fun s : Int32 × Int32 => Couples_weighAll_l61 v1 v2 v3 s.1 s.2 σ) FU s
set_option maxRecDepth 20000 in
set_option maxHeartbeats 2000000 in
theorem t_Couples_weighAll_L61 (v1 : Int32) (v2 : Int32) (v3 : Int32)  (σ : MH) (s : Int32 × Int32) {r} (h : Couples_weighAll_L61 v1 v2 v3 σ s = some r) : Go m_Couples_weighAll 3 (cH_Couples_weighAll_61 v1 v2 v3 σ s) (cR_Couples_weighAll_61 v1 v2 v3 σ r) := Go_itr (fun s o ho => t_Couples_weighAll_l61 v1 v2 v3 s.1 s.2 σ ho) FU s r h
def Couples_weighAll_l43 (v1 : Int32) (v2 : Int32) (v3 : Int32) (σ : MH) : Option (((Int32 × MH) ⊕ ((MH)))) := if v1 ≤ v3 then some (.inr (σ)) else ((Couples_bestOf (v2 + (1 : Int32)) v3 σ).bind fun x7 => (Couples_weighAll_L61 v1 v2 v3 σ (x7, (0 : Int32))).bind fun z14 => (Couples_setBest v2 v3 z14 σ).bind fun σ17 => some (.inl (v3 + (1 : Int32), σ17)))
set_option maxRecDepth 20000 in
set_option maxHeartbeats 2000000 in
theorem t_Couples_weighAll_l43 (v1 : Int32) (v2 : Int32) (v3 : Int32)  (σ : MH) {o} (h : Couples_weighAll_l43 v1 v2 v3 σ = some o) : Go m_Couples_weighAll 3 (cH_Couples_weighAll_43 v1 v2 (v3, σ)) (cS (cH_Couples_weighAll_43 v1 v2) (cR_Couples_weighAll_43 v1 v2) o) := by
  unfold Couples_weighAll_l43 at h
  unfold cH_Couples_weighAll_43
  refine Go.t (Go_sg bk_Couples_weighAll 27 2 (c2 := (some 45, [some (.ref 129), some (.int v1), some (.int v2), some (.int v3), none, none], [.int v1, .int v3], σ)) (ps := []) rfl trivial) ?_
  refine Go_icmp_ge bk_Couples_weighAll 29 rfl (fun c19 => ?_) (fun c19 => ?_)
  · have h := ifT c19 h
    have h := Option.some.inj h
    subst h
    exact Go.fg (LSub.cs (LSub.cs (LSub.cs (LSub.cn (LSub.cn (LSub.cn (LSub.nil)))))))
  · have h := ifF c19 h
    refine Go.t (Go_sg bk_Couples_weighAll 30 5 (c2 := (some 53, [some (.ref 129), some (.int v1), some (.int v2), some (.int v3), none, none], [.int v3, .int (v2 + (1 : Int32)), .ref 129], σ)) (ps := []) rfl trivial) ?_
    obtain ⟨x7, q9, h⟩ := bdS h
    refine Go.t (Go_callV bk_Couples_weighAll 35 rfl nk_Couples_bestOf tw1011 tw1013 tw24 (ci := 0) rfl (as := [.int (v2 + (1 : Int32)), .int v3]) (S := []) rfl rfl rfl rfl (Nat.le_of_ble_eq_true rfl) (Nat.le_of_ble_eq_true rfl) (ev_Couples_bestOf _ _ _ q9)) ?_
    refine Go.t (Go_sg bk_Couples_weighAll 36 3 (c2 := (some 61, [some (.ref 129), some (.int v1), some (.int v2), some (.int v3), some (.int x7), some (.int (0 : Int32))], [], σ)) (ps := []) rfl trivial) ?_
    obtain ⟨z14, q15, h⟩ := bdS h
    refine Go.t (Go.t (Go.fg (LSub.cs (LSub.cs (LSub.cs (LSub.cs (LSub.cs (LSub.cs (LSub.nil)))))))) (t_Couples_weighAll_L61 v1 v2 v3 σ _ q15)) ?_
    refine Go.t (Go_sg bk_Couples_weighAll 53 4 (c2 := (some 96, [some (.ref 129), some (.int v1), some (.int v2), some (.int v3), some (.int z14), none], [.int z14, .int v3, .int v2, .ref 129], σ)) (ps := []) rfl trivial) ?_
    obtain ⟨σ17, q18, h⟩ := bdS h
    refine Go.t (Go_callV bk_Couples_weighAll 57 rfl nk_Couples_setBest tw1007 tw1009 tw23 (ci := 0) rfl (as := [.int v2, .int v3, .int z14]) (S := []) rfl rfl rfl rfl (Nat.le_of_ble_eq_true rfl) (Nat.le_of_ble_eq_true rfl) (ev_Couples_setBest _ _ _ _ q18)) ?_
    refine Go.t (Go_sg bk_Couples_weighAll 58 2 (c2 := (some 43, [some (.ref 129), some (.int v1), some (.int v2), some (.int (v3 + (1 : Int32))), some (.int z14), none], [], σ17)) (ps := []) rfl trivial) ?_
    have h := Option.some.inj h
    subst h
    exact Go.fg (LSub.cs (LSub.cs (LSub.cs (LSub.cs (LSub.cn (LSub.cn (LSub.nil)))))))
def Couples_weighAll_L43 (v1 : Int32) (v2 : Int32) (s : Int32 × MH) : Option ((MH)) := itr (fun s : Int32 × MH => Couples_weighAll_l43 v1 v2 s.1 s.2) FU s
set_option maxRecDepth 20000 in
set_option maxHeartbeats 2000000 in
theorem t_Couples_weighAll_L43 (v1 : Int32) (v2 : Int32)  (s : Int32 × MH) {r} (h : Couples_weighAll_L43 v1 v2 s = some r) : Go m_Couples_weighAll 3 (cH_Couples_weighAll_43 v1 v2 s) (cR_Couples_weighAll_43 v1 v2 r) := Go_itr (fun s o ho => t_Couples_weighAll_l43 v1 v2 s.1 s.2 ho) FU s r h
def Couples_weighAll_l37 (v1 : Int32) (v2 : Int32) (σ : MH) : Option (((Int32 × MH) ⊕ ((MH)))) := if v2 < (0 : Int32) then some (.inr (σ)) else ((Couples_weighAll_L43 v1 v2 ((0 : Int32), σ)).bind fun z20 => some (.inl (v2 + (-1 : Int32), z20)))
set_option maxRecDepth 20000 in
set_option maxHeartbeats 2000000 in
theorem t_Couples_weighAll_l37 (v1 : Int32) (v2 : Int32)  (σ : MH) {o} (h : Couples_weighAll_l37 v1 v2 σ = some o) : Go m_Couples_weighAll 3 (cH_Couples_weighAll_37 v1 (v2, σ)) (cS (cH_Couples_weighAll_37 v1) (cR_Couples_weighAll_37 v1) o) := by
  unfold Couples_weighAll_l37 at h
  unfold cH_Couples_weighAll_37
  refine Go.t (Go_sg bk_Couples_weighAll 23 1 (c2 := (some 38, [some (.ref 129), some (.int v1), some (.int v2), none, none, none], [.int v2], σ)) (ps := []) rfl trivial) ?_
  refine Go_if_lt bk_Couples_weighAll 24 rfl (fun c22 => ?_) (fun c22 => ?_)
  · have h := ifT c22 h
    have h := Option.some.inj h
    subst h
    exact Go_ret0 bk_Couples_weighAll 62 rfl
  · have h := ifF c22 h
    refine Go.t (Go_sg bk_Couples_weighAll 25 2 (c2 := (some 43, [some (.ref 129), some (.int v1), some (.int v2), some (.int (0 : Int32)), none, none], [], σ)) (ps := []) rfl trivial) ?_
    obtain ⟨z20, q21, h⟩ := bdS h
    refine Go.t (Go.t (Go.fg (LSub.cs (LSub.cs (LSub.cs (LSub.cs (LSub.cn (LSub.cn (LSub.nil)))))))) (t_Couples_weighAll_L43 v1 v2 _ q21)) ?_
    refine Go.t (Go_sg bk_Couples_weighAll 60 2 (c2 := (some 37, [some (.ref 129), some (.int v1), some (.int (v2 + (-1 : Int32))), none, none, none], [], z20)) (ps := []) rfl trivial) ?_
    have h := Option.some.inj h
    subst h
    exact Go.fg (LSub.cs (LSub.cs (LSub.cs (LSub.cn (LSub.cn (LSub.cn (LSub.nil)))))))
def Couples_weighAll_L37 (v1 : Int32) (s : Int32 × MH) : Option ((MH)) := itr (fun s : Int32 × MH => Couples_weighAll_l37 v1 s.1 s.2) FU s
set_option maxRecDepth 20000 in
set_option maxHeartbeats 2000000 in
theorem t_Couples_weighAll_L37 (v1 : Int32)  (s : Int32 × MH) {r} (h : Couples_weighAll_L37 v1 s = some r) : Go m_Couples_weighAll 3 (cH_Couples_weighAll_37 v1 s) (cR_Couples_weighAll_37 v1 r) := Go_itr (fun s o ho => t_Couples_weighAll_l37 v1 s.1 s.2 ho) FU s r h
def Couples_weighAll0  (σ : MH) : Option (MH) := (Couples_weighAll_L9 (jshl (1 : Int32) (σ.1 129 7)) ((0 : Int32), σ)).bind fun z5 => (Couples_weighAll_L37 (jshl (1 : Int32) (σ.1 129 7)) ((z5.1 129 6) - (1 : Int32), z5)).bind fun z23 => some (z23)
set_option maxRecDepth 20000 in
set_option maxHeartbeats 2000000 in
theorem t_Couples_weighAll0   (σ : MH) {o} (h : Couples_weighAll0 σ = some o) : Go m_Couples_weighAll 3 (some 0, [some (.ref 129), none, none, none, none, none], [], σ) ((none, [], [], o)) := by
  unfold Couples_weighAll0 at h
  refine Go.t (Go_sg bk_Couples_weighAll 0 7 (c2 := (some 9, [some (.ref 129), some (.int (jshl (1 : Int32) (σ.1 129 7))), some (.int (0 : Int32)), none, none, none], [], σ)) (ps := [shk 129 = 0]) rfl ⟨rfl, trivial⟩) ?_
  obtain ⟨z5, q6, h⟩ := bdS h
  refine Go.t (Go.t (Go.fg (LSub.cs (LSub.cs (LSub.cs (LSub.cn (LSub.cn (LSub.cn (LSub.nil)))))))) (t_Couples_weighAll_L9 (jshl (1 : Int32) (σ.1 129 7)) _ q6)) ?_
  refine Go.t (Go_sg bk_Couples_weighAll 18 5 (c2 := (some 37, [some (.ref 129), some (.int (jshl (1 : Int32) (σ.1 129 7))), some (.int ((z5.1 129 6) - (1 : Int32))), none, none, none], [], z5)) (ps := [shk 129 = 0]) rfl ⟨rfl, trivial⟩) ?_
  obtain ⟨z23, q24, h⟩ := bdS h
  refine Go.t (Go.t (Go.fg (LSub.cs (LSub.cs (LSub.cs (LSub.cn (LSub.cn (LSub.cn (LSub.nil)))))))) (t_Couples_weighAll_L37 (jshl (1 : Int32) (σ.1 129 7)) _ q24)) ?_
  have h := Option.some.inj h
  subst h
  exact Go.rf
def Couples_weighAll  (σ : MH) : Option (MH) := Couples_weighAll0 σ
set_option maxRecDepth 20000 in
set_option maxHeartbeats 2000000 in
theorem ev_Couples_weighAll   (σ : MH) {o} (h : Couples_weighAll σ = some o) : Ev m_Couples_weighAll 3 [.ref 129] σ none o := Ev.of2 (by decide +kernel) rfl (Nat.le_of_ble_eq_true rfl) rfl (t_Couples_weighAll0 σ h)
def cH_Couples_choose_2 (v1 : Int32) (v2 : Int32) (σ : MH) (s : Int32) : MC := (some 2, [some (.ref 129), some (.int v1), some (.int v2), some (.int s)], [], σ)
def cR_Couples_choose_2 (v1 : Int32) (v2 : Int32) (σ : MH) : ((Int32)) → MC := (fun r : Int32 => ((none, [], [.int r], σ) : MC))
def Couples_choose_l2 (v1 : Int32) (v2 : Int32) (v3 : Int32) (σ : MH) : Option (((Int32) ⊕ ((Int32)))) := if σ.1 129 7 ≤ v3 then some (.inr ((-1 : Int32))) else ((Couples_withBond v1 v3 v2 σ).bind fun x1 => (Couples_bestOf v1 v2 σ).bind fun x4 => if x1 = x4 then some (.inr (v3)) else some (.inl (v3 + (1 : Int32))))
set_option maxRecDepth 20000 in
set_option maxHeartbeats 2000000 in
theorem t_Couples_choose_l2 (v1 : Int32) (v2 : Int32) (v3 : Int32)  (σ : MH) {o} (h : Couples_choose_l2 v1 v2 v3 σ = some o) : Go m_Couples_choose 3 (cH_Couples_choose_2 v1 v2 σ (v3)) (cS (cH_Couples_choose_2 v1 v2 σ) (cR_Couples_choose_2 v1 v2 σ) o) := by
  unfold Couples_choose_l2 at h
  unfold cH_Couples_choose_2
  refine Go.t (Go_sg bk_Couples_choose 2 3 (c2 := (some 7, [some (.ref 129), some (.int v1), some (.int v2), some (.int v3)], [.int (σ.1 129 7), .int v3], σ)) (ps := [shk 129 = 0]) rfl ⟨rfl, trivial⟩) ?_
  refine Go_icmp_ge bk_Couples_choose 5 rfl (fun c8 => ?_) (fun c8 => ?_)
  · have h := ifT c8 h
    have h := Option.some.inj h
    subst h
    refine Go.t (Go_sg bk_Couples_choose 20 1 (c2 := (some 35, [some (.ref 129), some (.int v1), some (.int v2), some (.int v3)], [.int (-1 : Int32)], σ)) (ps := []) rfl trivial) ?_
    exact Go_reti bk_Couples_choose 21 rfl
  · have h := ifF c8 h
    refine Go.t (Go_sg bk_Couples_choose 6 4 (c2 := (some 14, [some (.ref 129), some (.int v1), some (.int v2), some (.int v3)], [.int v2, .int v3, .int v1, .ref 129], σ)) (ps := []) rfl trivial) ?_
    obtain ⟨x1, q3, h⟩ := bdS h
    refine Go.t (Go_callV bk_Couples_choose 10 rfl nk_Couples_withBond tw1015 tw1017 tw25 (ci := 0) rfl (as := [.int v1, .int v3, .int v2]) (S := []) rfl rfl rfl rfl (Nat.le_of_ble_eq_true rfl) (Nat.le_of_ble_eq_true rfl) (ev_Couples_withBond _ _ _ _ q3)) ?_
    refine Go.t (Go_sg bk_Couples_choose 11 3 (c2 := (some 20, [some (.ref 129), some (.int v1), some (.int v2), some (.int v3)], [.int v2, .int v1, .ref 129, .int x1], σ)) (ps := []) rfl trivial) ?_
    obtain ⟨x4, q6, h⟩ := bdS h
    refine Go.t (Go_callV bk_Couples_choose 14 rfl nk_Couples_bestOf tw1011 tw1013 tw24 (ci := 0) rfl (as := [.int v1, .int v2]) (S := [.int x1]) rfl rfl rfl rfl (Nat.le_of_ble_eq_true rfl) (Nat.le_of_ble_eq_true rfl) (ev_Couples_bestOf _ _ _ q6)) ?_
    refine Go_icmp_ne bk_Couples_choose 15 rfl (fun c7 => ?_) (fun c7 => ?_)
    · have h := ifF c7 h
      refine Go.t (Go_sg bk_Couples_choose 18 2 (c2 := (some 2, [some (.ref 129), some (.int v1), some (.int v2), some (.int (v3 + (1 : Int32)))], [], σ)) (ps := []) rfl trivial) ?_
      have h := Option.some.inj h
      subst h
      exact Go.fg (LSub.cs (LSub.cs (LSub.cs (LSub.cs (LSub.nil)))))
    · have h := ifT c7 h
      have h := Option.some.inj h
      subst h
      refine Go.t (Go_sg bk_Couples_choose 16 1 (c2 := (some 27, [some (.ref 129), some (.int v1), some (.int v2), some (.int v3)], [.int v3], σ)) (ps := []) rfl trivial) ?_
      exact Go_reti bk_Couples_choose 17 rfl
def Couples_choose_L2 (v1 : Int32) (v2 : Int32) (σ : MH) (s : Int32) : Option ((Int32)) := itr (fun s : Int32 => Couples_choose_l2 v1 v2 s σ) FU s
set_option maxRecDepth 20000 in
set_option maxHeartbeats 2000000 in
theorem t_Couples_choose_L2 (v1 : Int32) (v2 : Int32)  (σ : MH) (s : Int32) {r} (h : Couples_choose_L2 v1 v2 σ s = some r) : Go m_Couples_choose 3 (cH_Couples_choose_2 v1 v2 σ s) (cR_Couples_choose_2 v1 v2 σ r) := Go_itr (fun s o ho => t_Couples_choose_l2 v1 v2 s σ ho) FU s r h
def Couples_choose0 (v1 : Int32) (v2 : Int32) (σ : MH) : Option (Int32) := (Couples_choose_L2 v1 v2 σ ((0 : Int32))).bind fun z9 => some (z9)
set_option maxRecDepth 20000 in
set_option maxHeartbeats 2000000 in
theorem t_Couples_choose0 (v1 : Int32) (v2 : Int32)  (σ : MH) {o} (h : Couples_choose0 v1 v2 σ = some o) : Go m_Couples_choose 3 (some 0, [some (.ref 129), some (.int v1), some (.int v2), none], [], σ) ((none, [], [.int o], σ)) := by
  unfold Couples_choose0 at h
  refine Go.t (Go_sg bk_Couples_choose 0 2 (c2 := (some 2, [some (.ref 129), some (.int v1), some (.int v2), some (.int (0 : Int32))], [], σ)) (ps := []) rfl trivial) ?_
  obtain ⟨z9, q10, h⟩ := bdS h
  refine Go.t (Go.t (Go.fg (LSub.cs (LSub.cs (LSub.cs (LSub.cs (LSub.nil)))))) (t_Couples_choose_L2 v1 v2 σ _ q10)) ?_
  have h := Option.some.inj h
  subst h
  exact Go.rf
def Couples_choose (v1 : Int32) (v2 : Int32) (σ : MH) : Option (Int32) := Couples_choose0 v1 v2 σ
set_option maxRecDepth 20000 in
set_option maxHeartbeats 2000000 in
theorem ev_Couples_choose (v1 : Int32) (v2 : Int32)  (σ : MH) {o} (h : Couples_choose v1 v2 σ = some o) : Ev m_Couples_choose 3 [.ref 129, .int v1, .int v2] σ (some (.int o)) σ := Ev.of2 (by decide +kernel) rfl (Nat.le_of_ble_eq_true rfl) ⟨.int, rfl, rfl⟩ (t_Couples_choose0 v1 v2 σ h)
def cH_Couples_findMost_7 (v1 : Nat) (s : Int32 × MH) : MC := (some 7, [some (.ref 129), some (.ref v1), some (.int s.1), none, none], [], s.2)
def cR_Couples_findMost_7 (v1 : Nat) : ((MH)) → MC := (fun r : MH => ((some 100, [some (.ref 129), none, none, none, none], [], r) : MC))
def cH_Couples_findMost_17 (v1 : Nat) (v2 : Int32) (s : Int32 × MH) : MC := (some 17, [some (.ref 129), some (.ref v1), some (.int v2), some (.int s.1), none], [], s.2)
def cR_Couples_findMost_17 (v1 : Nat) (v2 : Int32) : ((MH)) → MC := (fun r : MH => ((some 94, [some (.ref 129), some (.ref v1), some (.int v2), none, none], [], r) : MC))
def Couples_findMost_b87 (v1 : Nat) (v2 : Int32) (v3 : Int32) (s0 : Int32) (s1 : Int32) (s2 : Nat) (σ : MH) : Option (((Int32 × MH) ⊕ ((MH)))) := if inb s1 12 = true then some (.inl (v3 + (1 : Int32), sI σ s2 s1.toNatClampNeg s0)) else none
set_option maxRecDepth 20000 in
set_option maxHeartbeats 2000000 in
theorem t_Couples_findMost_b87 (v1 : Nat) (v2 : Int32) (v3 : Int32) (s0 : Int32) (s1 : Int32) (s2 : Nat) (hv1 : isLd v1) (hs2 : IA s2 12)  (σ : MH) {o} (h : Couples_findMost_b87 v1 v2 v3 s0 s1 s2 σ = some o) : Go m_Couples_findMost 6 (some 87, [some (.ref 129), some (.ref v1), some (.int v2), some (.int v3), none], [.int s0, .int s1, .ref s2], σ) (cS (cH_Couples_findMost_17 v1 v2) (cR_Couples_findMost_17 v1 v2) o) := by
  unfold Couples_findMost_b87 at h
  obtain ⟨g9, h⟩ := gdS h
  refine Go.t (Go_sg bk_Couples_findMost 51 3 (c2 := (some 17, [some (.ref 129), some (.ref v1), some (.int v2), some (.int (v3 + (1 : Int32))), none], [], sI σ s2 s1.toNatClampNeg s0)) (ps := [IA s2 12 ∧ inb s1 12 = true]) rfl ⟨⟨hs2, g9⟩, trivial⟩) ?_
  have h := Option.some.inj h
  subst h
  exact Go.fg (LSub.cs (LSub.cs (LSub.cs (LSub.cs (LSub.cn (LSub.nil))))))
def Couples_findMost_l17 (v1 : Nat) (v2 : Int32) (v3 : Int32) (σ : MH) : Option (((Int32 × MH) ⊕ ((MH)))) := if σ.1 129 7 ≤ v3 then some (.inr (σ)) else (if inb v2 12 = true then if inb v3 12 = true then (Judge_fit v1 (σ.1 131 v2.toNatClampNeg) (σ.1 132 v3.toNatClampNeg) σ).bind fun (x6, σ7) => if x6 = (0 : Int32) then (Couples_findMost_b87 v1 v2 v3 (0 : Int32) v3 (rfv 133 v2.toNatClampNeg) σ7) else ((Judge_slackOf v1 (σ7.1 131 v2.toNatClampNeg) (σ7.1 132 v3.toNatClampNeg) σ7).bind fun x10 => Couples_findMost_b87 v1 v2 v3 ((10000 : Int32) - x10) v3 (rfv 133 v2.toNatClampNeg) σ7) else none else none)
set_option maxRecDepth 20000 in
set_option maxHeartbeats 2000000 in
theorem t_Couples_findMost_l17 (v1 : Nat) (v2 : Int32) (v3 : Int32) (hv1 : isLd v1) (σ : MH) {o} (h : Couples_findMost_l17 v1 v2 v3 σ = some o) : Go m_Couples_findMost 6 (cH_Couples_findMost_17 v1 v2 (v3, σ)) (cS (cH_Couples_findMost_17 v1 v2) (cR_Couples_findMost_17 v1 v2) o) := by
  unfold Couples_findMost_l17 at h
  unfold cH_Couples_findMost_17
  refine Go.t (Go_sg bk_Couples_findMost 11 3 (c2 := (some 22, [some (.ref 129), some (.ref v1), some (.int v2), some (.int v3), none], [.int (σ.1 129 7), .int v3], σ)) (ps := [shk 129 = 0]) rfl ⟨rfl, trivial⟩) ?_
  refine Go_icmp_ge bk_Couples_findMost 14 rfl (fun c14 => ?_) (fun c14 => ?_)
  · have h := ifT c14 h
    have h := Option.some.inj h
    subst h
    exact Go.fg (LSub.cs (LSub.cs (LSub.cs (LSub.cn (LSub.cn (LSub.nil))))))
  · have h := ifF c14 h
    obtain ⟨g4, h⟩ := gdS h
    obtain ⟨g5, h⟩ := gdS h
    refine Go.t (Go_sg bk_Couples_findMost 15 11 (c2 := (some 42, [some (.ref 129), some (.ref v1), some (.int v2), some (.int v3), none], [.int (σ.1 132 v3.toNatClampNeg), .int (σ.1 131 v2.toNatClampNeg), .ref v1, .ref 126], σ)) (ps := [shk 129 = 0, shk 129 = 0, IA 131 12 ∧ inb v2 12 = true, shk 129 = 0, IA 132 12 ∧ inb v3 12 = true]) rfl ⟨rfl, rfl, ⟨⟨rfl, rfl⟩, g4⟩, rfl, ⟨⟨rfl, rfl⟩, g5⟩, trivial⟩) ?_
    obtain ⟨⟨x6, σ7⟩, q8, h⟩ := bdS h
    dsimp only at h
    refine Go.t (Go_callV bk_Couples_findMost 26 rfl nk_Judge_fit tw1001 tw864 tw865 (ci := 2) rfl (as := [.ref v1, .int (σ.1 131 v2.toNatClampNeg), .int (σ.1 132 v3.toNatClampNeg)]) (S := []) rfl rfl rfl rfl (Nat.le_of_ble_eq_true rfl) (Nat.le_of_ble_eq_true rfl) (ev_Judge_fit _ _ _ hv1 _ q8)) ?_
    refine Go.t (Go_sg bk_Couples_findMost 27 7 (c2 := (some 56, [some (.ref 129), some (.ref v1), some (.int v2), some (.int v3), some (.int x6)], [.int x6, .int v3, .ref (rfv 133 v2.toNatClampNeg)], σ7)) (ps := [shk 129 = 0, IR 133 12 ∧ inb v2 12 = true]) rfl ⟨rfl, ⟨⟨rfl, rfl⟩, g4⟩, trivial⟩) ?_
    refine Go_if_eq bk_Couples_findMost 34 rfl (fun c13 => ?_) (fun c13 => ?_)
    · have h := ifT c13 h
      refine Go.t (Go_sg bk_Couples_findMost 50 1 (c2 := (some 87, [some (.ref 129), some (.ref v1), some (.int v2), some (.int v3), some (.int x6)], [.int (0 : Int32), .int v3, .ref (rfv 133 v2.toNatClampNeg)], σ7)) (ps := []) rfl trivial) ?_
      exact Go.t (Go.fg (LSub.cs (LSub.cs (LSub.cs (LSub.cs (LSub.cn (LSub.nil))))))) (t_Couples_findMost_b87 v1 v2 v3 (0 : Int32) v3 (rfv 133 v2.toNatClampNeg) hv1 (rw_133 g4) σ7 h)
    · have h := ifF c13 h
      refine Go.t (Go_sg bk_Couples_findMost 35 12 (c2 := (some 79, [some (.ref 129), some (.ref v1), some (.int v2), some (.int v3), some (.int x6)], [.int (σ7.1 132 v3.toNatClampNeg), .int (σ7.1 131 v2.toNatClampNeg), .ref v1, .ref 126, .int (10000 : Int32), .int v3, .ref (rfv 133 v2.toNatClampNeg)], σ7)) (ps := [shk 129 = 0, shk 129 = 0, IA 131 12 ∧ inb v2 12 = true, shk 129 = 0, IA 132 12 ∧ inb v3 12 = true]) rfl ⟨rfl, rfl, ⟨⟨rfl, rfl⟩, g4⟩, rfl, ⟨⟨rfl, rfl⟩, g5⟩, trivial⟩) ?_
      obtain ⟨x10, q12, h⟩ := bdS h
      refine Go.t (Go_callV bk_Couples_findMost 47 rfl nk_Judge_slackOf tw1002 tw868 tw869 (ci := 2) rfl (as := [.ref v1, .int (σ7.1 131 v2.toNatClampNeg), .int (σ7.1 132 v3.toNatClampNeg)]) (S := [.int (10000 : Int32), .int v3, .ref (rfv 133 v2.toNatClampNeg)]) rfl rfl rfl rfl (Nat.le_of_ble_eq_true rfl) (Nat.le_of_ble_eq_true rfl) (ev_Judge_slackOf _ _ _ hv1 _ q12)) ?_
      refine Go.t (Go_sg bk_Couples_findMost 48 2 (c2 := (some 87, [some (.ref 129), some (.ref v1), some (.int v2), some (.int v3), some (.int x6)], [.int ((10000 : Int32) - x10), .int v3, .ref (rfv 133 v2.toNatClampNeg)], σ7)) (ps := []) rfl trivial) ?_
      exact Go.t (Go.fg (LSub.cs (LSub.cs (LSub.cs (LSub.cs (LSub.cn (LSub.nil))))))) (t_Couples_findMost_b87 v1 v2 v3 ((10000 : Int32) - x10) v3 (rfv 133 v2.toNatClampNeg) hv1 (rw_133 g4) σ7 h)
def Couples_findMost_L17 (v1 : Nat) (v2 : Int32) (s : Int32 × MH) : Option ((MH)) := itr (fun s : Int32 × MH => Couples_findMost_l17 v1 v2 s.1 s.2) FU s
set_option maxRecDepth 20000 in
set_option maxHeartbeats 2000000 in
theorem t_Couples_findMost_L17 (v1 : Nat) (v2 : Int32) (hv1 : isLd v1) (s : Int32 × MH) {r} (h : Couples_findMost_L17 v1 v2 s = some r) : Go m_Couples_findMost 6 (cH_Couples_findMost_17 v1 v2 s) (cR_Couples_findMost_17 v1 v2 r) := Go_itr (fun s o ho => t_Couples_findMost_l17 v1 v2 s.1 hv1 s.2 ho) FU s r h
def Couples_findMost_l7 (v1 : Nat) (v2 : Int32) (σ : MH) : Option (((Int32 × MH) ⊕ ((MH)))) := if σ.1 129 6 ≤ v2 then some (.inr (σ)) else ((Couples_findMost_L17 v1 v2 ((0 : Int32), σ)).bind fun z15 => some (.inl (v2 + (1 : Int32), z15)))
set_option maxRecDepth 20000 in
set_option maxHeartbeats 2000000 in
theorem t_Couples_findMost_l7 (v1 : Nat) (v2 : Int32) (hv1 : isLd v1) (σ : MH) {o} (h : Couples_findMost_l7 v1 v2 σ = some o) : Go m_Couples_findMost 6 (cH_Couples_findMost_7 v1 (v2, σ)) (cS (cH_Couples_findMost_7 v1) (cR_Couples_findMost_7 v1) o) := by
  unfold Couples_findMost_l7 at h
  unfold cH_Couples_findMost_7
  refine Go.t (Go_sg bk_Couples_findMost 5 3 (c2 := (some 12, [some (.ref 129), some (.ref v1), some (.int v2), none, none], [.int (σ.1 129 6), .int v2], σ)) (ps := [shk 129 = 0]) rfl ⟨rfl, trivial⟩) ?_
  refine Go_icmp_ge bk_Couples_findMost 8 rfl (fun c17 => ?_) (fun c17 => ?_)
  · have h := ifT c17 h
    have h := Option.some.inj h
    subst h
    exact Go.fg (LSub.cs (LSub.cn (LSub.cn (LSub.cn (LSub.cn (LSub.nil))))))
  · have h := ifF c17 h
    refine Go.t (Go_sg bk_Couples_findMost 9 2 (c2 := (some 17, [some (.ref 129), some (.ref v1), some (.int v2), some (.int (0 : Int32)), none], [], σ)) (ps := []) rfl trivial) ?_
    obtain ⟨z15, q16, h⟩ := bdS h
    refine Go.t (Go.t (Go.fg (LSub.cs (LSub.cs (LSub.cs (LSub.cs (LSub.cn (LSub.nil))))))) (t_Couples_findMost_L17 v1 v2 hv1 _ q16)) ?_
    refine Go.t (Go_sg bk_Couples_findMost 54 2 (c2 := (some 7, [some (.ref 129), some (.ref v1), some (.int (v2 + (1 : Int32))), none, none], [], z15)) (ps := []) rfl trivial) ?_
    have h := Option.some.inj h
    subst h
    exact Go.fg (LSub.cs (LSub.cs (LSub.cs (LSub.cn (LSub.cn (LSub.nil))))))
def Couples_findMost_L7 (v1 : Nat) (s : Int32 × MH) : Option ((MH)) := itr (fun s : Int32 × MH => Couples_findMost_l7 v1 s.1 s.2) FU s
set_option maxRecDepth 20000 in
set_option maxHeartbeats 2000000 in
theorem t_Couples_findMost_L7 (v1 : Nat) (hv1 : isLd v1) (s : Int32 × MH) {r} (h : Couples_findMost_L7 v1 s = some r) : Go m_Couples_findMost 6 (cH_Couples_findMost_7 v1 s) (cR_Couples_findMost_7 v1 r) := Go_itr (fun s o ho => t_Couples_findMost_l7 v1 s.1 hv1 s.2 ho) FU s r h
def cH_Couples_findMost_108  (s : Int32 × Int32 × MH) : MC := (some 108, [some (.ref 129), none, some (.int s.1), some (.int s.2.1), none], [], s.2.2)
def cR_Couples_findMost_108  : ((MH)) → MC := (fun r : MH => ((none, [], [], r) : MC))
def Couples_findMost_b195 (v2 : Int32) (v3 : Int32) (σ : MH) : Option (((Int32 × Int32 × MH) ⊕ ((MH)))) := some (.inl (v2, v3 + (1 : Int32), σ))
set_option maxRecDepth 20000 in
set_option maxHeartbeats 2000000 in
theorem t_Couples_findMost_b195 (v2 : Int32) (v3 : Int32)   (σ : MH) {o} (h : Couples_findMost_b195 v2 v3 σ = some o) : Go m_Couples_findMost 6 (some 195, [some (.ref 129), none, some (.int v2), some (.int v3), none], [], σ) (cS (cH_Couples_findMost_108 ) (cR_Couples_findMost_108 ) o) := by
  unfold Couples_findMost_b195 at h
  refine Go.t (Go_sg bk_Couples_findMost 113 2 (c2 := (some 108, [some (.ref 129), none, some (.int v2), some (.int (v3 + (1 : Int32))), none], [], σ)) (ps := []) rfl trivial) ?_
  have h := Option.some.inj h
  subst h
  exact Go.fg (LSub.cs (LSub.cn (LSub.cs (LSub.cs (LSub.cn (LSub.nil))))))
def Couples_findMost_l108 (v2 : Int32) (v3 : Int32) (σ : MH) : Option (((Int32 × Int32 × MH) ⊕ ((MH)))) := if σ.1 129 6 ≤ v3 then some (.inr (σ)) else ((Couples_choose v3 v2 σ).bind fun x23 => if x23 < (0 : Int32) then (Couples_findMost_b195 v2 v3 σ) else (if σ.1 129 7 ≤ x23 then (Couples_findMost_b195 v2 v3 σ) else (if inb v3 12 = true then if inb x23 12 = true then if inb ((sI (sI σ 129 2 ((σ.1 129 2) + (1 : Int32))) 129 3 (((sI σ 129 2 ((σ.1 129 2) + (1 : Int32))).1 129 3) + ((10000 : Int32) - ((sI σ 129 2 ((σ.1 129 2) + (1 : Int32))).1 (rfv 133 v3.toNatClampNeg) x23.toNatClampNeg)))).1 131 v3.toNatClampNeg) 12 = true then Couples_findMost_b195 (v2 ||| (jshl (1 : Int32) x23)) v3 (sI (sI (sI σ 129 2 ((σ.1 129 2) + (1 : Int32))) 129 3 (((sI σ 129 2 ((σ.1 129 2) + (1 : Int32))).1 129 3) + ((10000 : Int32) - ((sI σ 129 2 ((σ.1 129 2) + (1 : Int32))).1 (rfv 133 v3.toNatClampNeg) x23.toNatClampNeg)))) 130 ((sI (sI σ 129 2 ((σ.1 129 2) + (1 : Int32))) 129 3 (((sI σ 129 2 ((σ.1 129 2) + (1 : Int32))).1 129 3) + ((10000 : Int32) - ((sI σ 129 2 ((σ.1 129 2) + (1 : Int32))).1 (rfv 133 v3.toNatClampNeg) x23.toNatClampNeg)))).1 131 v3.toNatClampNeg).toNatClampNeg ((sI (sI σ 129 2 ((σ.1 129 2) + (1 : Int32))) 129 3 (((sI σ 129 2 ((σ.1 129 2) + (1 : Int32))).1 129 3) + ((10000 : Int32) - ((sI σ 129 2 ((σ.1 129 2) + (1 : Int32))).1 (rfv 133 v3.toNatClampNeg) x23.toNatClampNeg)))).1 132 x23.toNatClampNeg)) else none else none else none)))
set_option maxRecDepth 20000 in
set_option maxHeartbeats 2000000 in
theorem t_Couples_findMost_l108 (v2 : Int32) (v3 : Int32)  (σ : MH) {o} (h : Couples_findMost_l108 v2 v3 σ = some o) : Go m_Couples_findMost 6 (cH_Couples_findMost_108  (v2, v3, σ)) (cS (cH_Couples_findMost_108 ) (cR_Couples_findMost_108 ) o) := by
  unfold Couples_findMost_l108 at h
  unfold cH_Couples_findMost_108
  refine Go.t (Go_sg bk_Couples_findMost 62 3 (c2 := (some 113, [some (.ref 129), none, some (.int v2), some (.int v3), none], [.int (σ.1 129 6), .int v3], σ)) (ps := [shk 129 = 0]) rfl ⟨rfl, trivial⟩) ?_
  refine Go_icmp_ge bk_Couples_findMost 65 rfl (fun c31 => ?_) (fun c31 => ?_)
  · have h := ifT c31 h
    have h := Option.some.inj h
    subst h
    exact Go_ret0 bk_Couples_findMost 115 rfl
  · have h := ifF c31 h
    refine Go.t (Go_sg bk_Couples_findMost 66 3 (c2 := (some 119, [some (.ref 129), none, some (.int v2), some (.int v3), none], [.int v2, .int v3, .ref 129], σ)) (ps := []) rfl trivial) ?_
    obtain ⟨x23, q25, h⟩ := bdS h
    refine Go.t (Go_callV bk_Couples_findMost 69 rfl nk_Couples_choose tw1020 tw1022 tw26 (ci := 0) rfl (as := [.int v3, .int v2]) (S := []) rfl rfl rfl rfl (Nat.le_of_ble_eq_true rfl) (Nat.le_of_ble_eq_true rfl) (ev_Couples_choose _ _ _ q25)) ?_
    refine Go.t (Go_sg bk_Couples_findMost 70 2 (c2 := (some 126, [some (.ref 129), none, some (.int v2), some (.int v3), some (.int x23)], [.int x23], σ)) (ps := []) rfl trivial) ?_
    refine Go_if_lt bk_Couples_findMost 72 rfl (fun c30 => ?_) (fun c30 => ?_)
    · have h := ifT c30 h
      exact Go.t (Go.fg (LSub.cs (LSub.cn (LSub.cs (LSub.cs (LSub.cn (LSub.nil))))))) (t_Couples_findMost_b195 v2 v3 σ h)
    · have h := ifF c30 h
      refine Go.t (Go_sg bk_Couples_findMost 73 3 (c2 := (some 135, [some (.ref 129), none, some (.int v2), some (.int v3), some (.int x23)], [.int (σ.1 129 7), .int x23], σ)) (ps := [shk 129 = 0]) rfl ⟨rfl, trivial⟩) ?_
      refine Go_icmp_ge bk_Couples_findMost 76 rfl (fun c29 => ?_) (fun c29 => ?_)
      · have h := ifT c29 h
        exact Go.t (Go.fg (LSub.cs (LSub.cn (LSub.cs (LSub.cs (LSub.cn (LSub.nil))))))) (t_Couples_findMost_b195 v2 v3 σ h)
      · have h := ifF c29 h
        obtain ⟨g26, h⟩ := gdS h
        obtain ⟨g27, h⟩ := gdS h
        obtain ⟨g28, h⟩ := gdS h
        refine Go.t (Go_sg bk_Couples_findMost 77 36 (c2 := (some 195, [some (.ref 129), none, some (.int (v2 ||| (jshl (1 : Int32) x23))), some (.int v3), some (.int x23)], [], sI (sI (sI σ 129 2 ((σ.1 129 2) + (1 : Int32))) 129 3 (((sI σ 129 2 ((σ.1 129 2) + (1 : Int32))).1 129 3) + ((10000 : Int32) - ((sI σ 129 2 ((σ.1 129 2) + (1 : Int32))).1 (rfv 133 v3.toNatClampNeg) x23.toNatClampNeg)))) 130 ((sI (sI σ 129 2 ((σ.1 129 2) + (1 : Int32))) 129 3 (((sI σ 129 2 ((σ.1 129 2) + (1 : Int32))).1 129 3) + ((10000 : Int32) - ((sI σ 129 2 ((σ.1 129 2) + (1 : Int32))).1 (rfv 133 v3.toNatClampNeg) x23.toNatClampNeg)))).1 131 v3.toNatClampNeg).toNatClampNeg ((sI (sI σ 129 2 ((σ.1 129 2) + (1 : Int32))) 129 3 (((sI σ 129 2 ((σ.1 129 2) + (1 : Int32))).1 129 3) + ((10000 : Int32) - ((sI σ 129 2 ((σ.1 129 2) + (1 : Int32))).1 (rfv 133 v3.toNatClampNeg) x23.toNatClampNeg)))).1 132 x23.toNatClampNeg))) (ps := [shk 129 = 0, shk 129 = 0, shk 129 = 0, shk 129 = 0, IR 133 12 ∧ inb v3 12 = true, IA (rfv 133 v3.toNatClampNeg) 12 ∧ inb x23 12 = true, shk 129 = 0, shk 129 = 0, shk 129 = 0, IA 131 12 ∧ inb v3 12 = true, shk 129 = 0, IA 132 12 ∧ inb x23 12 = true, IA 130 12 ∧ inb ((sI (sI σ 129 2 ((σ.1 129 2) + (1 : Int32))) 129 3 (((sI σ 129 2 ((σ.1 129 2) + (1 : Int32))).1 129 3) + ((10000 : Int32) - ((sI σ 129 2 ((σ.1 129 2) + (1 : Int32))).1 (rfv 133 v3.toNatClampNeg) x23.toNatClampNeg)))).1 131 v3.toNatClampNeg) 12 = true]) rfl ⟨rfl, rfl, rfl, rfl, ⟨⟨rfl, rfl⟩, g26⟩, ⟨(rw_133 g26), g27⟩, rfl, rfl, rfl, ⟨⟨rfl, rfl⟩, g26⟩, rfl, ⟨⟨rfl, rfl⟩, g27⟩, ⟨⟨rfl, rfl⟩, g28⟩, trivial⟩) ?_
        exact Go.t (Go.fg (LSub.cs (LSub.cn (LSub.cs (LSub.cs (LSub.cn (LSub.nil))))))) (t_Couples_findMost_b195 (v2 ||| (jshl (1 : Int32) x23)) v3 (sI (sI (sI σ 129 2 ((σ.1 129 2) + (1 : Int32))) 129 3 (((sI σ 129 2 ((σ.1 129 2) + (1 : Int32))).1 129 3) + ((10000 : Int32) - ((sI σ 129 2 ((σ.1 129 2) + (1 : Int32))).1 (rfv 133 v3.toNatClampNeg) x23.toNatClampNeg)))) 130 ((sI (sI σ 129 2 ((σ.1 129 2) + (1 : Int32))) 129 3 (((sI σ 129 2 ((σ.1 129 2) + (1 : Int32))).1 129 3) + ((10000 : Int32) - ((sI σ 129 2 ((σ.1 129 2) + (1 : Int32))).1 (rfv 133 v3.toNatClampNeg) x23.toNatClampNeg)))).1 131 v3.toNatClampNeg).toNatClampNeg ((sI (sI σ 129 2 ((σ.1 129 2) + (1 : Int32))) 129 3 (((sI σ 129 2 ((σ.1 129 2) + (1 : Int32))).1 129 3) + ((10000 : Int32) - ((sI σ 129 2 ((σ.1 129 2) + (1 : Int32))).1 (rfv 133 v3.toNatClampNeg) x23.toNatClampNeg)))).1 132 x23.toNatClampNeg)) h)
def Couples_findMost_L108  (s : Int32 × Int32 × MH) : Option ((MH)) := itr (fun s : Int32 × Int32 × MH => Couples_findMost_l108 s.1 s.2.1 s.2.2) FU s
set_option maxRecDepth 20000 in
set_option maxHeartbeats 2000000 in
theorem t_Couples_findMost_L108   (s : Int32 × Int32 × MH) {r} (h : Couples_findMost_L108  s = some r) : Go m_Couples_findMost 6 (cH_Couples_findMost_108  s) (cR_Couples_findMost_108  r) := Go_itr (fun s o ho => t_Couples_findMost_l108 s.1 s.2.1 s.2.2 ho) FU s r h
def Couples_findMost0 (v1 : Nat) (σ : MH) : Option (MH) := (Couples_gather v1 σ).bind fun σ2 => (Couples_findMost_L7 v1 ((0 : Int32), σ2)).bind fun z18 => (Couples_weighAll z18).bind fun σ21 => (Couples_findMost_L108 ((0 : Int32), (0 : Int32), σ21)).bind fun z32 => some (z32)
set_option maxRecDepth 20000 in
set_option maxHeartbeats 2000000 in
theorem t_Couples_findMost0 (v1 : Nat) (hv1 : isLd v1) (σ : MH) {o} (h : Couples_findMost0 v1 σ = some o) : Go m_Couples_findMost 6 (some 0, [some (.ref 129), some (.ref v1), none, none, none], [], σ) ((none, [], [], o)) := by
  unfold Couples_findMost0 at h
  refine Go.t (Go_sg bk_Couples_findMost 0 2 (c2 := (some 2, [some (.ref 129), some (.ref v1), none, none, none], [.ref v1, .ref 129], σ)) (ps := []) rfl trivial) ?_
  obtain ⟨σ2, q3, h⟩ := bdS h
  refine Go.t (Go_callV bk_Couples_findMost 2 rfl nk_Couples_gather tw996 tw998 tw21 (ci := 0) rfl (as := [.ref v1]) (S := []) rfl rfl rfl rfl (Nat.le_of_ble_eq_true rfl) (Nat.le_of_ble_eq_true rfl) (ev_Couples_gather _ hv1 _ q3)) ?_
  refine Go.t (Go_sg bk_Couples_findMost 3 2 (c2 := (some 7, [some (.ref 129), some (.ref v1), some (.int (0 : Int32)), none, none], [], σ2)) (ps := []) rfl trivial) ?_
  obtain ⟨z18, q19, h⟩ := bdS h
  refine Go.t (Go.t (Go.fg (LSub.cs (LSub.cs (LSub.cs (LSub.cn (LSub.cn (LSub.nil))))))) (t_Couples_findMost_L7 v1 hv1 _ q19)) ?_
  refine Go.t (Go_sg bk_Couples_findMost 56 1 (c2 := (some 101, [some (.ref 129), none, none, none, none], [.ref 129], z18)) (ps := []) rfl trivial) ?_
  obtain ⟨σ21, q22, h⟩ := bdS h
  refine Go.t (Go_callV bk_Couples_findMost 57 rfl nk_Couples_weighAll tw1003 tw1005 tw22 (ci := 0) rfl (as := []) (S := []) rfl rfl rfl rfl (Nat.le_of_ble_eq_true rfl) (Nat.le_of_ble_eq_true rfl) (ev_Couples_weighAll _ q22)) ?_
  refine Go.t (Go_sg bk_Couples_findMost 58 4 (c2 := (some 108, [some (.ref 129), none, some (.int (0 : Int32)), some (.int (0 : Int32)), none], [], σ21)) (ps := []) rfl trivial) ?_
  obtain ⟨z32, q33, h⟩ := bdS h
  refine Go.t (Go.t (Go.fg (LSub.cs (LSub.cn (LSub.cs (LSub.cs (LSub.cn (LSub.nil))))))) (t_Couples_findMost_L108 _ q33)) ?_
  have h := Option.some.inj h
  subst h
  exact Go.rf
def Couples_findMost (v1 : Nat) (σ : MH) : Option (MH) := Couples_findMost0 v1 σ
set_option maxRecDepth 20000 in
set_option maxHeartbeats 2000000 in
theorem ev_Couples_findMost (v1 : Nat) (hv1 : isLd v1) (σ : MH) {o} (h : Couples_findMost v1 σ = some o) : Ev m_Couples_findMost 6 [.ref 129, .ref v1] σ none o := Ev.of2 (by decide +kernel) rfl (Nat.le_of_ble_eq_true rfl) rfl (t_Couples_findMost0 v1 hv1 σ h)
def Pz_most_b47 (v1 : Int32) (v2 : Int32) (σ : MH) : Option (Int32 × MH) := (Couples_findMost 1 σ).bind fun σ5 => if v1 = (20 : Int32) then some (σ5.1 129 2, σ5) else (if v1 = (21 : Int32) then some (σ5.1 129 3, σ5) else (if v2 = (0 : Int32) then some ((-1 : Int32), σ5) else (if inb v1 12 = true then some (σ5.1 130 v1.toNatClampNeg, σ5) else none)))
set_option maxRecDepth 20000 in
set_option maxHeartbeats 2000000 in
theorem t_Pz_most_b47 (v1 : Int32) (v2 : Int32)   (σ : MH) {o} (h : Pz_most_b47 v1 v2 σ = some o) : Go m_Pz_most 7 (some 47, [some (.ref 0), some (.int v1), some (.int v2)], [], σ) ((none, [], [.int o.1], o.2)) := by
  unfold Pz_most_b47 at h
  refine Go.t (Go_sg bk_Pz_most 25 4 (c2 := (some 55, [some (.ref 0), some (.int v1), some (.int v2)], [.ref 1, .ref 129], σ)) (ps := [shk 0 = 10, shk 0 = 10]) rfl ⟨rfl, rfl, trivial⟩) ?_
  obtain ⟨σ5, q6, h⟩ := bdS h
  refine Go.t (Go_callV bk_Pz_most 29 rfl nk_Couples_findMost tw992 tw993 tw994 (ci := 0) rfl (as := [.ref 1]) (S := []) rfl rfl rfl rfl (Nat.le_of_ble_eq_true rfl) (Nat.le_of_ble_eq_true rfl) (ev_Couples_findMost _ (Or.inl rfl) _ q6)) ?_
  refine Go.t (Go_sg bk_Pz_most 30 2 (c2 := (some 61, [some (.ref 0), some (.int v1), some (.int v2)], [.int (20 : Int32), .int v1], σ5)) (ps := []) rfl trivial) ?_
  refine Go_icmp_ne bk_Pz_most 32 rfl (fun c10 => ?_) (fun c10 => ?_)
  · have h := ifF c10 h
    refine Go.t (Go_sg bk_Pz_most 37 2 (c2 := (some 75, [some (.ref 0), some (.int v1), some (.int v2)], [.int (21 : Int32), .int v1], σ5)) (ps := []) rfl trivial) ?_
    refine Go_icmp_ne bk_Pz_most 39 rfl (fun c9 => ?_) (fun c9 => ?_)
    · have h := ifF c9 h
      refine Go.t (Go_sg bk_Pz_most 44 1 (c2 := (some 87, [some (.ref 0), some (.int v1), some (.int v2)], [.int v2], σ5)) (ps := []) rfl trivial) ?_
      refine Go_if_eq bk_Pz_most 45 rfl (fun c8 => ?_) (fun c8 => ?_)
      · have h := ifT c8 h
        have h := Option.some.inj h
        subst h
        refine Go.t (Go_sg bk_Pz_most 52 1 (c2 := (some 103, [some (.ref 0), some (.int v1), some (.int v2)], [.int (-1 : Int32)], σ5)) (ps := []) rfl trivial) ?_
        exact Go_reti bk_Pz_most 53 rfl
      · have h := ifF c8 h
        obtain ⟨g7, h⟩ := gdS h
        refine Go.t (Go_sg bk_Pz_most 46 6 (c2 := (some 103, [some (.ref 0), some (.int v1), some (.int v2)], [.int (σ5.1 130 v1.toNatClampNeg)], σ5)) (ps := [shk 0 = 10, shk 129 = 0, IA 130 12 ∧ inb v1 12 = true]) rfl ⟨rfl, rfl, ⟨⟨rfl, rfl⟩, g7⟩, trivial⟩) ?_
        have h := Option.some.inj h
        subst h
        exact Go_reti bk_Pz_most 53 rfl
    · have h := ifT c9 h
      have h := Option.some.inj h
      subst h
      refine Go.t (Go_sg bk_Pz_most 40 3 (c2 := (some 85, [some (.ref 0), some (.int v1), some (.int v2)], [.int (σ5.1 129 3)], σ5)) (ps := [shk 0 = 10, shk 129 = 0]) rfl ⟨rfl, rfl, trivial⟩) ?_
      exact Go_reti bk_Pz_most 43 rfl
  · have h := ifT c10 h
    have h := Option.some.inj h
    subst h
    refine Go.t (Go_sg bk_Pz_most 33 3 (c2 := (some 71, [some (.ref 0), some (.int v1), some (.int v2)], [.int (σ5.1 129 2)], σ5)) (ps := [shk 0 = 10, shk 129 = 0]) rfl ⟨rfl, rfl, trivial⟩) ?_
    exact Go_reti bk_Pz_most 36 rfl
def Pz_most_b28 (v1 : Int32) (s0 : Int32) (σ : MH) : Option (Int32 × MH) := if v1 = (20 : Int32) then (Pz_most_b47 v1 s0 σ) else (if v1 = (21 : Int32) then (Pz_most_b47 v1 s0 σ) else (if s0 = (0 : Int32) then some ((-1 : Int32), σ) else (Pz_most_b47 v1 s0 σ)))
set_option maxRecDepth 20000 in
set_option maxHeartbeats 2000000 in
theorem t_Pz_most_b28 (v1 : Int32) (s0 : Int32)   (σ : MH) {o} (h : Pz_most_b28 v1 s0 σ = some o) : Go m_Pz_most 7 (some 28, [some (.ref 0), some (.int v1), none], [.int s0], σ) ((none, [], [.int o.1], o.2)) := by
  unfold Pz_most_b28 at h
  refine Go.t (Go_sg bk_Pz_most 14 3 (c2 := (some 32, [some (.ref 0), some (.int v1), some (.int s0)], [.int (20 : Int32), .int v1], σ)) (ps := []) rfl trivial) ?_
  refine Go_icmp_eq bk_Pz_most 17 rfl (fun c13 => ?_) (fun c13 => ?_)
  · have h := ifT c13 h
    exact Go.t (Go.fg (LSub.cs (LSub.cs (LSub.cs (LSub.nil))))) (t_Pz_most_b47 v1 s0 σ h)
  · have h := ifF c13 h
    refine Go.t (Go_sg bk_Pz_most 18 2 (c2 := (some 38, [some (.ref 0), some (.int v1), some (.int s0)], [.int (21 : Int32), .int v1], σ)) (ps := []) rfl trivial) ?_
    refine Go_icmp_eq bk_Pz_most 20 rfl (fun c12 => ?_) (fun c12 => ?_)
    · have h := ifT c12 h
      exact Go.t (Go.fg (LSub.cs (LSub.cs (LSub.cs (LSub.nil))))) (t_Pz_most_b47 v1 s0 σ h)
    · have h := ifF c12 h
      refine Go.t (Go_sg bk_Pz_most 21 1 (c2 := (some 42, [some (.ref 0), some (.int v1), some (.int s0)], [.int s0], σ)) (ps := []) rfl trivial) ?_
      refine Go_if_ne bk_Pz_most 22 rfl (fun c11 => ?_) (fun c11 => ?_)
      · have h := ifF c11 h
        exact Go.t (Go.fg (LSub.cs (LSub.cs (LSub.cs (LSub.nil))))) (t_Pz_most_b47 v1 s0 σ h)
      · have h := ifT c11 h
        have h := Option.some.inj h
        subst h
        refine Go.t (Go_sg bk_Pz_most 23 1 (c2 := (some 46, [some (.ref 0), some (.int v1), some (.int s0)], [.int (-1 : Int32)], σ)) (ps := []) rfl trivial) ?_
        exact Go_reti bk_Pz_most 24 rfl
def Pz_most_b27 (v1 : Int32) (σ : MH) : Option (Int32 × MH) := Pz_most_b28 v1 (0 : Int32) σ
set_option maxRecDepth 20000 in
set_option maxHeartbeats 2000000 in
theorem t_Pz_most_b27 (v1 : Int32)   (σ : MH) {o} (h : Pz_most_b27 v1 σ = some o) : Go m_Pz_most 7 (some 27, [some (.ref 0), some (.int v1), none], [], σ) ((none, [], [.int o.1], o.2)) := by
  unfold Pz_most_b27 at h
  refine Go.t (Go_sg bk_Pz_most 13 1 (c2 := (some 28, [some (.ref 0), some (.int v1), none], [.int (0 : Int32)], σ)) (ps := []) rfl trivial) ?_
  exact Go.t (Go.fg (LSub.cs (LSub.cs (LSub.cn (LSub.nil))))) (t_Pz_most_b28 v1 (0 : Int32) σ h)
def Pz_most0 (v1 : Int32) (σ : MH) : Option (Int32 × MH) := (Land_isAlive 1 v1 σ).bind fun x1 => if x1 = (0 : Int32) then (Pz_most_b27 v1 σ) else (if inb v1 12 = true then if σ.1 2 v1.toNatClampNeg = (0 : Int32) then (Pz_most_b28 v1 (1 : Int32) σ) else (Pz_most_b27 v1 σ) else none)
set_option maxRecDepth 20000 in
set_option maxHeartbeats 2000000 in
theorem t_Pz_most0 (v1 : Int32)  (σ : MH) {o} (h : Pz_most0 v1 σ = some o) : Go m_Pz_most 7 (some 0, [some (.ref 0), some (.int v1), none], [], σ) ((none, [], [.int o.1], o.2)) := by
  unfold Pz_most0 at h
  refine Go.t (Go_sg bk_Pz_most 0 3 (c2 := (some 5, [some (.ref 0), some (.int v1), none], [.int v1, .ref 1], σ)) (ps := [shk 0 = 10]) rfl ⟨rfl, trivial⟩) ?_
  obtain ⟨x1, q3, h⟩ := bdS h
  refine Go.t (Go_callV bk_Pz_most 3 rfl nk_Land_isAlive tw568 tw569 tw570 (ci := 3) rfl (as := [.int v1]) (S := []) rfl rfl rfl rfl (Nat.le_of_ble_eq_true rfl) (Nat.le_of_ble_eq_true rfl) (ev_Land_isAlive _ _ (Or.inl rfl) _ q3)) ?_
  refine Go_if_eq bk_Pz_most 4 rfl (fun c16 => ?_) (fun c16 => ?_)
  · have h := ifT c16 h
    exact Go.t (Go.fg (LSub.cs (LSub.cs (LSub.cn (LSub.nil))))) (t_Pz_most_b27 v1 σ h)
  · have h := ifF c16 h
    obtain ⟨g14, h⟩ := gdS h
    refine Go.t (Go_sg bk_Pz_most 5 5 (c2 := (some 20, [some (.ref 0), some (.int v1), none], [.int (σ.1 2 v1.toNatClampNeg)], σ)) (ps := [shk 0 = 10, shk 1 = 3, IA 2 12 ∧ inb v1 12 = true]) rfl ⟨rfl, rfl, ⟨⟨rfl, rfl⟩, g14⟩, trivial⟩) ?_
    refine Go_if_ne bk_Pz_most 10 rfl (fun c15 => ?_) (fun c15 => ?_)
    · have h := ifF c15 h
      exact Go.t (Go.fg (LSub.cs (LSub.cs (LSub.cn (LSub.nil))))) (t_Pz_most_b27 v1 σ h)
    · have h := ifT c15 h
      refine Go.t (Go_sg bk_Pz_most 11 2 (c2 := (some 28, [some (.ref 0), some (.int v1), none], [.int (1 : Int32)], σ)) (ps := []) rfl trivial) ?_
      exact Go.t (Go.fg (LSub.cs (LSub.cs (LSub.cn (LSub.nil))))) (t_Pz_most_b28 v1 (1 : Int32) σ h)
def Pz_most (v1 : Int32) (σ : MH) : Option (Int32 × MH) := Pz_most0 v1 σ
set_option maxRecDepth 20000 in
set_option maxHeartbeats 2000000 in
theorem ev_Pz_most (v1 : Int32)  (σ : MH) {o} (h : Pz_most v1 σ = some o) : Ev m_Pz_most 7 [.ref 0, .int v1] σ (some (.int o.1)) o.2 := Ev.of2 (by decide +kernel) rfl (Nat.le_of_ble_eq_true rfl) ⟨.int, rfl, rfl⟩ (t_Pz_most0 v1 σ h)
def Couples_prefers_b15 (v1 : Int32) (v2 : Int32) (σ : MH) : Option (Int32) := if inb v1 12 = true then if inb v2 12 = true then if σ.1 (rfv 133 v1.toNatClampNeg) v2.toNatClampNeg ≤ (0 : Int32) then some ((0 : Int32)) else some ((1 : Int32)) else none else none
set_option maxRecDepth 20000 in
set_option maxHeartbeats 2000000 in
theorem t_Couples_prefers_b15 (v1 : Int32) (v2 : Int32)   (σ : MH) {o} (h : Couples_prefers_b15 v1 v2 σ = some o) : Go m_Couples_prefers 1 (some 15, [some (.ref 129), some (.int v1), some (.int v2), none], [], σ) ((none, [], [.int o], σ)) := by
  unfold Couples_prefers_b15 at h
  obtain ⟨g3, h⟩ := gdS h
  obtain ⟨g4, h⟩ := gdS h
  refine Go.t (Go_sg bk_Couples_prefers 9 6 (c2 := (some 23, [some (.ref 129), some (.int v1), some (.int v2), none], [.int (σ.1 (rfv 133 v1.toNatClampNeg) v2.toNatClampNeg)], σ)) (ps := [shk 129 = 0, IR 133 12 ∧ inb v1 12 = true, IA (rfv 133 v1.toNatClampNeg) 12 ∧ inb v2 12 = true]) rfl ⟨rfl, ⟨⟨rfl, rfl⟩, g3⟩, ⟨(rw_133 g3), g4⟩, trivial⟩) ?_
  refine Go_if_le bk_Couples_prefers 15 rfl (fun c5 => ?_) (fun c5 => ?_)
  · have h := ifT c5 h
    have h := Option.some.inj h
    subst h
    refine Go.t (Go_sg bk_Couples_prefers 18 1 (c2 := (some 31, [some (.ref 129), some (.int v1), some (.int v2), none], [.int (0 : Int32)], σ)) (ps := []) rfl trivial) ?_
    exact Go_reti bk_Couples_prefers 19 rfl
  · have h := ifF c5 h
    refine Go.t (Go_sg bk_Couples_prefers 16 2 (c2 := (some 31, [some (.ref 129), some (.int v1), some (.int v2), none], [.int (1 : Int32)], σ)) (ps := []) rfl trivial) ?_
    have h := Option.some.inj h
    subst h
    exact Go_reti bk_Couples_prefers 19 rfl
def Couples_prefers_b75  (σ : MH) : Option (Int32) := some ((1 : Int32))
set_option maxRecDepth 20000 in
set_option maxHeartbeats 2000000 in
theorem t_Couples_prefers_b75    (σ : MH) {o} (h : Couples_prefers_b75 σ = some o) : Go m_Couples_prefers 1 (some 75, [none, none, none, none], [], σ) ((none, [], [.int o], σ)) := by
  unfold Couples_prefers_b75 at h
  refine Go.t (Go_sg bk_Couples_prefers 49 2 (c2 := (some 80, [none, none, none, none], [.int (1 : Int32)], σ)) (ps := []) rfl trivial) ?_
  have h := Option.some.inj h
  subst h
  exact Go_reti bk_Couples_prefers 52 rfl
def Couples_prefers0 (v1 : Int32) (v2 : Int32) (v3 : Int32) (σ : MH) : Option (Int32) := if inb v1 12 = true then if inb v2 12 = true then if σ.1 (rfv 133 v1.toNatClampNeg) v2.toNatClampNeg = (0 : Int32) then (Couples_prefers_b15 v1 v2 σ) else (if (0 : Int32) ≤ v3 then (if inb v3 12 = true then if σ.1 (rfv 133 v1.toNatClampNeg) v3.toNatClampNeg < σ.1 (rfv 133 v1.toNatClampNeg) v2.toNatClampNeg then (Couples_prefers_b75 σ) else (if σ.1 (rfv 133 v1.toNatClampNeg) v2.toNatClampNeg = σ.1 (rfv 133 v1.toNatClampNeg) v3.toNatClampNeg then (if v3 ≤ v2 then some ((0 : Int32)) else (Couples_prefers_b75 σ)) else some ((0 : Int32))) else none) else (Couples_prefers_b15 v1 v2 σ)) else none else none
set_option maxRecDepth 20000 in
set_option maxHeartbeats 2000000 in
theorem t_Couples_prefers0 (v1 : Int32) (v2 : Int32) (v3 : Int32)  (σ : MH) {o} (h : Couples_prefers0 v1 v2 v3 σ = some o) : Go m_Couples_prefers 1 (some 0, [some (.ref 129), some (.int v1), some (.int v2), some (.int v3)], [], σ) ((none, [], [.int o], σ)) := by
  unfold Couples_prefers0 at h
  obtain ⟨g1, h⟩ := gdS h
  obtain ⟨g2, h⟩ := gdS h
  refine Go.t (Go_sg bk_Couples_prefers 0 6 (c2 := (some 8, [some (.ref 129), some (.int v1), some (.int v2), some (.int v3)], [.int (σ.1 (rfv 133 v1.toNatClampNeg) v2.toNatClampNeg)], σ)) (ps := [shk 129 = 0, IR 133 12 ∧ inb v1 12 = true, IA (rfv 133 v1.toNatClampNeg) 12 ∧ inb v2 12 = true]) rfl ⟨rfl, ⟨⟨rfl, rfl⟩, g1⟩, ⟨(rw_133 g1), g2⟩, trivial⟩) ?_
  refine Go_if_eq bk_Couples_prefers 6 rfl (fun c11 => ?_) (fun c11 => ?_)
  · have h := ifT c11 h
    exact Go.t (Go.fg (LSub.cs (LSub.cs (LSub.cs (LSub.cn (LSub.nil)))))) (t_Couples_prefers_b15 v1 v2 σ h)
  · have h := ifF c11 h
    refine Go.t (Go_sg bk_Couples_prefers 7 1 (c2 := (some 12, [some (.ref 129), some (.int v1), some (.int v2), some (.int v3)], [.int v3], σ)) (ps := []) rfl trivial) ?_
    refine Go_if_ge bk_Couples_prefers 8 rfl (fun c10 => ?_) (fun c10 => ?_)
    · have h := ifT c10 h
      obtain ⟨g6, h⟩ := gdS h
      refine Go.t (Go_sg bk_Couples_prefers 20 12 (c2 := (some 48, [some (.ref 129), some (.int v1), some (.int v2), some (.int v3)], [.int (σ.1 (rfv 133 v1.toNatClampNeg) v3.toNatClampNeg), .int (σ.1 (rfv 133 v1.toNatClampNeg) v2.toNatClampNeg)], σ)) (ps := [shk 129 = 0, IR 133 12 ∧ inb v1 12 = true, IA (rfv 133 v1.toNatClampNeg) 12 ∧ inb v2 12 = true, shk 129 = 0, IR 133 12 ∧ inb v1 12 = true, IA (rfv 133 v1.toNatClampNeg) 12 ∧ inb v3 12 = true]) rfl ⟨rfl, ⟨⟨rfl, rfl⟩, g1⟩, ⟨(rw_133 g1), g2⟩, rfl, ⟨⟨rfl, rfl⟩, g1⟩, ⟨(rw_133 g1), g6⟩, trivial⟩) ?_
      refine Go_icmp_gt bk_Couples_prefers 32 rfl (fun c9 => ?_) (fun c9 => ?_)
      · have h := ifT c9 h
        exact Go.t (Go.fg (LSub.cn (LSub.cn (LSub.cn (LSub.cn (LSub.nil)))))) (t_Couples_prefers_b75 σ h)
      · have h := ifF c9 h
        refine Go.t (Go_sg bk_Couples_prefers 33 12 (c2 := (some 67, [some (.ref 129), some (.int v1), some (.int v2), some (.int v3)], [.int (σ.1 (rfv 133 v1.toNatClampNeg) v3.toNatClampNeg), .int (σ.1 (rfv 133 v1.toNatClampNeg) v2.toNatClampNeg)], σ)) (ps := [shk 129 = 0, IR 133 12 ∧ inb v1 12 = true, IA (rfv 133 v1.toNatClampNeg) 12 ∧ inb v2 12 = true, shk 129 = 0, IR 133 12 ∧ inb v1 12 = true, IA (rfv 133 v1.toNatClampNeg) 12 ∧ inb v3 12 = true]) rfl ⟨rfl, ⟨⟨rfl, rfl⟩, g1⟩, ⟨(rw_133 g1), g2⟩, rfl, ⟨⟨rfl, rfl⟩, g1⟩, ⟨(rw_133 g1), g6⟩, trivial⟩) ?_
        refine Go_icmp_ne bk_Couples_prefers 45 rfl (fun c8 => ?_) (fun c8 => ?_)
        · have h := ifF c8 h
          have h := Option.some.inj h
          subst h
          refine Go.t (Go_sg bk_Couples_prefers 51 1 (c2 := (some 80, [some (.ref 129), some (.int v1), some (.int v2), some (.int v3)], [.int (0 : Int32)], σ)) (ps := []) rfl trivial) ?_
          exact Go_reti bk_Couples_prefers 52 rfl
        · have h := ifT c8 h
          refine Go.t (Go_sg bk_Couples_prefers 46 2 (c2 := (some 72, [some (.ref 129), some (.int v1), some (.int v2), some (.int v3)], [.int v3, .int v2], σ)) (ps := []) rfl trivial) ?_
          refine Go_icmp_ge bk_Couples_prefers 48 rfl (fun c7 => ?_) (fun c7 => ?_)
          · have h := ifT c7 h
            have h := Option.some.inj h
            subst h
            refine Go.t (Go_sg bk_Couples_prefers 51 1 (c2 := (some 80, [some (.ref 129), some (.int v1), some (.int v2), some (.int v3)], [.int (0 : Int32)], σ)) (ps := []) rfl trivial) ?_
            exact Go_reti bk_Couples_prefers 52 rfl
          · have h := ifF c7 h
            exact Go.t (Go.fg (LSub.cn (LSub.cn (LSub.cn (LSub.cn (LSub.nil)))))) (t_Couples_prefers_b75 σ h)
    · have h := ifF c10 h
      exact Go.t (Go.fg (LSub.cs (LSub.cs (LSub.cs (LSub.cn (LSub.nil)))))) (t_Couples_prefers_b15 v1 v2 σ h)
def Couples_prefers (v1 : Int32) (v2 : Int32) (v3 : Int32) (σ : MH) : Option (Int32) := bzp (Couples_prefers0 v1 v2 v3 σ)
set_option maxRecDepth 20000 in
set_option maxHeartbeats 2000000 in
theorem ev_Couples_prefers (v1 : Int32) (v2 : Int32) (v3 : Int32)  (σ : MH) {o} (h : Couples_prefers v1 v2 v3 σ = some o) : Ev m_Couples_prefers 1 [.ref 129, .int v1, .int v2, .int v3] σ (some (.int o)) σ := Ev.of2 (by decide +kernel) rfl (Nat.le_of_ble_eq_true rfl) ⟨.boolean, rfl, nrB (bzp2 h)⟩ (t_Couples_prefers0 v1 v2 v3 σ (bzp1 h))
def cH_Couples_askNext_4 (v1 : Int32) (σ : MH) (s : Int32 × Int32) : MC := (some 4, [some (.ref 129), some (.int v1), some (.int s.1), some (.int s.2), none, none], [], σ)
def cR_Couples_askNext_4 (v1 : Int32) (σ : MH) : ((Int32)) → MC := (fun r : Int32 => ((some 91, [some (.ref 129), some (.int v1), some (.int r), none, none, none], [], σ) : MC))
def Couples_askNext_b85 (v1 : Int32) (v2 : Int32) (v3 : Int32) (σ : MH) : Option (((Int32 × Int32) ⊕ ((Int32)))) := some (.inl (v2, v3 + (1 : Int32)))
set_option maxRecDepth 20000 in
set_option maxHeartbeats 2000000 in
theorem t_Couples_askNext_b85 (v1 : Int32) (v2 : Int32) (v3 : Int32)   (σ : MH) {o} (h : Couples_askNext_b85 v1 v2 v3 σ = some o) : Go m_Couples_askNext 2 (some 85, [some (.ref 129), some (.int v1), some (.int v2), some (.int v3), none, none], [], σ) (cS (cH_Couples_askNext_4 v1 σ) (cR_Couples_askNext_4 v1 σ) o) := by
  unfold Couples_askNext_b85 at h
  refine Go.t (Go_sg bk_Couples_askNext 52 2 (c2 := (some 4, [some (.ref 129), some (.int v1), some (.int v2), some (.int (v3 + (1 : Int32))), none, none], [], σ)) (ps := []) rfl trivial) ?_
  have h := Option.some.inj h
  subst h
  exact Go.fg (LSub.cs (LSub.cs (LSub.cs (LSub.cs (LSub.cn (LSub.cn (LSub.nil)))))))
def Couples_askNext_b82 (v1 : Int32) (v3 : Int32) (v4 : Int32) (σ : MH) : Option (((Int32 × Int32) ⊕ ((Int32)))) := Couples_askNext_b85 v1 v4 v3 σ
set_option maxRecDepth 20000 in
set_option maxHeartbeats 2000000 in
theorem t_Couples_askNext_b82 (v1 : Int32) (v3 : Int32) (v4 : Int32)   (σ : MH) {o} (h : Couples_askNext_b82 v1 v3 v4 σ = some o) : Go m_Couples_askNext 2 (some 82, [some (.ref 129), some (.int v1), none, some (.int v3), some (.int v4), none], [], σ) (cS (cH_Couples_askNext_4 v1 σ) (cR_Couples_askNext_4 v1 σ) o) := by
  unfold Couples_askNext_b82 at h
  refine Go.t (Go_sg bk_Couples_askNext 50 2 (c2 := (some 85, [some (.ref 129), some (.int v1), some (.int v4), some (.int v3), some (.int v4), none], [], σ)) (ps := []) rfl trivial) ?_
  exact Go.t (Go.fg (LSub.cs (LSub.cs (LSub.cs (LSub.cs (LSub.cn (LSub.cn (LSub.nil)))))))) (t_Couples_askNext_b85 v1 v4 v3 σ h)
def Couples_askNext_b51 (v1 : Int32) (v2 : Int32) (v3 : Int32) (v4 : Int32) (s0 : Int32) (σ : MH) : Option (((Int32 × Int32) ⊕ ((Int32)))) := if s0 = (0 : Int32) then (Couples_askNext_b85 v1 v2 v3 σ) else (if v2 < (0 : Int32) then (Couples_askNext_b82 v1 v3 v4 σ) else (if inb v1 12 = true then if inb v4 12 = true then if inb v2 12 = true then if σ.1 (rfv 133 v1.toNatClampNeg) v4.toNatClampNeg ≤ σ.1 (rfv 133 v1.toNatClampNeg) v2.toNatClampNeg then (Couples_askNext_b85 v1 v2 v3 σ) else (Couples_askNext_b82 v1 v3 v4 σ) else none else none else none))
set_option maxRecDepth 20000 in
set_option maxHeartbeats 2000000 in
theorem t_Couples_askNext_b51 (v1 : Int32) (v2 : Int32) (v3 : Int32) (v4 : Int32) (s0 : Int32)   (σ : MH) {o} (h : Couples_askNext_b51 v1 v2 v3 v4 s0 σ = some o) : Go m_Couples_askNext 2 (some 51, [some (.ref 129), some (.int v1), some (.int v2), some (.int v3), some (.int v4), none], [.int s0], σ) (cS (cH_Couples_askNext_4 v1 σ) (cR_Couples_askNext_4 v1 σ) o) := by
  unfold Couples_askNext_b51 at h
  refine Go.t (Go_sg bk_Couples_askNext 32 2 (c2 := (some 55, [some (.ref 129), some (.int v1), some (.int v2), some (.int v3), some (.int v4), some (.int s0)], [.int s0], σ)) (ps := []) rfl trivial) ?_
  refine Go_if_eq bk_Couples_askNext 34 rfl (fun c8 => ?_) (fun c8 => ?_)
  · have h := ifT c8 h
    exact Go.t (Go.fg (LSub.cs (LSub.cs (LSub.cs (LSub.cs (LSub.cn (LSub.cn (LSub.nil)))))))) (t_Couples_askNext_b85 v1 v2 v3 σ h)
  · have h := ifF c8 h
    refine Go.t (Go_sg bk_Couples_askNext 35 1 (c2 := (some 59, [some (.ref 129), some (.int v1), some (.int v2), some (.int v3), some (.int v4), some (.int s0)], [.int v2], σ)) (ps := []) rfl trivial) ?_
    refine Go_if_lt bk_Couples_askNext 36 rfl (fun c7 => ?_) (fun c7 => ?_)
    · have h := ifT c7 h
      exact Go.t (Go.fg (LSub.cs (LSub.cs (LSub.cn (LSub.cs (LSub.cs (LSub.cn (LSub.nil)))))))) (t_Couples_askNext_b82 v1 v3 v4 σ h)
    · have h := ifF c7 h
      obtain ⟨g3, h⟩ := gdS h
      obtain ⟨g4, h⟩ := gdS h
      obtain ⟨g5, h⟩ := gdS h
      refine Go.t (Go_sg bk_Couples_askNext 37 12 (c2 := (some 79, [some (.ref 129), some (.int v1), some (.int v2), some (.int v3), some (.int v4), some (.int s0)], [.int (σ.1 (rfv 133 v1.toNatClampNeg) v2.toNatClampNeg), .int (σ.1 (rfv 133 v1.toNatClampNeg) v4.toNatClampNeg)], σ)) (ps := [shk 129 = 0, IR 133 12 ∧ inb v1 12 = true, IA (rfv 133 v1.toNatClampNeg) 12 ∧ inb v4 12 = true, shk 129 = 0, IR 133 12 ∧ inb v1 12 = true, IA (rfv 133 v1.toNatClampNeg) 12 ∧ inb v2 12 = true]) rfl ⟨rfl, ⟨⟨rfl, rfl⟩, g3⟩, ⟨(rw_133 g3), g4⟩, rfl, ⟨⟨rfl, rfl⟩, g3⟩, ⟨(rw_133 g3), g5⟩, trivial⟩) ?_
      refine Go_icmp_le bk_Couples_askNext 49 rfl (fun c6 => ?_) (fun c6 => ?_)
      · have h := ifT c6 h
        exact Go.t (Go.fg (LSub.cs (LSub.cs (LSub.cs (LSub.cs (LSub.cn (LSub.cn (LSub.nil)))))))) (t_Couples_askNext_b85 v1 v2 v3 σ h)
      · have h := ifF c6 h
        exact Go.t (Go.fg (LSub.cs (LSub.cs (LSub.cn (LSub.cs (LSub.cs (LSub.cn (LSub.nil)))))))) (t_Couples_askNext_b82 v1 v3 v4 σ h)
def Couples_askNext_b50 (v1 : Int32) (v2 : Int32) (v3 : Int32) (v4 : Int32) (σ : MH) : Option (((Int32 × Int32) ⊕ ((Int32)))) := Couples_askNext_b51 v1 v2 v3 v4 (0 : Int32) σ
set_option maxRecDepth 20000 in
set_option maxHeartbeats 2000000 in
theorem t_Couples_askNext_b50 (v1 : Int32) (v2 : Int32) (v3 : Int32) (v4 : Int32)   (σ : MH) {o} (h : Couples_askNext_b50 v1 v2 v3 v4 σ = some o) : Go m_Couples_askNext 2 (some 50, [some (.ref 129), some (.int v1), some (.int v2), some (.int v3), some (.int v4), none], [], σ) (cS (cH_Couples_askNext_4 v1 σ) (cR_Couples_askNext_4 v1 σ) o) := by
  unfold Couples_askNext_b50 at h
  refine Go.t (Go_sg bk_Couples_askNext 31 1 (c2 := (some 51, [some (.ref 129), some (.int v1), some (.int v2), some (.int v3), some (.int v4), none], [.int (0 : Int32)], σ)) (ps := []) rfl trivial) ?_
  exact Go.t (Go.fg (LSub.cs (LSub.cs (LSub.cs (LSub.cs (LSub.cs (LSub.cn (LSub.nil)))))))) (t_Couples_askNext_b51 v1 v2 v3 v4 (0 : Int32) σ h)
def Couples_askNext_l4 (v1 : Int32) (v2 : Int32) (v3 : Int32) (σ : MH) : Option (((Int32 × Int32) ⊕ ((Int32)))) := if σ.1 129 7 ≤ v3 then some (.inr (v2)) else (if inb v3 12 = true then if inb v1 12 = true then if (jshr (σ.1 147 v1.toNatClampNeg) (σ.1 132 v3.toNatClampNeg)) &&& (1 : Int32) = (0 : Int32) then (if inb (σ.1 132 v3.toNatClampNeg) 12 = true then if σ.1 (rfv 133 v1.toNatClampNeg) (σ.1 132 v3.toNatClampNeg).toNatClampNeg ≤ (0 : Int32) then (Couples_askNext_b50 v1 v2 v3 (σ.1 132 v3.toNatClampNeg) σ) else (Couples_askNext_b51 v1 v2 v3 (σ.1 132 v3.toNatClampNeg) (1 : Int32) σ) else none) else (Couples_askNext_b50 v1 v2 v3 (σ.1 132 v3.toNatClampNeg) σ) else none else none)
set_option maxRecDepth 20000 in
set_option maxHeartbeats 2000000 in
theorem t_Couples_askNext_l4 (v1 : Int32) (v2 : Int32) (v3 : Int32)  (σ : MH) {o} (h : Couples_askNext_l4 v1 v2 v3 σ = some o) : Go m_Couples_askNext 2 (cH_Couples_askNext_4 v1 σ (v2, v3)) (cS (cH_Couples_askNext_4 v1 σ) (cR_Couples_askNext_4 v1 σ) o) := by
  unfold Couples_askNext_l4 at h
  unfold cH_Couples_askNext_4
  refine Go.t (Go_sg bk_Couples_askNext 4 3 (c2 := (some 9, [some (.ref 129), some (.int v1), some (.int v2), some (.int v3), none, none], [.int (σ.1 129 7), .int v3], σ)) (ps := [shk 129 = 0]) rfl ⟨rfl, trivial⟩) ?_
  refine Go_icmp_ge bk_Couples_askNext 7 rfl (fun c12 => ?_) (fun c12 => ?_)
  · have h := ifT c12 h
    have h := Option.some.inj h
    subst h
    exact Go.fg (LSub.cs (LSub.cs (LSub.cs (LSub.cn (LSub.cn (LSub.cn (LSub.nil)))))))
  · have h := ifF c12 h
    obtain ⟨g1, h⟩ := gdS h
    obtain ⟨g2, h⟩ := gdS h
    refine Go.t (Go_sg bk_Couples_askNext 8 13 (c2 := (some 31, [some (.ref 129), some (.int v1), some (.int v2), some (.int v3), some (.int (σ.1 132 v3.toNatClampNeg)), none], [.int ((jshr (σ.1 147 v1.toNatClampNeg) (σ.1 132 v3.toNatClampNeg)) &&& (1 : Int32))], σ)) (ps := [shk 129 = 0, IA 132 12 ∧ inb v3 12 = true, shk 129 = 0, IA 147 12 ∧ inb v1 12 = true]) rfl ⟨rfl, ⟨⟨rfl, rfl⟩, g1⟩, rfl, ⟨⟨rfl, rfl⟩, g2⟩, trivial⟩) ?_
    refine Go_if_ne bk_Couples_askNext 21 rfl (fun c11 => ?_) (fun c11 => ?_)
    · have h := ifF c11 h
      exact Go.t (Go.fg (LSub.cs (LSub.cs (LSub.cs (LSub.cs (LSub.cs (LSub.cn (LSub.nil)))))))) (t_Couples_askNext_b50 v1 v2 v3 (σ.1 132 v3.toNatClampNeg) σ h)
    · have h := ifT c11 h
      obtain ⟨g9, h⟩ := gdS h
      refine Go.t (Go_sg bk_Couples_askNext 22 6 (c2 := (some 43, [some (.ref 129), some (.int v1), some (.int v2), some (.int v3), some (.int (σ.1 132 v3.toNatClampNeg)), none], [.int (σ.1 (rfv 133 v1.toNatClampNeg) (σ.1 132 v3.toNatClampNeg).toNatClampNeg)], σ)) (ps := [shk 129 = 0, IR 133 12 ∧ inb v1 12 = true, IA (rfv 133 v1.toNatClampNeg) 12 ∧ inb (σ.1 132 v3.toNatClampNeg) 12 = true]) rfl ⟨rfl, ⟨⟨rfl, rfl⟩, g2⟩, ⟨(rw_133 g2), g9⟩, trivial⟩) ?_
      refine Go_if_le bk_Couples_askNext 28 rfl (fun c10 => ?_) (fun c10 => ?_)
      · have h := ifT c10 h
        exact Go.t (Go.fg (LSub.cs (LSub.cs (LSub.cs (LSub.cs (LSub.cs (LSub.cn (LSub.nil)))))))) (t_Couples_askNext_b50 v1 v2 v3 (σ.1 132 v3.toNatClampNeg) σ h)
      · have h := ifF c10 h
        refine Go.t (Go_sg bk_Couples_askNext 29 2 (c2 := (some 51, [some (.ref 129), some (.int v1), some (.int v2), some (.int v3), some (.int (σ.1 132 v3.toNatClampNeg)), none], [.int (1 : Int32)], σ)) (ps := []) rfl trivial) ?_
        exact Go.t (Go.fg (LSub.cs (LSub.cs (LSub.cs (LSub.cs (LSub.cs (LSub.cn (LSub.nil)))))))) (t_Couples_askNext_b51 v1 v2 v3 (σ.1 132 v3.toNatClampNeg) (1 : Int32) σ h)
def Couples_askNext_L4 (v1 : Int32) (σ : MH) (s : Int32 × Int32) : Option ((Int32)) := itr (fun s : Int32 × Int32 => Couples_askNext_l4 v1 s.1 s.2 σ) FU s
set_option maxRecDepth 20000 in
set_option maxHeartbeats 2000000 in
theorem t_Couples_askNext_L4 (v1 : Int32)  (σ : MH) (s : Int32 × Int32) {r} (h : Couples_askNext_L4 v1 σ s = some r) : Go m_Couples_askNext 2 (cH_Couples_askNext_4 v1 σ s) (cR_Couples_askNext_4 v1 σ r) := Go_itr (fun s o ho => t_Couples_askNext_l4 v1 s.1 s.2 σ ho) FU s r h
def Couples_askNext0 (v1 : Int32) (σ : MH) : Option (Int32 × MH) := (Couples_askNext_L4 v1 σ ((-1 : Int32), (0 : Int32))).bind fun z13 => if (0 : Int32) ≤ z13 then (if inb v1 12 = true then if inb z13 12 = true then (Couples_prefers z13 v1 ((sI σ 147 v1.toNatClampNeg ((σ.1 147 v1.toNatClampNeg) ||| (jshl (1 : Int32) z13))).1 130 z13.toNatClampNeg) (sI σ 147 v1.toNatClampNeg ((σ.1 147 v1.toNatClampNeg) ||| (jshl (1 : Int32) z13)))).bind fun x17 => if x17 = (0 : Int32) then some ((1 : Int32), sI σ 147 v1.toNatClampNeg ((σ.1 147 v1.toNatClampNeg) ||| (jshl (1 : Int32) z13))) else (if (sI σ 147 v1.toNatClampNeg ((σ.1 147 v1.toNatClampNeg) ||| (jshl (1 : Int32) z13))).1 130 z13.toNatClampNeg < (0 : Int32) then some ((1 : Int32), sI (sI (sI σ 147 v1.toNatClampNeg ((σ.1 147 v1.toNatClampNeg) ||| (jshl (1 : Int32) z13))) 130 z13.toNatClampNeg v1) 130 v1.toNatClampNeg z13) else (if inb ((sI σ 147 v1.toNatClampNeg ((σ.1 147 v1.toNatClampNeg) ||| (jshl (1 : Int32) z13))).1 130 z13.toNatClampNeg) 12 = true then some ((1 : Int32), sI (sI (sI (sI σ 147 v1.toNatClampNeg ((σ.1 147 v1.toNatClampNeg) ||| (jshl (1 : Int32) z13))) 130 z13.toNatClampNeg v1) 130 v1.toNatClampNeg z13) 130 ((sI σ 147 v1.toNatClampNeg ((σ.1 147 v1.toNatClampNeg) ||| (jshl (1 : Int32) z13))).1 130 z13.toNatClampNeg).toNatClampNeg (-2 : Int32)) else none)) else none else none) else some ((0 : Int32), σ)
set_option maxRecDepth 20000 in
set_option maxHeartbeats 2000000 in
theorem t_Couples_askNext0 (v1 : Int32)  (σ : MH) {o} (h : Couples_askNext0 v1 σ = some o) : Go m_Couples_askNext 2 (some 0, [some (.ref 129), some (.int v1), none, none, none, none], [], σ) ((none, [], [.int o.1], o.2)) := by
  unfold Couples_askNext0 at h
  refine Go.t (Go_sg bk_Couples_askNext 0 4 (c2 := (some 4, [some (.ref 129), some (.int v1), some (.int (-1 : Int32)), some (.int (0 : Int32)), none, none], [], σ)) (ps := []) rfl trivial) ?_
  obtain ⟨z13, q14, h⟩ := bdS h
  refine Go.t (Go.t (Go.fg (LSub.cs (LSub.cs (LSub.cs (LSub.cs (LSub.cn (LSub.cn (LSub.nil)))))))) (t_Couples_askNext_L4 v1 σ _ q14)) ?_
  refine Go.t (Go_sg bk_Couples_askNext 54 1 (c2 := (some 92, [some (.ref 129), some (.int v1), some (.int z13), none, none, none], [.int z13], σ)) (ps := []) rfl trivial) ?_
  refine Go_if_ge bk_Couples_askNext 55 rfl (fun c23 => ?_) (fun c23 => ?_)
  · have h := ifT c23 h
    obtain ⟨g15, h⟩ := gdS h
    obtain ⟨g16, h⟩ := gdS h
    refine Go.t (Go_sg bk_Couples_askNext 58 19 (c2 := (some 120, [some (.ref 129), some (.int v1), some (.int z13), some (.int ((sI σ 147 v1.toNatClampNeg ((σ.1 147 v1.toNatClampNeg) ||| (jshl (1 : Int32) z13))).1 130 z13.toNatClampNeg)), none, none], [.int ((sI σ 147 v1.toNatClampNeg ((σ.1 147 v1.toNatClampNeg) ||| (jshl (1 : Int32) z13))).1 130 z13.toNatClampNeg), .int v1, .int z13, .ref 129], sI σ 147 v1.toNatClampNeg ((σ.1 147 v1.toNatClampNeg) ||| (jshl (1 : Int32) z13)))) (ps := [shk 129 = 0, IA 147 12 ∧ inb v1 12 = true, IA 147 12 ∧ inb v1 12 = true, shk 129 = 0, IA 130 12 ∧ inb z13 12 = true]) rfl ⟨rfl, ⟨⟨rfl, rfl⟩, g15⟩, ⟨⟨rfl, rfl⟩, g15⟩, rfl, ⟨⟨rfl, rfl⟩, g16⟩, trivial⟩) ?_
    obtain ⟨x17, q19, h⟩ := bdS h
    refine Go.t (Go_callV bk_Couples_askNext 77 rfl nk_Couples_prefers tw1037 tw1039 tw28 (ci := 0) rfl (as := [.int z13, .int v1, .int ((sI σ 147 v1.toNatClampNeg ((σ.1 147 v1.toNatClampNeg) ||| (jshl (1 : Int32) z13))).1 130 z13.toNatClampNeg)]) (S := []) rfl rfl rfl rfl (Nat.le_of_ble_eq_true rfl) (Nat.le_of_ble_eq_true rfl) (ev_Couples_prefers _ _ _ _ q19)) ?_
    refine Go_if_eq bk_Couples_askNext 78 rfl (fun c22 => ?_) (fun c22 => ?_)
    · have h := ifT c22 h
      have h := Option.some.inj h
      subst h
      refine Go.t (Go_sg bk_Couples_askNext 96 1 (c2 := (some 153, [some (.ref 129), some (.int v1), some (.int z13), some (.int ((sI σ 147 v1.toNatClampNeg ((σ.1 147 v1.toNatClampNeg) ||| (jshl (1 : Int32) z13))).1 130 z13.toNatClampNeg)), none, none], [.int (1 : Int32)], sI σ 147 v1.toNatClampNeg ((σ.1 147 v1.toNatClampNeg) ||| (jshl (1 : Int32) z13)))) (ps := []) rfl trivial) ?_
      exact Go_reti bk_Couples_askNext 97 rfl
    · have h := ifF c22 h
      refine Go.t (Go_sg bk_Couples_askNext 79 11 (c2 := (some 141, [some (.ref 129), some (.int v1), some (.int z13), some (.int ((sI σ 147 v1.toNatClampNeg ((σ.1 147 v1.toNatClampNeg) ||| (jshl (1 : Int32) z13))).1 130 z13.toNatClampNeg)), none, none], [.int ((sI σ 147 v1.toNatClampNeg ((σ.1 147 v1.toNatClampNeg) ||| (jshl (1 : Int32) z13))).1 130 z13.toNatClampNeg)], sI (sI (sI σ 147 v1.toNatClampNeg ((σ.1 147 v1.toNatClampNeg) ||| (jshl (1 : Int32) z13))) 130 z13.toNatClampNeg v1) 130 v1.toNatClampNeg z13)) (ps := [shk 129 = 0, IA 130 12 ∧ inb z13 12 = true, shk 129 = 0, IA 130 12 ∧ inb v1 12 = true]) rfl ⟨rfl, ⟨⟨rfl, rfl⟩, g16⟩, rfl, ⟨⟨rfl, rfl⟩, g15⟩, trivial⟩) ?_
      refine Go_if_lt bk_Couples_askNext 90 rfl (fun c21 => ?_) (fun c21 => ?_)
      · have h := ifT c21 h
        have h := Option.some.inj h
        subst h
        refine Go.t (Go_sg bk_Couples_askNext 96 1 (c2 := (some 153, [some (.ref 129), some (.int v1), some (.int z13), some (.int ((sI σ 147 v1.toNatClampNeg ((σ.1 147 v1.toNatClampNeg) ||| (jshl (1 : Int32) z13))).1 130 z13.toNatClampNeg)), none, none], [.int (1 : Int32)], sI (sI (sI σ 147 v1.toNatClampNeg ((σ.1 147 v1.toNatClampNeg) ||| (jshl (1 : Int32) z13))) 130 z13.toNatClampNeg v1) 130 v1.toNatClampNeg z13)) (ps := []) rfl trivial) ?_
        exact Go_reti bk_Couples_askNext 97 rfl
      · have h := ifF c21 h
        obtain ⟨g20, h⟩ := gdS h
        have h := Option.some.inj h
        subst h
        refine Go.t (Go_sg bk_Couples_askNext 91 6 (c2 := (some 153, [some (.ref 129), some (.int v1), some (.int z13), some (.int ((sI σ 147 v1.toNatClampNeg ((σ.1 147 v1.toNatClampNeg) ||| (jshl (1 : Int32) z13))).1 130 z13.toNatClampNeg)), none, none], [.int (1 : Int32)], sI (sI (sI (sI σ 147 v1.toNatClampNeg ((σ.1 147 v1.toNatClampNeg) ||| (jshl (1 : Int32) z13))) 130 z13.toNatClampNeg v1) 130 v1.toNatClampNeg z13) 130 ((sI σ 147 v1.toNatClampNeg ((σ.1 147 v1.toNatClampNeg) ||| (jshl (1 : Int32) z13))).1 130 z13.toNatClampNeg).toNatClampNeg (-2 : Int32))) (ps := [shk 129 = 0, IA 130 12 ∧ inb ((sI σ 147 v1.toNatClampNeg ((σ.1 147 v1.toNatClampNeg) ||| (jshl (1 : Int32) z13))).1 130 z13.toNatClampNeg) 12 = true]) rfl ⟨rfl, ⟨⟨rfl, rfl⟩, g20⟩, trivial⟩) ?_
        exact Go_reti bk_Couples_askNext 97 rfl
  · have h := ifF c23 h
    have h := Option.some.inj h
    subst h
    refine Go.t (Go_sg bk_Couples_askNext 56 1 (c2 := (some 96, [some (.ref 129), some (.int v1), some (.int z13), none, none, none], [.int (0 : Int32)], σ)) (ps := []) rfl trivial) ?_
    exact Go_reti bk_Couples_askNext 57 rfl
def Couples_askNext (v1 : Int32) (σ : MH) : Option (Int32 × MH) := bzo (Couples_askNext0 v1 σ)
set_option maxRecDepth 20000 in
set_option maxHeartbeats 2000000 in
theorem ev_Couples_askNext (v1 : Int32)  (σ : MH) {o} (h : Couples_askNext v1 σ = some o) : Ev m_Couples_askNext 2 [.ref 129, .int v1] σ (some (.int o.1)) o.2 := Ev.of2 (by decide +kernel) rfl (Nat.le_of_ble_eq_true rfl) ⟨.boolean, rfl, nrB (bzo2 h)⟩ (t_Couples_askNext0 v1 σ (bzo1 h))
def cH_Couples_findStable_7 (v1 : Nat) (s : Int32 × MH) : MC := (some 7, [some (.ref 129), some (.ref v1), some (.int s.1), none, none, none, none], [], s.2)
def cR_Couples_findStable_7 (v1 : Nat) : ((MH)) → MC := (fun r : MH => ((some 129, [some (.ref 129), none, none, none, none, none, none], [], r) : MC))
def cH_Couples_findStable_17 (v1 : Nat) (v2 : Int32) (s : Int32 × MH) : MC := (some 17, [some (.ref 129), some (.ref v1), some (.int v2), some (.int s.1), none, none, none], [], s.2)
def cR_Couples_findStable_17 (v1 : Nat) (v2 : Int32) : ((MH)) → MC := (fun r : MH => ((some 123, [some (.ref 129), some (.ref v1), some (.int v2), none, none, none, none], [], r) : MC))
def Couples_findStable_b116 (v1 : Nat) (v2 : Int32) (v3 : Int32) (s0 : Int32) (s1 : Int32) (s2 : Nat) (σ : MH) : Option (((Int32 × MH) ⊕ ((MH)))) := if inb s1 12 = true then some (.inl (v3 + (1 : Int32), sI σ s2 s1.toNatClampNeg s0)) else none
set_option maxRecDepth 20000 in
set_option maxHeartbeats 2000000 in
theorem t_Couples_findStable_b116 (v1 : Nat) (v2 : Int32) (v3 : Int32) (s0 : Int32) (s1 : Int32) (s2 : Nat) (hv1 : isLd v1) (hs2 : IA s2 12)  (σ : MH) {o} (h : Couples_findStable_b116 v1 v2 v3 s0 s1 s2 σ = some o) : Go m_Couples_findStable 6 (some 116, [some (.ref 129), some (.ref v1), some (.int v2), some (.int v3), none, none, none], [.int s0, .int s1, .ref s2], σ) (cS (cH_Couples_findStable_17 v1 v2) (cR_Couples_findStable_17 v1 v2) o) := by
  unfold Couples_findStable_b116 at h
  obtain ⟨g12, h⟩ := gdS h
  refine Go.t (Go_sg bk_Couples_findStable 63 3 (c2 := (some 17, [some (.ref 129), some (.ref v1), some (.int v2), some (.int (v3 + (1 : Int32))), none, none, none], [], sI σ s2 s1.toNatClampNeg s0)) (ps := [IA s2 12 ∧ inb s1 12 = true]) rfl ⟨⟨hs2, g12⟩, trivial⟩) ?_
  have h := Option.some.inj h
  subst h
  exact Go.fg (LSub.cs (LSub.cs (LSub.cs (LSub.cs (LSub.cn (LSub.cn (LSub.cn (LSub.nil))))))))
def Couples_findStable_b85 (v1 : Nat) (v2 : Int32) (v3 : Int32) (v4 : Int32) (v5 : Int32) (v6 : Int32) (s0 : Int32) (s1 : Int32) (s2 : Nat) (σ : MH) : Option (((Int32 × MH) ⊕ ((MH)))) := if inb s1 12 = true then if inb v5 12 = true then if v6 = (0 : Int32) then (Couples_findStable_b116 v1 v2 v3 (0 : Int32) v4 (rfv 133 v5.toNatClampNeg) (sI σ s2 s1.toNatClampNeg s0)) else ((Judge_liking v1 v5 v4 (sI σ s2 s1.toNatClampNeg s0)).bind fun (x13, σ14) => Couples_findStable_b116 v1 v2 v3 x13 v4 (rfv 133 v5.toNatClampNeg) σ14) else none else none
set_option maxRecDepth 20000 in
set_option maxHeartbeats 2000000 in
theorem t_Couples_findStable_b85 (v1 : Nat) (v2 : Int32) (v3 : Int32) (v4 : Int32) (v5 : Int32) (v6 : Int32) (s0 : Int32) (s1 : Int32) (s2 : Nat) (hv1 : isLd v1) (hs2 : IA s2 12)  (σ : MH) {o} (h : Couples_findStable_b85 v1 v2 v3 v4 v5 v6 s0 s1 s2 σ = some o) : Go m_Couples_findStable 6 (some 85, [some (.ref 129), some (.ref v1), some (.int v2), some (.int v3), some (.int v4), some (.int v5), some (.int v6)], [.int s0, .int s1, .ref s2], σ) (cS (cH_Couples_findStable_17 v1 v2) (cR_Couples_findStable_17 v1 v2) o) := by
  unfold Couples_findStable_b85 at h
  obtain ⟨g10, h⟩ := gdS h
  obtain ⟨g11, h⟩ := gdS h
  refine Go.t (Go_sg bk_Couples_findStable 47 7 (c2 := (some 97, [some (.ref 129), some (.ref v1), some (.int v2), some (.int v3), some (.int v4), some (.int v5), some (.int v6)], [.int v6, .int v4, .ref (rfv 133 v5.toNatClampNeg)], sI σ s2 s1.toNatClampNeg s0)) (ps := [IA s2 12 ∧ inb s1 12 = true, shk 129 = 0, IR 133 12 ∧ inb v5 12 = true]) rfl ⟨⟨hs2, g10⟩, rfl, ⟨⟨rfl, rfl⟩, g11⟩, trivial⟩) ?_
  refine Go_if_eq bk_Couples_findStable 54 rfl (fun c16 => ?_) (fun c16 => ?_)
  · have h := ifT c16 h
    refine Go.t (Go_sg bk_Couples_findStable 62 1 (c2 := (some 116, [some (.ref 129), some (.ref v1), some (.int v2), some (.int v3), some (.int v4), some (.int v5), some (.int v6)], [.int (0 : Int32), .int v4, .ref (rfv 133 v5.toNatClampNeg)], sI σ s2 s1.toNatClampNeg s0)) (ps := []) rfl trivial) ?_
    exact Go.t (Go.fg (LSub.cs (LSub.cs (LSub.cs (LSub.cs (LSub.cn (LSub.cn (LSub.cn (LSub.nil))))))))) (t_Couples_findStable_b116 v1 v2 v3 (0 : Int32) v4 (rfv 133 v5.toNatClampNeg) hv1 (rw_133 g11) (sI σ s2 s1.toNatClampNeg s0) h)
  · have h := ifF c16 h
    refine Go.t (Go_sg bk_Couples_findStable 55 5 (c2 := (some 109, [some (.ref 129), some (.ref v1), some (.int v2), some (.int v3), some (.int v4), some (.int v5), some (.int v6)], [.int v4, .int v5, .ref v1, .ref 126, .int v4, .ref (rfv 133 v5.toNatClampNeg)], sI σ s2 s1.toNatClampNeg s0)) (ps := [shk 129 = 0]) rfl ⟨rfl, trivial⟩) ?_
    obtain ⟨⟨x13, σ14⟩, q15, h⟩ := bdS h
    dsimp only at h
    refine Go.t (Go_callV bk_Couples_findStable 60 rfl nk_Judge_liking tw1032 tw973 tw974 (ci := 2) rfl (as := [.ref v1, .int v5, .int v4]) (S := [.int v4, .ref (rfv 133 v5.toNatClampNeg)]) rfl rfl rfl rfl (Nat.le_of_ble_eq_true rfl) (Nat.le_of_ble_eq_true rfl) (ev_Judge_liking _ _ _ hv1 _ q15)) ?_
    refine Go.t (Go_sg bk_Couples_findStable 61 1 (c2 := (some 116, [some (.ref 129), some (.ref v1), some (.int v2), some (.int v3), some (.int v4), some (.int v5), some (.int v6)], [.int x13, .int v4, .ref (rfv 133 v5.toNatClampNeg)], σ14)) (ps := []) rfl trivial) ?_
    exact Go.t (Go.fg (LSub.cs (LSub.cs (LSub.cs (LSub.cs (LSub.cn (LSub.cn (LSub.cn (LSub.nil))))))))) (t_Couples_findStable_b116 v1 v2 v3 x13 v4 (rfv 133 v5.toNatClampNeg) hv1 (rw_133 g11) σ14 h)
def Couples_findStable_l17 (v1 : Nat) (v2 : Int32) (v3 : Int32) (σ : MH) : Option (((Int32 × MH) ⊕ ((MH)))) := if σ.1 129 7 ≤ v3 then some (.inr (σ)) else (if inb v2 12 = true then if inb v3 12 = true then (Judge_fit v1 (σ.1 131 v2.toNatClampNeg) (σ.1 132 v3.toNatClampNeg) σ).bind fun (x6, σ7) => if inb (σ.1 131 v2.toNatClampNeg) 12 = true then if x6 = (0 : Int32) then (Couples_findStable_b85 v1 v2 v3 (σ.1 131 v2.toNatClampNeg) (σ.1 132 v3.toNatClampNeg) x6 (0 : Int32) (σ.1 132 v3.toNatClampNeg) (rfv 133 (σ.1 131 v2.toNatClampNeg).toNatClampNeg) σ7) else ((Judge_liking v1 (σ.1 131 v2.toNatClampNeg) (σ.1 132 v3.toNatClampNeg) σ7).bind fun (x17, σ18) => Couples_findStable_b85 v1 v2 v3 (σ.1 131 v2.toNatClampNeg) (σ.1 132 v3.toNatClampNeg) x6 x17 (σ.1 132 v3.toNatClampNeg) (rfv 133 (σ.1 131 v2.toNatClampNeg).toNatClampNeg) σ18) else none else none else none)
set_option maxRecDepth 20000 in
set_option maxHeartbeats 2000000 in
theorem t_Couples_findStable_l17 (v1 : Nat) (v2 : Int32) (v3 : Int32) (hv1 : isLd v1) (σ : MH) {o} (h : Couples_findStable_l17 v1 v2 v3 σ = some o) : Go m_Couples_findStable 6 (cH_Couples_findStable_17 v1 v2 (v3, σ)) (cS (cH_Couples_findStable_17 v1 v2) (cR_Couples_findStable_17 v1 v2) o) := by
  unfold Couples_findStable_l17 at h
  unfold cH_Couples_findStable_17
  refine Go.t (Go_sg bk_Couples_findStable 11 3 (c2 := (some 22, [some (.ref 129), some (.ref v1), some (.int v2), some (.int v3), none, none, none], [.int (σ.1 129 7), .int v3], σ)) (ps := [shk 129 = 0]) rfl ⟨rfl, trivial⟩) ?_
  refine Go_icmp_ge bk_Couples_findStable 14 rfl (fun c21 => ?_) (fun c21 => ?_)
  · have h := ifT c21 h
    have h := Option.some.inj h
    subst h
    exact Go.fg (LSub.cs (LSub.cs (LSub.cs (LSub.cn (LSub.cn (LSub.cn (LSub.cn (LSub.nil))))))))
  · have h := ifF c21 h
    obtain ⟨g4, h⟩ := gdS h
    obtain ⟨g5, h⟩ := gdS h
    refine Go.t (Go_sg bk_Couples_findStable 15 15 (c2 := (some 50, [some (.ref 129), some (.ref v1), some (.int v2), some (.int v3), some (.int (σ.1 131 v2.toNatClampNeg)), some (.int (σ.1 132 v3.toNatClampNeg)), none], [.int (σ.1 132 v3.toNatClampNeg), .int (σ.1 131 v2.toNatClampNeg), .ref v1, .ref 126], σ)) (ps := [shk 129 = 0, IA 131 12 ∧ inb v2 12 = true, shk 129 = 0, IA 132 12 ∧ inb v3 12 = true, shk 129 = 0]) rfl ⟨rfl, ⟨⟨rfl, rfl⟩, g4⟩, rfl, ⟨⟨rfl, rfl⟩, g5⟩, rfl, trivial⟩) ?_
    obtain ⟨⟨x6, σ7⟩, q8, h⟩ := bdS h
    dsimp only at h
    refine Go.t (Go_callV bk_Couples_findStable 30 rfl nk_Judge_fit tw1001 tw864 tw865 (ci := 2) rfl (as := [.ref v1, .int (σ.1 131 v2.toNatClampNeg), .int (σ.1 132 v3.toNatClampNeg)]) (S := []) rfl rfl rfl rfl (Nat.le_of_ble_eq_true rfl) (Nat.le_of_ble_eq_true rfl) (ev_Judge_fit _ _ _ hv1 _ q8)) ?_
    obtain ⟨g9, h⟩ := gdS h
    refine Go.t (Go_sg bk_Couples_findStable 31 7 (c2 := (some 66, [some (.ref 129), some (.ref v1), some (.int v2), some (.int v3), some (.int (σ.1 131 v2.toNatClampNeg)), some (.int (σ.1 132 v3.toNatClampNeg)), some (.int x6)], [.int x6, .int (σ.1 132 v3.toNatClampNeg), .ref (rfv 133 (σ.1 131 v2.toNatClampNeg).toNatClampNeg)], σ7)) (ps := [shk 129 = 0, IR 133 12 ∧ inb (σ.1 131 v2.toNatClampNeg) 12 = true]) rfl ⟨rfl, ⟨⟨rfl, rfl⟩, g9⟩, trivial⟩) ?_
    refine Go_if_eq bk_Couples_findStable 38 rfl (fun c20 => ?_) (fun c20 => ?_)
    · have h := ifT c20 h
      refine Go.t (Go_sg bk_Couples_findStable 46 1 (c2 := (some 85, [some (.ref 129), some (.ref v1), some (.int v2), some (.int v3), some (.int (σ.1 131 v2.toNatClampNeg)), some (.int (σ.1 132 v3.toNatClampNeg)), some (.int x6)], [.int (0 : Int32), .int (σ.1 132 v3.toNatClampNeg), .ref (rfv 133 (σ.1 131 v2.toNatClampNeg).toNatClampNeg)], σ7)) (ps := []) rfl trivial) ?_
      exact Go.t (Go.fg (LSub.cs (LSub.cs (LSub.cs (LSub.cs (LSub.cs (LSub.cs (LSub.cs (LSub.nil))))))))) (t_Couples_findStable_b85 v1 v2 v3 (σ.1 131 v2.toNatClampNeg) (σ.1 132 v3.toNatClampNeg) x6 (0 : Int32) (σ.1 132 v3.toNatClampNeg) (rfv 133 (σ.1 131 v2.toNatClampNeg).toNatClampNeg) hv1 (rw_133 g9) σ7 h)
    · have h := ifF c20 h
      refine Go.t (Go_sg bk_Couples_findStable 39 5 (c2 := (some 78, [some (.ref 129), some (.ref v1), some (.int v2), some (.int v3), some (.int (σ.1 131 v2.toNatClampNeg)), some (.int (σ.1 132 v3.toNatClampNeg)), some (.int x6)], [.int (σ.1 132 v3.toNatClampNeg), .int (σ.1 131 v2.toNatClampNeg), .ref v1, .ref 126, .int (σ.1 132 v3.toNatClampNeg), .ref (rfv 133 (σ.1 131 v2.toNatClampNeg).toNatClampNeg)], σ7)) (ps := [shk 129 = 0]) rfl ⟨rfl, trivial⟩) ?_
      obtain ⟨⟨x17, σ18⟩, q19, h⟩ := bdS h
      dsimp only at h
      refine Go.t (Go_callV bk_Couples_findStable 44 rfl nk_Judge_liking tw1032 tw973 tw974 (ci := 2) rfl (as := [.ref v1, .int (σ.1 131 v2.toNatClampNeg), .int (σ.1 132 v3.toNatClampNeg)]) (S := [.int (σ.1 132 v3.toNatClampNeg), .ref (rfv 133 (σ.1 131 v2.toNatClampNeg).toNatClampNeg)]) rfl rfl rfl rfl (Nat.le_of_ble_eq_true rfl) (Nat.le_of_ble_eq_true rfl) (ev_Judge_liking _ _ _ hv1 _ q19)) ?_
      refine Go.t (Go_sg bk_Couples_findStable 45 1 (c2 := (some 85, [some (.ref 129), some (.ref v1), some (.int v2), some (.int v3), some (.int (σ.1 131 v2.toNatClampNeg)), some (.int (σ.1 132 v3.toNatClampNeg)), some (.int x6)], [.int x17, .int (σ.1 132 v3.toNatClampNeg), .ref (rfv 133 (σ.1 131 v2.toNatClampNeg).toNatClampNeg)], σ18)) (ps := []) rfl trivial) ?_
      exact Go.t (Go.fg (LSub.cs (LSub.cs (LSub.cs (LSub.cs (LSub.cs (LSub.cs (LSub.cs (LSub.nil))))))))) (t_Couples_findStable_b85 v1 v2 v3 (σ.1 131 v2.toNatClampNeg) (σ.1 132 v3.toNatClampNeg) x6 x17 (σ.1 132 v3.toNatClampNeg) (rfv 133 (σ.1 131 v2.toNatClampNeg).toNatClampNeg) hv1 (rw_133 g9) σ18 h)
def Couples_findStable_L17 (v1 : Nat) (v2 : Int32) (s : Int32 × MH) : Option ((MH)) := itr (fun s : Int32 × MH => Couples_findStable_l17 v1 v2 s.1 s.2) FU s
set_option maxRecDepth 20000 in
set_option maxHeartbeats 2000000 in
theorem t_Couples_findStable_L17 (v1 : Nat) (v2 : Int32) (hv1 : isLd v1) (s : Int32 × MH) {r} (h : Couples_findStable_L17 v1 v2 s = some r) : Go m_Couples_findStable 6 (cH_Couples_findStable_17 v1 v2 s) (cR_Couples_findStable_17 v1 v2 r) := Go_itr (fun s o ho => t_Couples_findStable_l17 v1 v2 s.1 hv1 s.2 ho) FU s r h
def Couples_findStable_l7 (v1 : Nat) (v2 : Int32) (σ : MH) : Option (((Int32 × MH) ⊕ ((MH)))) := if σ.1 129 6 ≤ v2 then some (.inr (σ)) else ((Couples_findStable_L17 v1 v2 ((0 : Int32), σ)).bind fun z22 => some (.inl (v2 + (1 : Int32), z22)))
set_option maxRecDepth 20000 in
set_option maxHeartbeats 2000000 in
theorem t_Couples_findStable_l7 (v1 : Nat) (v2 : Int32) (hv1 : isLd v1) (σ : MH) {o} (h : Couples_findStable_l7 v1 v2 σ = some o) : Go m_Couples_findStable 6 (cH_Couples_findStable_7 v1 (v2, σ)) (cS (cH_Couples_findStable_7 v1) (cR_Couples_findStable_7 v1) o) := by
  unfold Couples_findStable_l7 at h
  unfold cH_Couples_findStable_7
  refine Go.t (Go_sg bk_Couples_findStable 5 3 (c2 := (some 12, [some (.ref 129), some (.ref v1), some (.int v2), none, none, none, none], [.int (σ.1 129 6), .int v2], σ)) (ps := [shk 129 = 0]) rfl ⟨rfl, trivial⟩) ?_
  refine Go_icmp_ge bk_Couples_findStable 8 rfl (fun c24 => ?_) (fun c24 => ?_)
  · have h := ifT c24 h
    have h := Option.some.inj h
    subst h
    exact Go.fg (LSub.cs (LSub.cn (LSub.cn (LSub.cn (LSub.cn (LSub.cn (LSub.cn (LSub.nil))))))))
  · have h := ifF c24 h
    refine Go.t (Go_sg bk_Couples_findStable 9 2 (c2 := (some 17, [some (.ref 129), some (.ref v1), some (.int v2), some (.int (0 : Int32)), none, none, none], [], σ)) (ps := []) rfl trivial) ?_
    obtain ⟨z22, q23, h⟩ := bdS h
    refine Go.t (Go.t (Go.fg (LSub.cs (LSub.cs (LSub.cs (LSub.cs (LSub.cn (LSub.cn (LSub.cn (LSub.nil))))))))) (t_Couples_findStable_L17 v1 v2 hv1 _ q23)) ?_
    refine Go.t (Go_sg bk_Couples_findStable 66 2 (c2 := (some 7, [some (.ref 129), some (.ref v1), some (.int (v2 + (1 : Int32))), none, none, none, none], [], z22)) (ps := []) rfl trivial) ?_
    have h := Option.some.inj h
    subst h
    exact Go.fg (LSub.cs (LSub.cs (LSub.cs (LSub.cn (LSub.cn (LSub.cn (LSub.cn (LSub.nil))))))))
def Couples_findStable_L7 (v1 : Nat) (s : Int32 × MH) : Option ((MH)) := itr (fun s : Int32 × MH => Couples_findStable_l7 v1 s.1 s.2) FU s
set_option maxRecDepth 20000 in
set_option maxHeartbeats 2000000 in
theorem t_Couples_findStable_L7 (v1 : Nat) (hv1 : isLd v1) (s : Int32 × MH) {r} (h : Couples_findStable_L7 v1 s = some r) : Go m_Couples_findStable 6 (cH_Couples_findStable_7 v1 s) (cR_Couples_findStable_7 v1 r) := Go_itr (fun s o ho => t_Couples_findStable_l7 v1 s.1 hv1 s.2 ho) FU s r h
def cH_Couples_findStable_133  (s : Int32 × Int32 × MH) : MC := (some 133, [some (.ref 129), none, some (.int s.1), some (.int s.2.1), none, none, none], [], s.2.2)
def cR_Couples_findStable_133  : ((MH)) → MC := (fun r : MH => ((some 203, [some (.ref 129), none, none, none, none, none, none], [], r) : MC))
def cH_Couples_findStable_149 (v3 : Int32) (s : Int32 × Int32 × MH) : MC := (some 149, [some (.ref 129), none, some (.int s.1), some (.int v3), some (.int s.2.1), none, none], [], s.2.2)
def cR_Couples_findStable_149 (v3 : Int32) : ((Int32 × MH)) → MC := (fun r : Int32 × MH => ((some 197, [some (.ref 129), none, some (.int r.1), some (.int v3), none, none, none], [], r.2) : MC))
def Couples_findStable_b191 (v2 : Int32) (v3 : Int32) (v4 : Int32) (σ : MH) : Option (((Int32 × Int32 × MH) ⊕ ((Int32 × MH)))) := some (.inl (v2, v4 + (1 : Int32), σ))
set_option maxRecDepth 20000 in
set_option maxHeartbeats 2000000 in
theorem t_Couples_findStable_b191 (v2 : Int32) (v3 : Int32) (v4 : Int32)   (σ : MH) {o} (h : Couples_findStable_b191 v2 v3 v4 σ = some o) : Go m_Couples_findStable 6 (some 191, [some (.ref 129), none, some (.int v2), some (.int v3), some (.int v4), none, none], [], σ) (cS (cH_Couples_findStable_149 v3) (cR_Couples_findStable_149 v3) o) := by
  unfold Couples_findStable_b191 at h
  refine Go.t (Go_sg bk_Couples_findStable 103 2 (c2 := (some 149, [some (.ref 129), none, some (.int v2), some (.int v3), some (.int (v4 + (1 : Int32))), none, none], [], σ)) (ps := []) rfl trivial) ?_
  have h := Option.some.inj h
  subst h
  exact Go.fg (LSub.cs (LSub.cn (LSub.cs (LSub.cs (LSub.cs (LSub.cn (LSub.cn (LSub.nil))))))))
def Couples_findStable_l149 (v3 : Int32) (v2 : Int32) (v4 : Int32) (σ : MH) : Option (((Int32 × Int32 × MH) ⊕ ((Int32 × MH)))) := if σ.1 129 6 ≤ v4 then some (.inr (v2, σ)) else (if inb v4 12 = true then if inb (σ.1 131 v4.toNatClampNeg) 12 = true then if σ.1 130 (σ.1 131 v4.toNatClampNeg).toNatClampNeg = (-2 : Int32) then ((Couples_askNext (σ.1 131 v4.toNatClampNeg) σ).bind fun (x29, σ30) => if x29 = (0 : Int32) then (Couples_findStable_b191 v2 v3 v4 σ30) else (Couples_findStable_b191 (1 : Int32) v3 v4 σ30)) else (Couples_findStable_b191 v2 v3 v4 σ) else none else none)
set_option maxRecDepth 20000 in
set_option maxHeartbeats 2000000 in
theorem t_Couples_findStable_l149 (v3 : Int32) (v2 : Int32) (v4 : Int32)  (σ : MH) {o} (h : Couples_findStable_l149 v3 v2 v4 σ = some o) : Go m_Couples_findStable 6 (cH_Couples_findStable_149 v3 (v2, v4, σ)) (cS (cH_Couples_findStable_149 v3) (cR_Couples_findStable_149 v3) o) := by
  unfold Couples_findStable_l149 at h
  unfold cH_Couples_findStable_149
  refine Go.t (Go_sg bk_Couples_findStable 81 3 (c2 := (some 155, [some (.ref 129), none, some (.int v2), some (.int v3), some (.int v4), none, none], [.int (σ.1 129 6), .int v4], σ)) (ps := [shk 129 = 0]) rfl ⟨rfl, trivial⟩) ?_
  refine Go_icmp_ge bk_Couples_findStable 84 rfl (fun c34 => ?_) (fun c34 => ?_)
  · have h := ifT c34 h
    have h := Option.some.inj h
    subst h
    exact Go.fg (LSub.cs (LSub.cn (LSub.cs (LSub.cs (LSub.cn (LSub.cn (LSub.cn (LSub.nil))))))))
  · have h := ifF c34 h
    obtain ⟨g27, h⟩ := gdS h
    obtain ⟨g28, h⟩ := gdS h
    refine Go.t (Go_sg bk_Couples_findStable 85 8 (c2 := (some 172, [some (.ref 129), none, some (.int v2), some (.int v3), some (.int v4), none, none], [.int (-2 : Int32), .int (σ.1 130 (σ.1 131 v4.toNatClampNeg).toNatClampNeg)], σ)) (ps := [shk 129 = 0, shk 129 = 0, IA 131 12 ∧ inb v4 12 = true, IA 130 12 ∧ inb (σ.1 131 v4.toNatClampNeg) 12 = true]) rfl ⟨rfl, rfl, ⟨⟨rfl, rfl⟩, g27⟩, ⟨⟨rfl, rfl⟩, g28⟩, trivial⟩) ?_
    refine Go_icmp_ne bk_Couples_findStable 93 rfl (fun c33 => ?_) (fun c33 => ?_)
    · have h := ifF c33 h
      exact Go.t (Go.fg (LSub.cs (LSub.cn (LSub.cs (LSub.cs (LSub.cs (LSub.cn (LSub.cn (LSub.nil))))))))) (t_Couples_findStable_b191 v2 v3 v4 σ h)
    · have h := ifT c33 h
      refine Go.t (Go_sg bk_Couples_findStable 94 5 (c2 := (some 183, [some (.ref 129), none, some (.int v2), some (.int v3), some (.int v4), none, none], [.int (σ.1 131 v4.toNatClampNeg), .ref 129], σ)) (ps := [shk 129 = 0, IA 131 12 ∧ inb v4 12 = true]) rfl ⟨rfl, ⟨⟨rfl, rfl⟩, g27⟩, trivial⟩) ?_
      obtain ⟨⟨x29, σ30⟩, q31, h⟩ := bdS h
      dsimp only at h
      refine Go.t (Go_callV bk_Couples_findStable 99 rfl nk_Couples_askNext tw1033 tw1035 tw27 (ci := 0) rfl (as := [.int (σ.1 131 v4.toNatClampNeg)]) (S := []) rfl rfl rfl rfl (Nat.le_of_ble_eq_true rfl) (Nat.le_of_ble_eq_true rfl) (ev_Couples_askNext _ _ q31)) ?_
      refine Go_if_eq bk_Couples_findStable 100 rfl (fun c32 => ?_) (fun c32 => ?_)
      · have h := ifT c32 h
        exact Go.t (Go.fg (LSub.cs (LSub.cn (LSub.cs (LSub.cs (LSub.cs (LSub.cn (LSub.cn (LSub.nil))))))))) (t_Couples_findStable_b191 v2 v3 v4 σ30 h)
      · have h := ifF c32 h
        refine Go.t (Go_sg bk_Couples_findStable 101 2 (c2 := (some 191, [some (.ref 129), none, some (.int (1 : Int32)), some (.int v3), some (.int v4), none, none], [], σ30)) (ps := []) rfl trivial) ?_
        exact Go.t (Go.fg (LSub.cs (LSub.cn (LSub.cs (LSub.cs (LSub.cs (LSub.cn (LSub.cn (LSub.nil))))))))) (t_Couples_findStable_b191 (1 : Int32) v3 v4 σ30 h)
def Couples_findStable_L149 (v3 : Int32) (s : Int32 × Int32 × MH) : Option ((Int32 × MH)) := itr (fun s : Int32 × Int32 × MH => Couples_findStable_l149 v3 s.1 s.2.1 s.2.2) FU s
set_option maxRecDepth 20000 in
set_option maxHeartbeats 2000000 in
theorem t_Couples_findStable_L149 (v3 : Int32)  (s : Int32 × Int32 × MH) {r} (h : Couples_findStable_L149 v3 s = some r) : Go m_Couples_findStable 6 (cH_Couples_findStable_149 v3 s) (cR_Couples_findStable_149 v3 r) := Go_itr (fun s o ho => t_Couples_findStable_l149 v3 s.1 s.2.1 s.2.2 ho) FU s r h
def Couples_findStable_l133 (v2 : Int32) (v3 : Int32) (σ : MH) : Option (((Int32 × Int32 × MH) ⊕ ((MH)))) := if v2 = (0 : Int32) then some (.inr (σ)) else (if (144 : Int32) < v3 then some (.inr (σ)) else ((Couples_findStable_L149 v3 ((0 : Int32), (0 : Int32), σ)).bind fun z35 => some (.inl (z35.1, v3 + (1 : Int32), z35.2))))
set_option maxRecDepth 20000 in
set_option maxHeartbeats 2000000 in
theorem t_Couples_findStable_l133 (v2 : Int32) (v3 : Int32)  (σ : MH) {o} (h : Couples_findStable_l133 v2 v3 σ = some o) : Go m_Couples_findStable 6 (cH_Couples_findStable_133  (v2, v3, σ)) (cS (cH_Couples_findStable_133 ) (cR_Couples_findStable_133 ) o) := by
  unfold Couples_findStable_l133 at h
  unfold cH_Couples_findStable_133
  refine Go.t (Go_sg bk_Couples_findStable 72 1 (c2 := (some 134, [some (.ref 129), none, some (.int v2), some (.int v3), none, none, none], [.int v2], σ)) (ps := []) rfl trivial) ?_
  refine Go_if_eq bk_Couples_findStable 73 rfl (fun c38 => ?_) (fun c38 => ?_)
  · have h := ifT c38 h
    have h := Option.some.inj h
    subst h
    exact Go.fg (LSub.cs (LSub.cn (LSub.cn (LSub.cn (LSub.cn (LSub.cn (LSub.cn (LSub.nil))))))))
  · have h := ifF c38 h
    refine Go.t (Go_sg bk_Couples_findStable 74 2 (c2 := (some 141, [some (.ref 129), none, some (.int v2), some (.int v3), none, none, none], [.int (144 : Int32), .int v3], σ)) (ps := []) rfl trivial) ?_
    refine Go_icmp_gt bk_Couples_findStable 76 rfl (fun c37 => ?_) (fun c37 => ?_)
    · have h := ifT c37 h
      have h := Option.some.inj h
      subst h
      exact Go.fg (LSub.cs (LSub.cn (LSub.cn (LSub.cn (LSub.cn (LSub.cn (LSub.cn (LSub.nil))))))))
    · have h := ifF c37 h
      refine Go.t (Go_sg bk_Couples_findStable 77 4 (c2 := (some 149, [some (.ref 129), none, some (.int (0 : Int32)), some (.int v3), some (.int (0 : Int32)), none, none], [], σ)) (ps := []) rfl trivial) ?_
      obtain ⟨z35, q36, h⟩ := bdS h
      refine Go.t (Go.t (Go.fg (LSub.cs (LSub.cn (LSub.cs (LSub.cs (LSub.cs (LSub.cn (LSub.cn (LSub.nil))))))))) (t_Couples_findStable_L149 v3 _ q36)) ?_
      refine Go.t (Go_sg bk_Couples_findStable 105 2 (c2 := (some 133, [some (.ref 129), none, some (.int z35.1), some (.int (v3 + (1 : Int32))), none, none, none], [], z35.2)) (ps := []) rfl trivial) ?_
      have h := Option.some.inj h
      subst h
      exact Go.fg (LSub.cs (LSub.cn (LSub.cs (LSub.cs (LSub.cn (LSub.cn (LSub.cn (LSub.nil))))))))
def Couples_findStable_L133  (s : Int32 × Int32 × MH) : Option ((MH)) := itr (fun s : Int32 × Int32 × MH => Couples_findStable_l133 s.1 s.2.1 s.2.2) FU s
set_option maxRecDepth 20000 in
set_option maxHeartbeats 2000000 in
theorem t_Couples_findStable_L133   (s : Int32 × Int32 × MH) {r} (h : Couples_findStable_L133  s = some r) : Go m_Couples_findStable 6 (cH_Couples_findStable_133  s) (cR_Couples_findStable_133  r) := Go_itr (fun s o ho => t_Couples_findStable_l133 s.1 s.2.1 s.2.2 ho) FU s r h
def cH_Couples_findStable_205  (s : Int32 × MH) : MC := (some 205, [some (.ref 129), none, none, some (.int s.1), none, none, none], [], s.2)
def cR_Couples_findStable_205  : ((MH)) → MC := (fun r : MH => ((none, [], [], r) : MC))
def Couples_findStable_b239 (v3 : Int32) (s0 : Int32) (s1 : Int32) (σ : MH) : Option (((Int32 × MH) ⊕ ((MH)))) := some (.inl (v3 + (1 : Int32), sI σ 129 2 (s1 + s0)))
set_option maxRecDepth 20000 in
set_option maxHeartbeats 2000000 in
theorem t_Couples_findStable_b239 (v3 : Int32) (s0 : Int32) (s1 : Int32)   (σ : MH) {o} (h : Couples_findStable_b239 v3 s0 s1 σ = some o) : Go m_Couples_findStable 6 (some 239, [some (.ref 129), none, none, some (.int v3), none, none, none], [.int s0, .int s1, .ref 129], σ) (cS (cH_Couples_findStable_205 ) (cR_Couples_findStable_205 ) o) := by
  unfold Couples_findStable_b239 at h
  refine Go.t (Go_sg bk_Couples_findStable 128 4 (c2 := (some 205, [some (.ref 129), none, none, some (.int (v3 + (1 : Int32))), none, none, none], [], sI σ 129 2 (s1 + s0))) (ps := [shk 129 = 0]) rfl ⟨rfl, trivial⟩) ?_
  have h := Option.some.inj h
  subst h
  exact Go.fg (LSub.cs (LSub.cn (LSub.cn (LSub.cs (LSub.cn (LSub.cn (LSub.cn (LSub.nil))))))))
def Couples_findStable_l205 (v3 : Int32) (σ : MH) : Option (((Int32 × MH) ⊕ ((MH)))) := if σ.1 129 6 ≤ v3 then some (.inr (σ)) else (if inb v3 12 = true then if inb (σ.1 131 v3.toNatClampNeg) 12 = true then if σ.1 130 (σ.1 131 v3.toNatClampNeg).toNatClampNeg = (-2 : Int32) then (Couples_findStable_b239 v3 (0 : Int32) (σ.1 129 2) σ) else (Couples_findStable_b239 v3 (1 : Int32) (σ.1 129 2) σ) else none else none)
set_option maxRecDepth 20000 in
set_option maxHeartbeats 2000000 in
theorem t_Couples_findStable_l205 (v3 : Int32)  (σ : MH) {o} (h : Couples_findStable_l205 v3 σ = some o) : Go m_Couples_findStable 6 (cH_Couples_findStable_205  (v3, σ)) (cS (cH_Couples_findStable_205 ) (cR_Couples_findStable_205 ) o) := by
  unfold Couples_findStable_l205 at h
  unfold cH_Couples_findStable_205
  refine Go.t (Go_sg bk_Couples_findStable 109 3 (c2 := (some 210, [some (.ref 129), none, none, some (.int v3), none, none, none], [.int (σ.1 129 6), .int v3], σ)) (ps := [shk 129 = 0]) rfl ⟨rfl, trivial⟩) ?_
  refine Go_icmp_ge bk_Couples_findStable 112 rfl (fun c44 => ?_) (fun c44 => ?_)
  · have h := ifT c44 h
    have h := Option.some.inj h
    subst h
    exact Go_ret0 bk_Couples_findStable 132 rfl
  · have h := ifF c44 h
    obtain ⟨g41, h⟩ := gdS h
    obtain ⟨g42, h⟩ := gdS h
    refine Go.t (Go_sg bk_Couples_findStable 113 11 (c2 := (some 231, [some (.ref 129), none, none, some (.int v3), none, none, none], [.int (-2 : Int32), .int (σ.1 130 (σ.1 131 v3.toNatClampNeg).toNatClampNeg), .int (σ.1 129 2), .ref 129], σ)) (ps := [shk 129 = 0, shk 129 = 0, shk 129 = 0, IA 131 12 ∧ inb v3 12 = true, IA 130 12 ∧ inb (σ.1 131 v3.toNatClampNeg) 12 = true]) rfl ⟨rfl, rfl, rfl, ⟨⟨rfl, rfl⟩, g41⟩, ⟨⟨rfl, rfl⟩, g42⟩, trivial⟩) ?_
    refine Go_icmp_ne bk_Couples_findStable 124 rfl (fun c43 => ?_) (fun c43 => ?_)
    · have h := ifF c43 h
      refine Go.t (Go_sg bk_Couples_findStable 127 1 (c2 := (some 239, [some (.ref 129), none, none, some (.int v3), none, none, none], [.int (1 : Int32), .int (σ.1 129 2), .ref 129], σ)) (ps := []) rfl trivial) ?_
      exact Go.t (Go.fg (LSub.cs (LSub.cn (LSub.cn (LSub.cs (LSub.cn (LSub.cn (LSub.cn (LSub.nil))))))))) (t_Couples_findStable_b239 v3 (1 : Int32) (σ.1 129 2) σ h)
    · have h := ifT c43 h
      refine Go.t (Go_sg bk_Couples_findStable 125 2 (c2 := (some 239, [some (.ref 129), none, none, some (.int v3), none, none, none], [.int (0 : Int32), .int (σ.1 129 2), .ref 129], σ)) (ps := []) rfl trivial) ?_
      exact Go.t (Go.fg (LSub.cs (LSub.cn (LSub.cn (LSub.cs (LSub.cn (LSub.cn (LSub.cn (LSub.nil))))))))) (t_Couples_findStable_b239 v3 (0 : Int32) (σ.1 129 2) σ h)
def Couples_findStable_L205  (s : Int32 × MH) : Option ((MH)) := itr (fun s : Int32 × MH => Couples_findStable_l205 s.1 s.2) FU s
set_option maxRecDepth 20000 in
set_option maxHeartbeats 2000000 in
theorem t_Couples_findStable_L205   (s : Int32 × MH) {r} (h : Couples_findStable_L205  s = some r) : Go m_Couples_findStable 6 (cH_Couples_findStable_205  s) (cR_Couples_findStable_205  r) := Go_itr (fun s o ho => t_Couples_findStable_l205 s.1 s.2 ho) FU s r h
def Couples_findStable_b203  (σ : MH) : Option (MH) := (Couples_findStable_L205 ((0 : Int32), σ)).bind fun z45 => some (z45)
set_option maxRecDepth 20000 in
set_option maxHeartbeats 2000000 in
theorem t_Couples_findStable_b203    (σ : MH) {o} (h : Couples_findStable_b203 σ = some o) : Go m_Couples_findStable 6 (some 203, [some (.ref 129), none, none, none, none, none, none], [], σ) ((none, [], [], o)) := by
  unfold Couples_findStable_b203 at h
  refine Go.t (Go_sg bk_Couples_findStable 107 2 (c2 := (some 205, [some (.ref 129), none, none, some (.int (0 : Int32)), none, none, none], [], σ)) (ps := []) rfl trivial) ?_
  obtain ⟨z45, q46, h⟩ := bdS h
  refine Go.t (Go.t (Go.fg (LSub.cs (LSub.cn (LSub.cn (LSub.cs (LSub.cn (LSub.cn (LSub.cn (LSub.nil))))))))) (t_Couples_findStable_L205 _ q46)) ?_
  have h := Option.some.inj h
  subst h
  exact Go.rf
def Couples_findStable0 (v1 : Nat) (σ : MH) : Option (MH) := (Couples_gather v1 σ).bind fun σ2 => (Couples_findStable_L7 v1 ((0 : Int32), σ2)).bind fun z25 => (Couples_findStable_L133 ((1 : Int32), (0 : Int32), z25)).bind fun z39 => Couples_findStable_b203 z39
set_option maxRecDepth 20000 in
set_option maxHeartbeats 2000000 in
theorem t_Couples_findStable0 (v1 : Nat) (hv1 : isLd v1) (σ : MH) {o} (h : Couples_findStable0 v1 σ = some o) : Go m_Couples_findStable 6 (some 0, [some (.ref 129), some (.ref v1), none, none, none, none, none], [], σ) ((none, [], [], o)) := by
  unfold Couples_findStable0 at h
  refine Go.t (Go_sg bk_Couples_findStable 0 2 (c2 := (some 2, [some (.ref 129), some (.ref v1), none, none, none, none, none], [.ref v1, .ref 129], σ)) (ps := []) rfl trivial) ?_
  obtain ⟨σ2, q3, h⟩ := bdS h
  refine Go.t (Go_callV bk_Couples_findStable 2 rfl nk_Couples_gather tw996 tw998 tw21 (ci := 0) rfl (as := [.ref v1]) (S := []) rfl rfl rfl rfl (Nat.le_of_ble_eq_true rfl) (Nat.le_of_ble_eq_true rfl) (ev_Couples_gather _ hv1 _ q3)) ?_
  refine Go.t (Go_sg bk_Couples_findStable 3 2 (c2 := (some 7, [some (.ref 129), some (.ref v1), some (.int (0 : Int32)), none, none, none, none], [], σ2)) (ps := []) rfl trivial) ?_
  obtain ⟨z25, q26, h⟩ := bdS h
  refine Go.t (Go.t (Go.fg (LSub.cs (LSub.cs (LSub.cs (LSub.cn (LSub.cn (LSub.cn (LSub.cn (LSub.nil))))))))) (t_Couples_findStable_L7 v1 hv1 _ q26)) ?_
  refine Go.t (Go_sg bk_Couples_findStable 68 4 (c2 := (some 133, [some (.ref 129), none, some (.int (1 : Int32)), some (.int (0 : Int32)), none, none, none], [], z25)) (ps := []) rfl trivial) ?_
  obtain ⟨z39, q40, h⟩ := bdS h
  refine Go.t (Go.t (Go.fg (LSub.cs (LSub.cn (LSub.cs (LSub.cs (LSub.cn (LSub.cn (LSub.cn (LSub.nil))))))))) (t_Couples_findStable_L133 _ q40)) ?_
  exact Go.t (Go.fg (LSub.cs (LSub.cn (LSub.cn (LSub.cn (LSub.cn (LSub.cn (LSub.cn (LSub.nil))))))))) (t_Couples_findStable_b203 z39 h)
def Couples_findStable (v1 : Nat) (σ : MH) : Option (MH) := Couples_findStable0 v1 σ
set_option maxRecDepth 20000 in
set_option maxHeartbeats 2000000 in
theorem ev_Couples_findStable (v1 : Nat) (hv1 : isLd v1) (σ : MH) {o} (h : Couples_findStable v1 σ = some o) : Ev m_Couples_findStable 6 [.ref 129, .ref v1] σ none o := Ev.of2 (by decide +kernel) rfl (Nat.le_of_ble_eq_true rfl) rfl (t_Couples_findStable0 v1 hv1 σ h)
def Pz_stable_b21 (v1 : Int32) (v2 : Int32) (σ : MH) : Option (Int32 × MH) := (Couples_findStable 1 σ).bind fun σ5 => if v2 = (0 : Int32) then some (σ5.1 129 2, σ5) else (if inb v1 12 = true then some (σ5.1 130 v1.toNatClampNeg, σ5) else none)
set_option maxRecDepth 20000 in
set_option maxHeartbeats 2000000 in
theorem t_Pz_stable_b21 (v1 : Int32) (v2 : Int32)   (σ : MH) {o} (h : Pz_stable_b21 v1 v2 σ = some o) : Go m_Pz_stable 7 (some 21, [some (.ref 0), some (.int v1), some (.int v2)], [], σ) ((none, [], [.int o.1], o.2)) := by
  unfold Pz_stable_b21 at h
  refine Go.t (Go_sg bk_Pz_stable 12 4 (c2 := (some 29, [some (.ref 0), some (.int v1), some (.int v2)], [.ref 1, .ref 129], σ)) (ps := [shk 0 = 10, shk 0 = 10]) rfl ⟨rfl, rfl, trivial⟩) ?_
  obtain ⟨σ5, q6, h⟩ := bdS h
  refine Go.t (Go_callV bk_Pz_stable 16 rfl nk_Couples_findStable tw1028 tw1029 tw1030 (ci := 0) rfl (as := [.ref 1]) (S := []) rfl rfl rfl rfl (Nat.le_of_ble_eq_true rfl) (Nat.le_of_ble_eq_true rfl) (ev_Couples_findStable _ (Or.inl rfl) _ q6)) ?_
  refine Go.t (Go_sg bk_Pz_stable 17 1 (c2 := (some 33, [some (.ref 0), some (.int v1), some (.int v2)], [.int v2], σ5)) (ps := []) rfl trivial) ?_
  refine Go_if_eq bk_Pz_stable 18 rfl (fun c8 => ?_) (fun c8 => ?_)
  · have h := ifT c8 h
    have h := Option.some.inj h
    subst h
    refine Go.t (Go_sg bk_Pz_stable 25 3 (c2 := (some 55, [some (.ref 0), some (.int v1), some (.int v2)], [.int (σ5.1 129 2)], σ5)) (ps := [shk 0 = 10, shk 129 = 0]) rfl ⟨rfl, rfl, trivial⟩) ?_
    exact Go_reti bk_Pz_stable 28 rfl
  · have h := ifF c8 h
    obtain ⟨g7, h⟩ := gdS h
    refine Go.t (Go_sg bk_Pz_stable 19 6 (c2 := (some 55, [some (.ref 0), some (.int v1), some (.int v2)], [.int (σ5.1 130 v1.toNatClampNeg)], σ5)) (ps := [shk 0 = 10, shk 129 = 0, IA 130 12 ∧ inb v1 12 = true]) rfl ⟨rfl, rfl, ⟨⟨rfl, rfl⟩, g7⟩, trivial⟩) ?_
    have h := Option.some.inj h
    subst h
    exact Go_reti bk_Pz_stable 28 rfl
def Pz_stable0 (v1 : Int32) (σ : MH) : Option (Int32 × MH) := (Land_isAlive 1 v1 σ).bind fun x1 => if v1 = (20 : Int32) then (Pz_stable_b21 v1 x1 σ) else (if x1 = (0 : Int32) then some ((-1 : Int32), σ) else (Pz_stable_b21 v1 x1 σ))
set_option maxRecDepth 20000 in
set_option maxHeartbeats 2000000 in
theorem t_Pz_stable0 (v1 : Int32)  (σ : MH) {o} (h : Pz_stable0 v1 σ = some o) : Go m_Pz_stable 7 (some 0, [some (.ref 0), some (.int v1), none], [], σ) ((none, [], [.int o.1], o.2)) := by
  unfold Pz_stable0 at h
  refine Go.t (Go_sg bk_Pz_stable 0 3 (c2 := (some 5, [some (.ref 0), some (.int v1), none], [.int v1, .ref 1], σ)) (ps := [shk 0 = 10]) rfl ⟨rfl, trivial⟩) ?_
  obtain ⟨x1, q3, h⟩ := bdS h
  refine Go.t (Go_callV bk_Pz_stable 3 rfl nk_Land_isAlive tw568 tw569 tw570 (ci := 3) rfl (as := [.int v1]) (S := []) rfl rfl rfl rfl (Nat.le_of_ble_eq_true rfl) (Nat.le_of_ble_eq_true rfl) (ev_Land_isAlive _ _ (Or.inl rfl) _ q3)) ?_
  refine Go.t (Go_sg bk_Pz_stable 4 3 (c2 := (some 12, [some (.ref 0), some (.int v1), some (.int x1)], [.int (20 : Int32), .int v1], σ)) (ps := []) rfl trivial) ?_
  refine Go_icmp_eq bk_Pz_stable 7 rfl (fun c10 => ?_) (fun c10 => ?_)
  · have h := ifT c10 h
    exact Go.t (Go.fg (LSub.cs (LSub.cs (LSub.cs (LSub.nil))))) (t_Pz_stable_b21 v1 x1 σ h)
  · have h := ifF c10 h
    refine Go.t (Go_sg bk_Pz_stable 8 1 (c2 := (some 16, [some (.ref 0), some (.int v1), some (.int x1)], [.int x1], σ)) (ps := []) rfl trivial) ?_
    refine Go_if_ne bk_Pz_stable 9 rfl (fun c9 => ?_) (fun c9 => ?_)
    · have h := ifF c9 h
      exact Go.t (Go.fg (LSub.cs (LSub.cs (LSub.cs (LSub.nil))))) (t_Pz_stable_b21 v1 x1 σ h)
    · have h := ifT c9 h
      have h := Option.some.inj h
      subst h
      refine Go.t (Go_sg bk_Pz_stable 10 1 (c2 := (some 20, [some (.ref 0), some (.int v1), some (.int x1)], [.int (-1 : Int32)], σ)) (ps := []) rfl trivial) ?_
      exact Go_reti bk_Pz_stable 11 rfl
def Pz_stable (v1 : Int32) (σ : MH) : Option (Int32 × MH) := Pz_stable0 v1 σ
set_option maxRecDepth 20000 in
set_option maxHeartbeats 2000000 in
theorem ev_Pz_stable (v1 : Int32)  (σ : MH) {o} (h : Pz_stable v1 σ = some o) : Ev m_Pz_stable 7 [.ref 0, .int v1] σ (some (.int o.1)) o.2 := Ev.of2 (by decide +kernel) rfl (Nat.le_of_ble_eq_true rfl) ⟨.int, rfl, rfl⟩ (t_Pz_stable0 v1 σ h)
def Pz_likingNow_b21 (v1 : Int32) (s0 : Int32) (σ : MH) : Option (Int32 × MH) := (Land_isAlive 1 s0 σ).bind fun x4 => if x4 = (0 : Int32) then some ((0 : Int32), σ) else ((Judge_liking 1 v1 s0 σ).bind fun (x7, σ8) => some (x7, σ8))
set_option maxRecDepth 20000 in
set_option maxHeartbeats 2000000 in
theorem t_Pz_likingNow_b21 (v1 : Int32) (s0 : Int32)   (σ : MH) {o} (h : Pz_likingNow_b21 v1 s0 σ = some o) : Go m_Pz_likingNow 5 (some 21, [some (.ref 0), some (.int v1), none], [.int s0], σ) ((none, [], [.int o.1], o.2)) := by
  unfold Pz_likingNow_b21 at h
  refine Go.t (Go_sg bk_Pz_likingNow 10 4 (c2 := (some 27, [some (.ref 0), some (.int v1), some (.int s0)], [.int s0, .ref 1], σ)) (ps := [shk 0 = 10]) rfl ⟨rfl, trivial⟩) ?_
  obtain ⟨x4, q6, h⟩ := bdS h
  refine Go.t (Go_callV bk_Pz_likingNow 14 rfl nk_Land_isAlive tw568 tw569 tw570 (ci := 3) rfl (as := [.int s0]) (S := []) rfl rfl rfl rfl (Nat.le_of_ble_eq_true rfl) (Nat.le_of_ble_eq_true rfl) (ev_Land_isAlive _ _ (Or.inl rfl) _ q6)) ?_
  refine Go_if_eq bk_Pz_likingNow 15 rfl (fun c10 => ?_) (fun c10 => ?_)
  · have h := ifT c10 h
    have h := Option.some.inj h
    subst h
    refine Go.t (Go_sg bk_Pz_likingNow 24 1 (c2 := (some 50, [some (.ref 0), some (.int v1), some (.int s0)], [.int (0 : Int32)], σ)) (ps := []) rfl trivial) ?_
    exact Go_reti bk_Pz_likingNow 25 rfl
  · have h := ifF c10 h
    refine Go.t (Go_sg bk_Pz_likingNow 16 6 (c2 := (some 43, [some (.ref 0), some (.int v1), some (.int s0)], [.int s0, .int v1, .ref 1, .ref 126], σ)) (ps := [shk 0 = 10, shk 0 = 10]) rfl ⟨rfl, rfl, trivial⟩) ?_
    obtain ⟨⟨x7, σ8⟩, q9, h⟩ := bdS h
    dsimp only at h
    refine Go.t (Go_callV bk_Pz_likingNow 22 rfl nk_Judge_liking tw972 tw973 tw974 (ci := 2) rfl (as := [.ref 1, .int v1, .int s0]) (S := []) rfl rfl rfl rfl (Nat.le_of_ble_eq_true rfl) (Nat.le_of_ble_eq_true rfl) (ev_Judge_liking _ _ _ (Or.inl rfl) _ q9)) ?_
    refine Go.t (Go_sg bk_Pz_likingNow 23 1 (c2 := (some 50, [some (.ref 0), some (.int v1), some (.int s0)], [.int x7], σ8)) (ps := []) rfl trivial) ?_
    have h := Option.some.inj h
    subst h
    exact Go_reti bk_Pz_likingNow 25 rfl
def Pz_likingNow0 (v1 : Int32) (σ : MH) : Option (Int32 × MH) := (Pz_isNumber v1 σ).bind fun x1 => if x1 = (0 : Int32) then (Pz_likingNow_b21 v1 (-2 : Int32) σ) else (if inb v1 12 = true then Pz_likingNow_b21 v1 (σ.1 4 v1.toNatClampNeg) σ else none)
set_option maxRecDepth 20000 in
set_option maxHeartbeats 2000000 in
theorem t_Pz_likingNow0 (v1 : Int32)  (σ : MH) {o} (h : Pz_likingNow0 v1 σ = some o) : Go m_Pz_likingNow 5 (some 0, [some (.ref 0), some (.int v1), none], [], σ) ((none, [], [.int o.1], o.2)) := by
  unfold Pz_likingNow0 at h
  refine Go.t (Go_sg bk_Pz_likingNow 0 1 (c2 := (some 1, [some (.ref 0), some (.int v1), none], [.int v1], σ)) (ps := []) rfl trivial) ?_
  obtain ⟨x1, q3, h⟩ := bdS h
  refine Go.t (Go_callS bk_Pz_likingNow 1 rfl nk_Pz_isNumber tw552 tw553 (as := [.int v1]) (S := []) rfl rfl rfl (Nat.le_of_ble_eq_true rfl) (Nat.le_of_ble_eq_true rfl) (ev_Pz_isNumber _ _ q3)) ?_
  refine Go_if_eq bk_Pz_likingNow 2 rfl (fun c12 => ?_) (fun c12 => ?_)
  · have h := ifT c12 h
    refine Go.t (Go_sg bk_Pz_likingNow 9 1 (c2 := (some 21, [some (.ref 0), some (.int v1), none], [.int (-2 : Int32)], σ)) (ps := []) rfl trivial) ?_
    exact Go.t (Go.fg (LSub.cs (LSub.cs (LSub.cn (LSub.nil))))) (t_Pz_likingNow_b21 v1 (-2 : Int32) σ h)
  · have h := ifF c12 h
    obtain ⟨g11, h⟩ := gdS h
    refine Go.t (Go_sg bk_Pz_likingNow 3 6 (c2 := (some 21, [some (.ref 0), some (.int v1), none], [.int (σ.1 4 v1.toNatClampNeg)], σ)) (ps := [shk 0 = 10, shk 1 = 3, IA 4 12 ∧ inb v1 12 = true]) rfl ⟨rfl, rfl, ⟨⟨rfl, rfl⟩, g11⟩, trivial⟩) ?_
    exact Go.t (Go.fg (LSub.cs (LSub.cs (LSub.cn (LSub.nil))))) (t_Pz_likingNow_b21 v1 (σ.1 4 v1.toNatClampNeg) σ h)
def Pz_likingNow (v1 : Int32) (σ : MH) : Option (Int32 × MH) := Pz_likingNow0 v1 σ
set_option maxRecDepth 20000 in
set_option maxHeartbeats 2000000 in
theorem ev_Pz_likingNow (v1 : Int32)  (σ : MH) {o} (h : Pz_likingNow v1 σ = some o) : Ev m_Pz_likingNow 5 [.ref 0, .int v1] σ (some (.int o.1)) o.2 := Ev.of2 (by decide +kernel) rfl (Nat.le_of_ble_eq_true rfl) ⟨.int, rfl, rfl⟩ (t_Pz_likingNow0 v1 σ h)
def Pz_wouldLeave0 (v1 : Int32) (v2 : Int32) (σ : MH) : Option (Int32 × MH) := (Land_isAlive 1 v1 σ).bind fun x1 => if x1 = (0 : Int32) then some ((0 : Int32), σ) else ((Land_isAlive 1 v2 σ).bind fun x4 => if x4 = (0 : Int32) then some ((0 : Int32), σ) else (if inb v1 12 = true then if σ.1 2 v1.toNatClampNeg = (0 : Int32) then (if inb v2 12 = true then if σ.1 2 v2.toNatClampNeg = (1 : Int32) then (if σ.1 4 v1.toNatClampNeg = v2 then some ((0 : Int32), σ) else ((Judge_fit 1 v1 v2 σ).bind fun (x9, σ10) => if x9 = (0 : Int32) then some ((0 : Int32), σ10) else ((Judge_liking 1 v1 v2 σ10).bind fun (x12, σ13) => (Pz_likingNow v1 σ13).bind fun (x15, σ16) => if x12 ≤ x15 then some ((0 : Int32), σ16) else ((Judge_liking 1 v2 v1 σ16).bind fun (x18, σ19) => (Pz_likingNow v2 σ19).bind fun (x21, σ22) => if x18 ≤ x21 then some ((0 : Int32), σ22) else some ((1 : Int32), σ22))))) else some ((0 : Int32), σ) else none) else some ((0 : Int32), σ) else none))
set_option maxRecDepth 20000 in
set_option maxHeartbeats 2000000 in
theorem t_Pz_wouldLeave0 (v1 : Int32) (v2 : Int32)  (σ : MH) {o} (h : Pz_wouldLeave0 v1 v2 σ = some o) : Go m_Pz_wouldLeave 6 (some 0, [some (.ref 0), some (.int v1), some (.int v2)], [], σ) ((none, [], [.int o.1], o.2)) := by
  unfold Pz_wouldLeave0 at h
  refine Go.t (Go_sg bk_Pz_wouldLeave 0 3 (c2 := (some 5, [some (.ref 0), some (.int v1), some (.int v2)], [.int v1, .ref 1], σ)) (ps := [shk 0 = 10]) rfl ⟨rfl, trivial⟩) ?_
  obtain ⟨x1, q3, h⟩ := bdS h
  refine Go.t (Go_callV bk_Pz_wouldLeave 3 rfl nk_Land_isAlive tw568 tw569 tw570 (ci := 3) rfl (as := [.int v1]) (S := []) rfl rfl rfl rfl (Nat.le_of_ble_eq_true rfl) (Nat.le_of_ble_eq_true rfl) (ev_Land_isAlive _ _ (Or.inl rfl) _ q3)) ?_
  refine Go_if_eq bk_Pz_wouldLeave 4 rfl (fun c31 => ?_) (fun c31 => ?_)
  · have h := ifT c31 h
    have h := Option.some.inj h
    subst h
    refine Go.t (Go_sg bk_Pz_wouldLeave 23 1 (c2 := (some 48, [some (.ref 0), some (.int v1), some (.int v2)], [.int (0 : Int32)], σ)) (ps := []) rfl trivial) ?_
    exact Go_reti bk_Pz_wouldLeave 24 rfl
  · have h := ifF c31 h
    refine Go.t (Go_sg bk_Pz_wouldLeave 5 3 (c2 := (some 16, [some (.ref 0), some (.int v1), some (.int v2)], [.int v2, .ref 1], σ)) (ps := [shk 0 = 10]) rfl ⟨rfl, trivial⟩) ?_
    obtain ⟨x4, q6, h⟩ := bdS h
    refine Go.t (Go_callV bk_Pz_wouldLeave 8 rfl nk_Land_isAlive tw568 tw569 tw570 (ci := 3) rfl (as := [.int v2]) (S := []) rfl rfl rfl rfl (Nat.le_of_ble_eq_true rfl) (Nat.le_of_ble_eq_true rfl) (ev_Land_isAlive _ _ (Or.inl rfl) _ q6)) ?_
    refine Go_if_eq bk_Pz_wouldLeave 9 rfl (fun c30 => ?_) (fun c30 => ?_)
    · have h := ifT c30 h
      have h := Option.some.inj h
      subst h
      refine Go.t (Go_sg bk_Pz_wouldLeave 23 1 (c2 := (some 48, [some (.ref 0), some (.int v1), some (.int v2)], [.int (0 : Int32)], σ)) (ps := []) rfl trivial) ?_
      exact Go_reti bk_Pz_wouldLeave 24 rfl
    · have h := ifF c30 h
      obtain ⟨g7, h⟩ := gdS h
      refine Go.t (Go_sg bk_Pz_wouldLeave 10 5 (c2 := (some 31, [some (.ref 0), some (.int v1), some (.int v2)], [.int (σ.1 2 v1.toNatClampNeg)], σ)) (ps := [shk 0 = 10, shk 1 = 3, IA 2 12 ∧ inb v1 12 = true]) rfl ⟨rfl, rfl, ⟨⟨rfl, rfl⟩, g7⟩, trivial⟩) ?_
      refine Go_if_ne bk_Pz_wouldLeave 15 rfl (fun c29 => ?_) (fun c29 => ?_)
      · have h := ifF c29 h
        have h := Option.some.inj h
        subst h
        refine Go.t (Go_sg bk_Pz_wouldLeave 23 1 (c2 := (some 48, [some (.ref 0), some (.int v1), some (.int v2)], [.int (0 : Int32)], σ)) (ps := []) rfl trivial) ?_
        exact Go_reti bk_Pz_wouldLeave 24 rfl
      · have h := ifT c29 h
        obtain ⟨g8, h⟩ := gdS h
        refine Go.t (Go_sg bk_Pz_wouldLeave 16 6 (c2 := (some 44, [some (.ref 0), some (.int v1), some (.int v2)], [.int (1 : Int32), .int (σ.1 2 v2.toNatClampNeg)], σ)) (ps := [shk 0 = 10, shk 1 = 3, IA 2 12 ∧ inb v2 12 = true]) rfl ⟨rfl, rfl, ⟨⟨rfl, rfl⟩, g8⟩, trivial⟩) ?_
        refine Go_icmp_eq bk_Pz_wouldLeave 22 rfl (fun c28 => ?_) (fun c28 => ?_)
        · have h := ifT c28 h
          refine Go.t (Go_sg bk_Pz_wouldLeave 25 6 (c2 := (some 59, [some (.ref 0), some (.int v1), some (.int v2)], [.int v2, .int (σ.1 4 v1.toNatClampNeg)], σ)) (ps := [shk 0 = 10, shk 1 = 3, IA 4 12 ∧ inb v1 12 = true]) rfl ⟨rfl, rfl, ⟨⟨rfl, rfl⟩, g7⟩, trivial⟩) ?_
          refine Go_icmp_eq bk_Pz_wouldLeave 31 rfl (fun c27 => ?_) (fun c27 => ?_)
          · have h := ifT c27 h
            have h := Option.some.inj h
            subst h
            refine Go.t (Go_sg bk_Pz_wouldLeave 64 1 (c2 := (some 125, [some (.ref 0), some (.int v1), some (.int v2)], [.int (0 : Int32)], σ)) (ps := []) rfl trivial) ?_
            exact Go_reti bk_Pz_wouldLeave 65 rfl
          · have h := ifF c27 h
            refine Go.t (Go_sg bk_Pz_wouldLeave 32 6 (c2 := (some 72, [some (.ref 0), some (.int v1), some (.int v2)], [.int v2, .int v1, .ref 1, .ref 126], σ)) (ps := [shk 0 = 10, shk 0 = 10]) rfl ⟨rfl, rfl, trivial⟩) ?_
            obtain ⟨⟨x9, σ10⟩, q11, h⟩ := bdS h
            dsimp only at h
            refine Go.t (Go_callV bk_Pz_wouldLeave 38 rfl nk_Judge_fit tw962 tw864 tw865 (ci := 2) rfl (as := [.ref 1, .int v1, .int v2]) (S := []) rfl rfl rfl rfl (Nat.le_of_ble_eq_true rfl) (Nat.le_of_ble_eq_true rfl) (ev_Judge_fit _ _ _ (Or.inl rfl) _ q11)) ?_
            refine Go_if_eq bk_Pz_wouldLeave 39 rfl (fun c26 => ?_) (fun c26 => ?_)
            · have h := ifT c26 h
              have h := Option.some.inj h
              subst h
              refine Go.t (Go_sg bk_Pz_wouldLeave 64 1 (c2 := (some 125, [some (.ref 0), some (.int v1), some (.int v2)], [.int (0 : Int32)], σ10)) (ps := []) rfl trivial) ?_
              exact Go_reti bk_Pz_wouldLeave 65 rfl
            · have h := ifF c26 h
              refine Go.t (Go_sg bk_Pz_wouldLeave 40 6 (c2 := (some 88, [some (.ref 0), some (.int v1), some (.int v2)], [.int v2, .int v1, .ref 1, .ref 126], σ10)) (ps := [shk 0 = 10, shk 0 = 10]) rfl ⟨rfl, rfl, trivial⟩) ?_
              obtain ⟨⟨x12, σ13⟩, q14, h⟩ := bdS h
              dsimp only at h
              refine Go.t (Go_callV bk_Pz_wouldLeave 46 rfl nk_Judge_liking tw972 tw973 tw974 (ci := 2) rfl (as := [.ref 1, .int v1, .int v2]) (S := []) rfl rfl rfl rfl (Nat.le_of_ble_eq_true rfl) (Nat.le_of_ble_eq_true rfl) (ev_Judge_liking _ _ _ (Or.inl rfl) _ q14)) ?_
              refine Go.t (Go_sg bk_Pz_wouldLeave 47 2 (c2 := (some 93, [some (.ref 0), some (.int v1), some (.int v2)], [.int v1, .ref 0, .int x12], σ13)) (ps := []) rfl trivial) ?_
              obtain ⟨⟨x15, σ16⟩, q17, h⟩ := bdS h
              dsimp only at h
              refine Go.t (Go_callV bk_Pz_wouldLeave 49 rfl nk_Pz_likingNow tw1049 tw1051 tw30 (ci := 10) rfl (as := [.int v1]) (S := [.int x12]) rfl rfl rfl rfl (Nat.le_of_ble_eq_true rfl) (Nat.le_of_ble_eq_true rfl) (ev_Pz_likingNow _ _ q17)) ?_
              refine Go_icmp_le bk_Pz_wouldLeave 50 rfl (fun c25 => ?_) (fun c25 => ?_)
              · have h := ifT c25 h
                have h := Option.some.inj h
                subst h
                refine Go.t (Go_sg bk_Pz_wouldLeave 64 1 (c2 := (some 125, [some (.ref 0), some (.int v1), some (.int v2)], [.int (0 : Int32)], σ16)) (ps := []) rfl trivial) ?_
                exact Go_reti bk_Pz_wouldLeave 65 rfl
              · have h := ifF c25 h
                refine Go.t (Go_sg bk_Pz_wouldLeave 51 6 (c2 := (some 109, [some (.ref 0), some (.int v1), some (.int v2)], [.int v1, .int v2, .ref 1, .ref 126], σ16)) (ps := [shk 0 = 10, shk 0 = 10]) rfl ⟨rfl, rfl, trivial⟩) ?_
                obtain ⟨⟨x18, σ19⟩, q20, h⟩ := bdS h
                dsimp only at h
                refine Go.t (Go_callV bk_Pz_wouldLeave 57 rfl nk_Judge_liking tw972 tw973 tw974 (ci := 2) rfl (as := [.ref 1, .int v2, .int v1]) (S := []) rfl rfl rfl rfl (Nat.le_of_ble_eq_true rfl) (Nat.le_of_ble_eq_true rfl) (ev_Judge_liking _ _ _ (Or.inl rfl) _ q20)) ?_
                refine Go.t (Go_sg bk_Pz_wouldLeave 58 2 (c2 := (some 114, [some (.ref 0), some (.int v1), some (.int v2)], [.int v2, .ref 0, .int x18], σ19)) (ps := []) rfl trivial) ?_
                obtain ⟨⟨x21, σ22⟩, q23, h⟩ := bdS h
                dsimp only at h
                refine Go.t (Go_callV bk_Pz_wouldLeave 60 rfl nk_Pz_likingNow tw1049 tw1051 tw30 (ci := 10) rfl (as := [.int v2]) (S := [.int x18]) rfl rfl rfl rfl (Nat.le_of_ble_eq_true rfl) (Nat.le_of_ble_eq_true rfl) (ev_Pz_likingNow _ _ q23)) ?_
                refine Go_icmp_le bk_Pz_wouldLeave 61 rfl (fun c24 => ?_) (fun c24 => ?_)
                · have h := ifT c24 h
                  have h := Option.some.inj h
                  subst h
                  refine Go.t (Go_sg bk_Pz_wouldLeave 64 1 (c2 := (some 125, [some (.ref 0), some (.int v1), some (.int v2)], [.int (0 : Int32)], σ22)) (ps := []) rfl trivial) ?_
                  exact Go_reti bk_Pz_wouldLeave 65 rfl
                · have h := ifF c24 h
                  refine Go.t (Go_sg bk_Pz_wouldLeave 62 2 (c2 := (some 125, [some (.ref 0), some (.int v1), some (.int v2)], [.int (1 : Int32)], σ22)) (ps := []) rfl trivial) ?_
                  have h := Option.some.inj h
                  subst h
                  exact Go_reti bk_Pz_wouldLeave 65 rfl
        · have h := ifF c28 h
          have h := Option.some.inj h
          subst h
          refine Go.t (Go_sg bk_Pz_wouldLeave 23 1 (c2 := (some 48, [some (.ref 0), some (.int v1), some (.int v2)], [.int (0 : Int32)], σ)) (ps := []) rfl trivial) ?_
          exact Go_reti bk_Pz_wouldLeave 24 rfl
def Pz_wouldLeave (v1 : Int32) (v2 : Int32) (σ : MH) : Option (Int32 × MH) := bzo (Pz_wouldLeave0 v1 v2 σ)
set_option maxRecDepth 20000 in
set_option maxHeartbeats 2000000 in
theorem ev_Pz_wouldLeave (v1 : Int32) (v2 : Int32)  (σ : MH) {o} (h : Pz_wouldLeave v1 v2 σ = some o) : Ev m_Pz_wouldLeave 6 [.ref 0, .int v1, .int v2] σ (some (.int o.1)) o.2 := Ev.of2 (by decide +kernel) rfl (Nat.le_of_ble_eq_true rfl) ⟨.boolean, rfl, nrB (bzo2 h)⟩ (t_Pz_wouldLeave0 v1 v2 σ (bzo1 h))
def cH_Pz_unrest_19 (v1 : Int32) (s : Int32 × Int32 × Int32 × MH) : MC := (some 19, [some (.ref 0), some (.int v1), some (.int s.1), some (.int s.2.1), some (.int s.2.2.1), none], [], s.2.2.2)
def cR_Pz_unrest_19 (v1 : Int32) : ((Int32 × Int32 × MH)) → MC := (fun r : Int32 × Int32 × MH => ((some 79, [none, some (.int v1), some (.int r.1), some (.int r.2.1), none, none], [], r.2.2) : MC))
def cH_Pz_unrest_29 (v1 : Int32) (v4 : Int32) (s : Int32 × Int32 × Int32 × MH) : MC := (some 29, [some (.ref 0), some (.int v1), some (.int s.1), some (.int s.2.1), some (.int v4), some (.int s.2.2.1)], [], s.2.2.2)
def cR_Pz_unrest_29 (v1 : Int32) (v4 : Int32) : ((Int32 × Int32 × MH)) → MC := (fun r : Int32 × Int32 × MH => ((some 73, [some (.ref 0), some (.int v1), some (.int r.1), some (.int r.2.1), some (.int v4), none], [], r.2.2) : MC))
def Pz_unrest_b67 (v1 : Int32) (v2 : Int32) (v3 : Int32) (v4 : Int32) (v5 : Int32) (σ : MH) : Option (((Int32 × Int32 × Int32 × MH) ⊕ ((Int32 × Int32 × MH)))) := some (.inl (v2, v3, v5 + (1 : Int32), σ))
set_option maxRecDepth 20000 in
set_option maxHeartbeats 2000000 in
theorem t_Pz_unrest_b67 (v1 : Int32) (v2 : Int32) (v3 : Int32) (v4 : Int32) (v5 : Int32)   (σ : MH) {o} (h : Pz_unrest_b67 v1 v2 v3 v4 v5 σ = some o) : Go m_Pz_unrest 7 (some 67, [some (.ref 0), some (.int v1), some (.int v2), some (.int v3), some (.int v4), some (.int v5)], [], σ) (cS (cH_Pz_unrest_29 v1 v4) (cR_Pz_unrest_29 v1 v4) o) := by
  unfold Pz_unrest_b67 at h
  refine Go.t (Go_sg bk_Pz_unrest 36 2 (c2 := (some 29, [some (.ref 0), some (.int v1), some (.int v2), some (.int v3), some (.int v4), some (.int (v5 + (1 : Int32)))], [], σ)) (ps := []) rfl trivial) ?_
  have h := Option.some.inj h
  subst h
  exact Go.fg (LSub.cs (LSub.cs (LSub.cs (LSub.cs (LSub.cs (LSub.cs (LSub.nil)))))))
def Pz_unrest_b64 (v1 : Int32) (v2 : Int32) (v3 : Int32) (v4 : Int32) (v5 : Int32) (σ : MH) : Option (((Int32 × Int32 × Int32 × MH) ⊕ ((Int32 × Int32 × MH)))) := Pz_unrest_b67 v1 (v2 + (1 : Int32)) v3 v4 v5 σ
set_option maxRecDepth 20000 in
set_option maxHeartbeats 2000000 in
theorem t_Pz_unrest_b64 (v1 : Int32) (v2 : Int32) (v3 : Int32) (v4 : Int32) (v5 : Int32)   (σ : MH) {o} (h : Pz_unrest_b64 v1 v2 v3 v4 v5 σ = some o) : Go m_Pz_unrest 7 (some 64, [some (.ref 0), some (.int v1), some (.int v2), some (.int v3), some (.int v4), some (.int v5)], [], σ) (cS (cH_Pz_unrest_29 v1 v4) (cR_Pz_unrest_29 v1 v4) o) := by
  unfold Pz_unrest_b64 at h
  refine Go.t (Go_sg bk_Pz_unrest 35 1 (c2 := (some 67, [some (.ref 0), some (.int v1), some (.int (v2 + (1 : Int32))), some (.int v3), some (.int v4), some (.int v5)], [], σ)) (ps := []) rfl trivial) ?_
  exact Go.t (Go.fg (LSub.cs (LSub.cs (LSub.cs (LSub.cs (LSub.cs (LSub.cs (LSub.nil)))))))) (t_Pz_unrest_b67 v1 (v2 + (1 : Int32)) v3 v4 v5 σ h)
def Pz_unrest_b63 (v1 : Int32) (v2 : Int32) (v4 : Int32) (v5 : Int32) (s0 : Int32) (σ : MH) : Option (((Int32 × Int32 × Int32 × MH) ⊕ ((Int32 × Int32 × MH)))) := Pz_unrest_b64 v1 v2 s0 v4 v5 σ
set_option maxRecDepth 20000 in
set_option maxHeartbeats 2000000 in
theorem t_Pz_unrest_b63 (v1 : Int32) (v2 : Int32) (v4 : Int32) (v5 : Int32) (s0 : Int32)   (σ : MH) {o} (h : Pz_unrest_b63 v1 v2 v4 v5 s0 σ = some o) : Go m_Pz_unrest 7 (some 63, [some (.ref 0), some (.int v1), some (.int v2), none, some (.int v4), some (.int v5)], [.int s0], σ) (cS (cH_Pz_unrest_29 v1 v4) (cR_Pz_unrest_29 v1 v4) o) := by
  unfold Pz_unrest_b63 at h
  refine Go.t (Go_sg bk_Pz_unrest 34 1 (c2 := (some 64, [some (.ref 0), some (.int v1), some (.int v2), some (.int s0), some (.int v4), some (.int v5)], [], σ)) (ps := []) rfl trivial) ?_
  exact Go.t (Go.fg (LSub.cs (LSub.cs (LSub.cs (LSub.cs (LSub.cs (LSub.cs (LSub.nil)))))))) (t_Pz_unrest_b64 v1 v2 s0 v4 v5 σ h)
def Pz_unrest_l29 (v1 : Int32) (v4 : Int32) (v2 : Int32) (v3 : Int32) (v5 : Int32) (σ : MH) : Option (((Int32 × Int32 × Int32 × MH) ⊕ ((Int32 × Int32 × MH)))) := if (12 : Int32) ≤ v5 then some (.inr (v2, v3, σ)) else ((Pz_wouldLeave v4 v5 σ).bind fun (x1, σ2) => if x1 = (0 : Int32) then (Pz_unrest_b67 v1 v2 v3 v4 v5 σ2) else (if v2 = (0 : Int32) then (if v1 = (1 : Int32) then (Pz_unrest_b63 v1 v2 v4 v5 v4 σ2) else (Pz_unrest_b63 v1 v2 v4 v5 v5 σ2)) else (Pz_unrest_b64 v1 v2 v3 v4 v5 σ2)))
set_option maxRecDepth 20000 in
set_option maxHeartbeats 2000000 in
theorem t_Pz_unrest_l29 (v1 : Int32) (v4 : Int32) (v2 : Int32) (v3 : Int32) (v5 : Int32)  (σ : MH) {o} (h : Pz_unrest_l29 v1 v4 v2 v3 v5 σ = some o) : Go m_Pz_unrest 7 (cH_Pz_unrest_29 v1 v4 (v2, v3, v5, σ)) (cS (cH_Pz_unrest_29 v1 v4) (cR_Pz_unrest_29 v1 v4) o) := by
  unfold Pz_unrest_l29 at h
  unfold cH_Pz_unrest_29
  refine Go.t (Go_sg bk_Pz_unrest 18 2 (c2 := (some 33, [some (.ref 0), some (.int v1), some (.int v2), some (.int v3), some (.int v4), some (.int v5)], [.int (12 : Int32), .int v5], σ)) (ps := []) rfl trivial) ?_
  refine Go_icmp_ge bk_Pz_unrest 20 rfl (fun c7 => ?_) (fun c7 => ?_)
  · have h := ifT c7 h
    have h := Option.some.inj h
    subst h
    exact Go.fg (LSub.cs (LSub.cs (LSub.cs (LSub.cs (LSub.cs (LSub.cn (LSub.nil)))))))
  · have h := ifF c7 h
    refine Go.t (Go_sg bk_Pz_unrest 21 3 (c2 := (some 41, [some (.ref 0), some (.int v1), some (.int v2), some (.int v3), some (.int v4), some (.int v5)], [.int v5, .int v4, .ref 0], σ)) (ps := []) rfl trivial) ?_
    obtain ⟨⟨x1, σ2⟩, q3, h⟩ := bdS h
    dsimp only at h
    refine Go.t (Go_callV bk_Pz_unrest 24 rfl nk_Pz_wouldLeave tw1045 tw1047 tw29 (ci := 10) rfl (as := [.int v4, .int v5]) (S := []) rfl rfl rfl rfl (Nat.le_of_ble_eq_true rfl) (Nat.le_of_ble_eq_true rfl) (ev_Pz_wouldLeave _ _ _ q3)) ?_
    refine Go_if_eq bk_Pz_unrest 25 rfl (fun c6 => ?_) (fun c6 => ?_)
    · have h := ifT c6 h
      exact Go.t (Go.fg (LSub.cs (LSub.cs (LSub.cs (LSub.cs (LSub.cs (LSub.cs (LSub.nil)))))))) (t_Pz_unrest_b67 v1 v2 v3 v4 v5 σ2 h)
    · have h := ifF c6 h
      refine Go.t (Go_sg bk_Pz_unrest 26 1 (c2 := (some 48, [some (.ref 0), some (.int v1), some (.int v2), some (.int v3), some (.int v4), some (.int v5)], [.int v2], σ2)) (ps := []) rfl trivial) ?_
      refine Go_if_ne bk_Pz_unrest 27 rfl (fun c5 => ?_) (fun c5 => ?_)
      · have h := ifF c5 h
        exact Go.t (Go.fg (LSub.cs (LSub.cs (LSub.cs (LSub.cs (LSub.cs (LSub.cs (LSub.nil)))))))) (t_Pz_unrest_b64 v1 v2 v3 v4 v5 σ2 h)
      · have h := ifT c5 h
        refine Go.t (Go_sg bk_Pz_unrest 28 2 (c2 := (some 53, [some (.ref 0), some (.int v1), some (.int v2), some (.int v3), some (.int v4), some (.int v5)], [.int (1 : Int32), .int v1], σ2)) (ps := []) rfl trivial) ?_
        refine Go_icmp_ne bk_Pz_unrest 30 rfl (fun c4 => ?_) (fun c4 => ?_)
        · have h := ifF c4 h
          refine Go.t (Go_sg bk_Pz_unrest 33 1 (c2 := (some 63, [some (.ref 0), some (.int v1), some (.int v2), some (.int v3), some (.int v4), some (.int v5)], [.int v5], σ2)) (ps := []) rfl trivial) ?_
          exact Go.t (Go.fg (LSub.cs (LSub.cs (LSub.cs (LSub.cn (LSub.cs (LSub.cs (LSub.nil)))))))) (t_Pz_unrest_b63 v1 v2 v4 v5 v5 σ2 h)
        · have h := ifT c4 h
          refine Go.t (Go_sg bk_Pz_unrest 31 2 (c2 := (some 63, [some (.ref 0), some (.int v1), some (.int v2), some (.int v3), some (.int v4), some (.int v5)], [.int v4], σ2)) (ps := []) rfl trivial) ?_
          exact Go.t (Go.fg (LSub.cs (LSub.cs (LSub.cs (LSub.cn (LSub.cs (LSub.cs (LSub.nil)))))))) (t_Pz_unrest_b63 v1 v2 v4 v5 v4 σ2 h)
def Pz_unrest_L29 (v1 : Int32) (v4 : Int32) (s : Int32 × Int32 × Int32 × MH) : Option ((Int32 × Int32 × MH)) := itr (fun s : Int32 × Int32 × Int32 × MH => Pz_unrest_l29 v1 v4 s.1 s.2.1 s.2.2.1 s.2.2.2) FU s
set_option maxRecDepth 20000 in
set_option maxHeartbeats 2000000 in
theorem t_Pz_unrest_L29 (v1 : Int32) (v4 : Int32)  (s : Int32 × Int32 × Int32 × MH) {r} (h : Pz_unrest_L29 v1 v4 s = some r) : Go m_Pz_unrest 7 (cH_Pz_unrest_29 v1 v4 s) (cR_Pz_unrest_29 v1 v4 r) := Go_itr (fun s o ho => t_Pz_unrest_l29 v1 v4 s.1 s.2.1 s.2.2.1 s.2.2.2 ho) FU s r h
def Pz_unrest_l19 (v1 : Int32) (v2 : Int32) (v3 : Int32) (v4 : Int32) (σ : MH) : Option (((Int32 × Int32 × Int32 × MH) ⊕ ((Int32 × Int32 × MH)))) := if (12 : Int32) ≤ v4 then some (.inr (v2, v3, σ)) else ((Pz_unrest_L29 v1 v4 (v2, v3, (0 : Int32), σ)).bind fun z8 => some (.inl (z8.1, z8.2.1, v4 + (1 : Int32), z8.2.2)))
set_option maxRecDepth 20000 in
set_option maxHeartbeats 2000000 in
theorem t_Pz_unrest_l19 (v1 : Int32) (v2 : Int32) (v3 : Int32) (v4 : Int32)  (σ : MH) {o} (h : Pz_unrest_l19 v1 v2 v3 v4 σ = some o) : Go m_Pz_unrest 7 (cH_Pz_unrest_19 v1 (v2, v3, v4, σ)) (cS (cH_Pz_unrest_19 v1) (cR_Pz_unrest_19 v1) o) := by
  unfold Pz_unrest_l19 at h
  unfold cH_Pz_unrest_19
  refine Go.t (Go_sg bk_Pz_unrest 13 2 (c2 := (some 23, [some (.ref 0), some (.int v1), some (.int v2), some (.int v3), some (.int v4), none], [.int (12 : Int32), .int v4], σ)) (ps := []) rfl trivial) ?_
  refine Go_icmp_ge bk_Pz_unrest 15 rfl (fun c10 => ?_) (fun c10 => ?_)
  · have h := ifT c10 h
    have h := Option.some.inj h
    subst h
    exact Go.fg (LSub.cn (LSub.cs (LSub.cs (LSub.cs (LSub.cn (LSub.cn (LSub.nil)))))))
  · have h := ifF c10 h
    refine Go.t (Go_sg bk_Pz_unrest 16 2 (c2 := (some 29, [some (.ref 0), some (.int v1), some (.int v2), some (.int v3), some (.int v4), some (.int (0 : Int32))], [], σ)) (ps := []) rfl trivial) ?_
    obtain ⟨z8, q9, h⟩ := bdS h
    refine Go.t (Go.t (Go.fg (LSub.cs (LSub.cs (LSub.cs (LSub.cs (LSub.cs (LSub.cs (LSub.nil)))))))) (t_Pz_unrest_L29 v1 v4 _ q9)) ?_
    refine Go.t (Go_sg bk_Pz_unrest 38 2 (c2 := (some 19, [some (.ref 0), some (.int v1), some (.int z8.1), some (.int z8.2.1), some (.int (v4 + (1 : Int32))), none], [], z8.2.2)) (ps := []) rfl trivial) ?_
    have h := Option.some.inj h
    subst h
    exact Go.fg (LSub.cs (LSub.cs (LSub.cs (LSub.cs (LSub.cs (LSub.cn (LSub.nil)))))))
def Pz_unrest_L19 (v1 : Int32) (s : Int32 × Int32 × Int32 × MH) : Option ((Int32 × Int32 × MH)) := itr (fun s : Int32 × Int32 × Int32 × MH => Pz_unrest_l19 v1 s.1 s.2.1 s.2.2.1 s.2.2.2) FU s
set_option maxRecDepth 20000 in
set_option maxHeartbeats 2000000 in
theorem t_Pz_unrest_L19 (v1 : Int32)  (s : Int32 × Int32 × Int32 × MH) {r} (h : Pz_unrest_L19 v1 s = some r) : Go m_Pz_unrest 7 (cH_Pz_unrest_19 v1 s) (cR_Pz_unrest_19 v1 r) := Go_itr (fun s o ho => t_Pz_unrest_l19 v1 s.1 s.2.1 s.2.2.1 s.2.2.2 ho) FU s r h
def Pz_unrest0 (v1 : Int32) (σ : MH) : Option (Int32 × MH) := if v1 < (0 : Int32) then some ((-1 : Int32), σ) else (if v1 ≤ (2 : Int32) then ((Pz_unrest_L19 v1 ((0 : Int32), (-2 : Int32), (0 : Int32), σ)).bind fun z11 => if v1 = (0 : Int32) then some (z11.1, z11.2.2) else some (z11.2.1, z11.2.2)) else some ((-1 : Int32), σ))
set_option maxRecDepth 20000 in
set_option maxHeartbeats 2000000 in
theorem t_Pz_unrest0 (v1 : Int32)  (σ : MH) {o} (h : Pz_unrest0 v1 σ = some o) : Go m_Pz_unrest 7 (some 0, [some (.ref 0), some (.int v1), none, none, none, none], [], σ) ((none, [], [.int o.1], o.2)) := by
  unfold Pz_unrest0 at h
  refine Go.t (Go_sg bk_Pz_unrest 0 1 (c2 := (some 1, [some (.ref 0), some (.int v1), none, none, none, none], [.int v1], σ)) (ps := []) rfl trivial) ?_
  refine Go_if_lt bk_Pz_unrest 1 rfl (fun c15 => ?_) (fun c15 => ?_)
  · have h := ifT c15 h
    have h := Option.some.inj h
    subst h
    refine Go.t (Go_sg bk_Pz_unrest 5 1 (c2 := (some 10, [some (.ref 0), some (.int v1), none, none, none, none], [.int (-1 : Int32)], σ)) (ps := []) rfl trivial) ?_
    exact Go_reti bk_Pz_unrest 6 rfl
  · have h := ifF c15 h
    refine Go.t (Go_sg bk_Pz_unrest 2 2 (c2 := (some 6, [some (.ref 0), some (.int v1), none, none, none, none], [.int (2 : Int32), .int v1], σ)) (ps := []) rfl trivial) ?_
    refine Go_icmp_le bk_Pz_unrest 4 rfl (fun c14 => ?_) (fun c14 => ?_)
    · have h := ifT c14 h
      refine Go.t (Go_sg bk_Pz_unrest 7 6 (c2 := (some 19, [some (.ref 0), some (.int v1), some (.int (0 : Int32)), some (.int (-2 : Int32)), some (.int (0 : Int32)), none], [], σ)) (ps := []) rfl trivial) ?_
      obtain ⟨z11, q12, h⟩ := bdS h
      refine Go.t (Go.t (Go.fg (LSub.cs (LSub.cs (LSub.cs (LSub.cs (LSub.cs (LSub.cn (LSub.nil)))))))) (t_Pz_unrest_L19 v1 _ q12)) ?_
      refine Go.t (Go_sg bk_Pz_unrest 40 1 (c2 := (some 80, [none, some (.int v1), some (.int z11.1), some (.int z11.2.1), none, none], [.int v1], z11.2.2)) (ps := []) rfl trivial) ?_
      refine Go_if_ne bk_Pz_unrest 41 rfl (fun c13 => ?_) (fun c13 => ?_)
      · have h := ifF c13 h
        have h := Option.some.inj h
        subst h
        refine Go.t (Go_sg bk_Pz_unrest 44 1 (c2 := (some 88, [none, some (.int v1), some (.int z11.1), some (.int z11.2.1), none, none], [.int z11.2.1], z11.2.2)) (ps := []) rfl trivial) ?_
        exact Go_reti bk_Pz_unrest 45 rfl
      · have h := ifT c13 h
        refine Go.t (Go_sg bk_Pz_unrest 42 2 (c2 := (some 88, [none, some (.int v1), some (.int z11.1), some (.int z11.2.1), none, none], [.int z11.1], z11.2.2)) (ps := []) rfl trivial) ?_
        have h := Option.some.inj h
        subst h
        exact Go_reti bk_Pz_unrest 45 rfl
    · have h := ifF c14 h
      have h := Option.some.inj h
      subst h
      refine Go.t (Go_sg bk_Pz_unrest 5 1 (c2 := (some 10, [some (.ref 0), some (.int v1), none, none, none, none], [.int (-1 : Int32)], σ)) (ps := []) rfl trivial) ?_
      exact Go_reti bk_Pz_unrest 6 rfl
def Pz_unrest (v1 : Int32) (σ : MH) : Option (Int32 × MH) := Pz_unrest0 v1 σ
set_option maxRecDepth 20000 in
set_option maxHeartbeats 2000000 in
theorem ev_Pz_unrest (v1 : Int32)  (σ : MH) {o} (h : Pz_unrest v1 σ = some o) : Ev m_Pz_unrest 7 [.ref 0, .int v1] σ (some (.int o.1)) o.2 := Ev.of2 (by decide +kernel) rfl (Nat.le_of_ble_eq_true rfl) ⟨.int, rfl, rfl⟩ (t_Pz_unrest0 v1 σ h)
def cH_Search_accept_23  (s : Int32 × Int32 × MH) : MC := (some 23, [some (.ref 148), none, some (.int s.1), some (.int s.2.1), none], [], s.2.2)
def cR_Search_accept_23  : ((Int32 × MH)) → MC := (fun r : Int32 × MH => ((some 180, [some (.ref 148), none, some (.int r.1), none, none], [], r.2) : MC))
def cH_Search_accept_85 (v3 : Int32) (s : Int32 × Int32 × MH) : MC := (some 85, [some (.ref 148), none, some (.int s.1), some (.int v3), some (.int s.2.1)], [], s.2.2)
def cR_Search_accept_85 (v3 : Int32) : ((Int32 × MH)) → MC := (fun r : Int32 × MH => ((some 174, [some (.ref 148), none, some (.int r.1), some (.int v3), none], [], r.2) : MC))
def Search_accept_b167 (v3 : Int32) (v4 : Int32) (s0 : Int32) (σ : MH) : Option (((Int32 × Int32 × MH) ⊕ ((Int32 × MH)))) := some (.inl (s0, v4 + (1 : Int32), σ))
set_option maxRecDepth 20000 in
set_option maxHeartbeats 2000000 in
theorem t_Search_accept_b167 (v3 : Int32) (v4 : Int32) (s0 : Int32)   (σ : MH) {o} (h : Search_accept_b167 v3 v4 s0 σ = some o) : Go m_Search_accept 2 (some 167, [some (.ref 148), none, none, some (.int v3), some (.int v4)], [.int s0], σ) (cS (cH_Search_accept_85 v3) (cR_Search_accept_85 v3) o) := by
  unfold Search_accept_b167 at h
  refine Go.t (Go_sg bk_Search_accept 97 3 (c2 := (some 85, [some (.ref 148), none, some (.int s0), some (.int v3), some (.int (v4 + (1 : Int32)))], [], σ)) (ps := []) rfl trivial) ?_
  have h := Option.some.inj h
  subst h
  exact Go.fg (LSub.cs (LSub.cn (LSub.cs (LSub.cs (LSub.cs (LSub.nil))))))
def Search_accept_b166 (v3 : Int32) (v4 : Int32) (σ : MH) : Option (((Int32 × Int32 × MH) ⊕ ((Int32 × MH)))) := Search_accept_b167 v3 v4 (0 : Int32) σ
set_option maxRecDepth 20000 in
set_option maxHeartbeats 2000000 in
theorem t_Search_accept_b166 (v3 : Int32) (v4 : Int32)   (σ : MH) {o} (h : Search_accept_b166 v3 v4 σ = some o) : Go m_Search_accept 2 (some 166, [some (.ref 148), none, none, some (.int v3), some (.int v4)], [], σ) (cS (cH_Search_accept_85 v3) (cR_Search_accept_85 v3) o) := by
  unfold Search_accept_b166 at h
  refine Go.t (Go_sg bk_Search_accept 96 1 (c2 := (some 167, [some (.ref 148), none, none, some (.int v3), some (.int v4)], [.int (0 : Int32)], σ)) (ps := []) rfl trivial) ?_
  exact Go.t (Go.fg (LSub.cs (LSub.cn (LSub.cn (LSub.cs (LSub.cs (LSub.nil))))))) (t_Search_accept_b167 v3 v4 (0 : Int32) σ h)
def Search_accept_b162 (v3 : Int32) (v4 : Int32) (σ : MH) : Option (((Int32 × Int32 × MH) ⊕ ((Int32 × MH)))) := Search_accept_b167 v3 v4 (1 : Int32) σ
set_option maxRecDepth 20000 in
set_option maxHeartbeats 2000000 in
theorem t_Search_accept_b162 (v3 : Int32) (v4 : Int32)   (σ : MH) {o} (h : Search_accept_b162 v3 v4 σ = some o) : Go m_Search_accept 2 (some 162, [some (.ref 148), none, none, some (.int v3), some (.int v4)], [], σ) (cS (cH_Search_accept_85 v3) (cR_Search_accept_85 v3) o) := by
  unfold Search_accept_b162 at h
  refine Go.t (Go_sg bk_Search_accept 94 2 (c2 := (some 167, [some (.ref 148), none, none, some (.int v3), some (.int v4)], [.int (1 : Int32)], σ)) (ps := []) rfl trivial) ?_
  exact Go.t (Go.fg (LSub.cs (LSub.cn (LSub.cn (LSub.cs (LSub.cs (LSub.nil))))))) (t_Search_accept_b167 v3 v4 (1 : Int32) σ h)
def Search_accept_l85 (v3 : Int32) (v2 : Int32) (v4 : Int32) (σ : MH) : Option (((Int32 × Int32 × MH) ⊕ ((Int32 × MH)))) := if σ.1 148 1 ≤ v4 then some (.inr (v2, σ)) else (if inb v3 6 = true then if inb (((σ.1 148 1) + (v3 * (σ.1 148 1))) + v4) 260 = true then if inb v4 6 = true then if v2 = (0 : Int32) then Search_accept_b166 v3 v4 (sI σ (rfv 150 v3.toNatClampNeg) v4.toNatClampNeg (σ.1 110 (((σ.1 148 1) + (v3 * (σ.1 148 1))) + v4).toNatClampNeg)) else (if v3 = v4 then Search_accept_b162 v3 v4 (sI σ (rfv 150 v3.toNatClampNeg) v4.toNatClampNeg (σ.1 110 (((σ.1 148 1) + (v3 * (σ.1 148 1))) + v4).toNatClampNeg)) else (if (sI σ (rfv 150 v3.toNatClampNeg) v4.toNatClampNeg (σ.1 110 (((σ.1 148 1) + (v3 * (σ.1 148 1))) + v4).toNatClampNeg)).1 (rfv 150 v3.toNatClampNeg) v4.toNatClampNeg < (1 : Int32) then Search_accept_b166 v3 v4 (sI σ (rfv 150 v3.toNatClampNeg) v4.toNatClampNeg (σ.1 110 (((σ.1 148 1) + (v3 * (σ.1 148 1))) + v4).toNatClampNeg)) else (if (20 : Int32) < (sI σ (rfv 150 v3.toNatClampNeg) v4.toNatClampNeg (σ.1 110 (((σ.1 148 1) + (v3 * (σ.1 148 1))) + v4).toNatClampNeg)).1 (rfv 150 v3.toNatClampNeg) v4.toNatClampNeg then Search_accept_b166 v3 v4 (sI σ (rfv 150 v3.toNatClampNeg) v4.toNatClampNeg (σ.1 110 (((σ.1 148 1) + (v3 * (σ.1 148 1))) + v4).toNatClampNeg)) else Search_accept_b162 v3 v4 (sI σ (rfv 150 v3.toNatClampNeg) v4.toNatClampNeg (σ.1 110 (((σ.1 148 1) + (v3 * (σ.1 148 1))) + v4).toNatClampNeg))))) else none else none else none)
set_option maxRecDepth 20000 in
set_option maxHeartbeats 2000000 in
theorem t_Search_accept_l85 (v3 : Int32) (v2 : Int32) (v4 : Int32)  (σ : MH) {o} (h : Search_accept_l85 v3 v2 v4 σ = some o) : Go m_Search_accept 2 (cH_Search_accept_85 v3 (v2, v4, σ)) (cS (cH_Search_accept_85 v3) (cR_Search_accept_85 v3) o) := by
  unfold Search_accept_l85 at h
  unfold cH_Search_accept_85
  refine Go.t (Go_sg bk_Search_accept 50 3 (c2 := (some 91, [some (.ref 148), none, some (.int v2), some (.int v3), some (.int v4)], [.int (σ.1 148 1), .int v4], σ)) (ps := [shk 148 = 8]) rfl ⟨rfl, trivial⟩) ?_
  refine Go_icmp_ge bk_Search_accept 53 rfl (fun c10 => ?_) (fun c10 => ?_)
  · have h := ifT c10 h
    have h := Option.some.inj h
    subst h
    exact Go.fg (LSub.cs (LSub.cn (LSub.cs (LSub.cs (LSub.cn (LSub.nil))))))
  · have h := ifF c10 h
    obtain ⟨g3, h⟩ := gdS h
    obtain ⟨g4, h⟩ := gdS h
    obtain ⟨g5, h⟩ := gdS h
    refine Go.t (Go_sg bk_Search_accept 54 20 (c2 := (some 126, [some (.ref 148), none, some (.int v2), some (.int v3), some (.int v4)], [.int v2], sI σ (rfv 150 v3.toNatClampNeg) v4.toNatClampNeg (σ.1 110 (((σ.1 148 1) + (v3 * (σ.1 148 1))) + v4).toNatClampNeg))) (ps := [shk 148 = 8, IR 150 6 ∧ inb v3 6 = true, shk 148 = 8, shk 109 = 9, shk 148 = 8, shk 148 = 8, IA 110 260 ∧ inb (((σ.1 148 1) + (v3 * (σ.1 148 1))) + v4) 260 = true, IA (rfv 150 v3.toNatClampNeg) 6 ∧ inb v4 6 = true]) rfl ⟨rfl, ⟨⟨rfl, rfl⟩, g3⟩, rfl, rfl, rfl, rfl, ⟨⟨rfl, rfl⟩, g4⟩, ⟨(rw_150 g3), g5⟩, trivial⟩) ?_
    refine Go_if_eq bk_Search_accept 74 rfl (fun c9 => ?_) (fun c9 => ?_)
    · have h := ifT c9 h
      exact Go.t (Go.fg (LSub.cs (LSub.cn (LSub.cn (LSub.cs (LSub.cs (LSub.nil))))))) (t_Search_accept_b166 v3 v4 (sI σ (rfv 150 v3.toNatClampNeg) v4.toNatClampNeg (σ.1 110 (((σ.1 148 1) + (v3 * (σ.1 148 1))) + v4).toNatClampNeg)) h)
    · have h := ifF c9 h
      refine Go.t (Go_sg bk_Search_accept 75 2 (c2 := (some 132, [some (.ref 148), none, some (.int v2), some (.int v3), some (.int v4)], [.int v4, .int v3], sI σ (rfv 150 v3.toNatClampNeg) v4.toNatClampNeg (σ.1 110 (((σ.1 148 1) + (v3 * (σ.1 148 1))) + v4).toNatClampNeg))) (ps := []) rfl trivial) ?_
      refine Go_icmp_eq bk_Search_accept 77 rfl (fun c8 => ?_) (fun c8 => ?_)
      · have h := ifT c8 h
        exact Go.t (Go.fg (LSub.cs (LSub.cn (LSub.cn (LSub.cs (LSub.cs (LSub.nil))))))) (t_Search_accept_b162 v3 v4 (sI σ (rfv 150 v3.toNatClampNeg) v4.toNatClampNeg (σ.1 110 (((σ.1 148 1) + (v3 * (σ.1 148 1))) + v4).toNatClampNeg)) h)
      · have h := ifF c8 h
        refine Go.t (Go_sg bk_Search_accept 78 7 (c2 := (some 145, [some (.ref 148), none, some (.int v2), some (.int v3), some (.int v4)], [.int (1 : Int32), .int ((sI σ (rfv 150 v3.toNatClampNeg) v4.toNatClampNeg (σ.1 110 (((σ.1 148 1) + (v3 * (σ.1 148 1))) + v4).toNatClampNeg)).1 (rfv 150 v3.toNatClampNeg) v4.toNatClampNeg)], sI σ (rfv 150 v3.toNatClampNeg) v4.toNatClampNeg (σ.1 110 (((σ.1 148 1) + (v3 * (σ.1 148 1))) + v4).toNatClampNeg))) (ps := [shk 148 = 8, IR 150 6 ∧ inb v3 6 = true, IA (rfv 150 v3.toNatClampNeg) 6 ∧ inb v4 6 = true]) rfl ⟨rfl, ⟨⟨rfl, rfl⟩, g3⟩, ⟨(rw_150 g3), g5⟩, trivial⟩) ?_
        refine Go_icmp_lt bk_Search_accept 85 rfl (fun c7 => ?_) (fun c7 => ?_)
        · have h := ifT c7 h
          exact Go.t (Go.fg (LSub.cs (LSub.cn (LSub.cn (LSub.cs (LSub.cs (LSub.nil))))))) (t_Search_accept_b166 v3 v4 (sI σ (rfv 150 v3.toNatClampNeg) v4.toNatClampNeg (σ.1 110 (((σ.1 148 1) + (v3 * (σ.1 148 1))) + v4).toNatClampNeg)) h)
        · have h := ifF c7 h
          refine Go.t (Go_sg bk_Search_accept 86 7 (c2 := (some 159, [some (.ref 148), none, some (.int v2), some (.int v3), some (.int v4)], [.int (20 : Int32), .int ((sI σ (rfv 150 v3.toNatClampNeg) v4.toNatClampNeg (σ.1 110 (((σ.1 148 1) + (v3 * (σ.1 148 1))) + v4).toNatClampNeg)).1 (rfv 150 v3.toNatClampNeg) v4.toNatClampNeg)], sI σ (rfv 150 v3.toNatClampNeg) v4.toNatClampNeg (σ.1 110 (((σ.1 148 1) + (v3 * (σ.1 148 1))) + v4).toNatClampNeg))) (ps := [shk 148 = 8, IR 150 6 ∧ inb v3 6 = true, IA (rfv 150 v3.toNatClampNeg) 6 ∧ inb v4 6 = true]) rfl ⟨rfl, ⟨⟨rfl, rfl⟩, g3⟩, ⟨(rw_150 g3), g5⟩, trivial⟩) ?_
          refine Go_icmp_gt bk_Search_accept 93 rfl (fun c6 => ?_) (fun c6 => ?_)
          · have h := ifT c6 h
            exact Go.t (Go.fg (LSub.cs (LSub.cn (LSub.cn (LSub.cs (LSub.cs (LSub.nil))))))) (t_Search_accept_b166 v3 v4 (sI σ (rfv 150 v3.toNatClampNeg) v4.toNatClampNeg (σ.1 110 (((σ.1 148 1) + (v3 * (σ.1 148 1))) + v4).toNatClampNeg)) h)
          · have h := ifF c6 h
            exact Go.t (Go.fg (LSub.cs (LSub.cn (LSub.cn (LSub.cs (LSub.cs (LSub.nil))))))) (t_Search_accept_b162 v3 v4 (sI σ (rfv 150 v3.toNatClampNeg) v4.toNatClampNeg (σ.1 110 (((σ.1 148 1) + (v3 * (σ.1 148 1))) + v4).toNatClampNeg)) h)
def Search_accept_L85 (v3 : Int32) (s : Int32 × Int32 × MH) : Option ((Int32 × MH)) := itr (fun s : Int32 × Int32 × MH => Search_accept_l85 v3 s.1 s.2.1 s.2.2) FU s
set_option maxRecDepth 20000 in
set_option maxHeartbeats 2000000 in
theorem t_Search_accept_L85 (v3 : Int32)  (s : Int32 × Int32 × MH) {r} (h : Search_accept_L85 v3 s = some r) : Go m_Search_accept 2 (cH_Search_accept_85 v3 s) (cR_Search_accept_85 v3 r) := Go_itr (fun s o ho => t_Search_accept_l85 v3 s.1 s.2.1 s.2.2 ho) FU s r h
def Search_accept_b81 (v3 : Int32) (s0 : Int32) (σ : MH) : Option (((Int32 × Int32 × MH) ⊕ ((Int32 × MH)))) := (Search_accept_L85 v3 (s0, (0 : Int32), σ)).bind fun z11 => some (.inl (z11.1, v3 + (1 : Int32), z11.2))
set_option maxRecDepth 20000 in
set_option maxHeartbeats 2000000 in
theorem t_Search_accept_b81 (v3 : Int32) (s0 : Int32)   (σ : MH) {o} (h : Search_accept_b81 v3 s0 σ = some o) : Go m_Search_accept 2 (some 81, [some (.ref 148), none, none, some (.int v3), none], [.int s0], σ) (cS (cH_Search_accept_23 ) (cR_Search_accept_23 ) o) := by
  unfold Search_accept_b81 at h
  refine Go.t (Go_sg bk_Search_accept 47 3 (c2 := (some 85, [some (.ref 148), none, some (.int s0), some (.int v3), some (.int (0 : Int32))], [], σ)) (ps := []) rfl trivial) ?_
  obtain ⟨z11, q12, h⟩ := bdS h
  refine Go.t (Go.t (Go.fg (LSub.cs (LSub.cn (LSub.cs (LSub.cs (LSub.cs (LSub.nil))))))) (t_Search_accept_L85 v3 _ q12)) ?_
  refine Go.t (Go_sg bk_Search_accept 100 2 (c2 := (some 23, [some (.ref 148), none, some (.int z11.1), some (.int (v3 + (1 : Int32))), none], [], z11.2)) (ps := []) rfl trivial) ?_
  have h := Option.some.inj h
  subst h
  exact Go.fg (LSub.cs (LSub.cn (LSub.cs (LSub.cs (LSub.cn (LSub.nil))))))
def Search_accept_b80 (v3 : Int32) (σ : MH) : Option (((Int32 × Int32 × MH) ⊕ ((Int32 × MH)))) := Search_accept_b81 v3 (0 : Int32) σ
set_option maxRecDepth 20000 in
set_option maxHeartbeats 2000000 in
theorem t_Search_accept_b80 (v3 : Int32)   (σ : MH) {o} (h : Search_accept_b80 v3 σ = some o) : Go m_Search_accept 2 (some 80, [some (.ref 148), none, none, some (.int v3), none], [], σ) (cS (cH_Search_accept_23 ) (cR_Search_accept_23 ) o) := by
  unfold Search_accept_b80 at h
  refine Go.t (Go_sg bk_Search_accept 46 1 (c2 := (some 81, [some (.ref 148), none, none, some (.int v3), none], [.int (0 : Int32)], σ)) (ps := []) rfl trivial) ?_
  exact Go.t (Go.fg (LSub.cs (LSub.cn (LSub.cn (LSub.cs (LSub.cn (LSub.nil))))))) (t_Search_accept_b81 v3 (0 : Int32) σ h)
def Search_accept_l23 (v2 : Int32) (v3 : Int32) (σ : MH) : Option (((Int32 × Int32 × MH) ⊕ ((Int32 × MH)))) := if σ.1 148 1 ≤ v3 then some (.inr (v2, σ)) else (if inb v3 260 = true then if inb v3 6 = true then if v2 = (0 : Int32) then Search_accept_b80 v3 (sI (sI σ 149 v3.toNatClampNeg (σ.1 110 v3.toNatClampNeg)) 148 7 (((sI σ 149 v3.toNatClampNeg (σ.1 110 v3.toNatClampNeg)).1 148 7) + ((sI σ 149 v3.toNatClampNeg (σ.1 110 v3.toNatClampNeg)).1 149 v3.toNatClampNeg))) else (if (99 : Int32) < (sI (sI σ 149 v3.toNatClampNeg (σ.1 110 v3.toNatClampNeg)) 148 7 (((sI σ 149 v3.toNatClampNeg (σ.1 110 v3.toNatClampNeg)).1 148 7) + ((sI σ 149 v3.toNatClampNeg (σ.1 110 v3.toNatClampNeg)).1 149 v3.toNatClampNeg))).1 149 v3.toNatClampNeg then Search_accept_b80 v3 (sI (sI σ 149 v3.toNatClampNeg (σ.1 110 v3.toNatClampNeg)) 148 7 (((sI σ 149 v3.toNatClampNeg (σ.1 110 v3.toNatClampNeg)).1 148 7) + ((sI σ 149 v3.toNatClampNeg (σ.1 110 v3.toNatClampNeg)).1 149 v3.toNatClampNeg))) else (Search_accept_b81 v3 (1 : Int32) (sI (sI σ 149 v3.toNatClampNeg (σ.1 110 v3.toNatClampNeg)) 148 7 (((sI σ 149 v3.toNatClampNeg (σ.1 110 v3.toNatClampNeg)).1 148 7) + ((sI σ 149 v3.toNatClampNeg (σ.1 110 v3.toNatClampNeg)).1 149 v3.toNatClampNeg))))) else none else none)
set_option maxRecDepth 20000 in
set_option maxHeartbeats 2000000 in
theorem t_Search_accept_l23 (v2 : Int32) (v3 : Int32)  (σ : MH) {o} (h : Search_accept_l23 v2 v3 σ = some o) : Go m_Search_accept 2 (cH_Search_accept_23  (v2, v3, σ)) (cS (cH_Search_accept_23 ) (cR_Search_accept_23 ) o) := by
  unfold Search_accept_l23 at h
  unfold cH_Search_accept_23
  refine Go.t (Go_sg bk_Search_accept 14 3 (c2 := (some 28, [some (.ref 148), none, some (.int v2), some (.int v3), none], [.int (σ.1 148 1), .int v3], σ)) (ps := [shk 148 = 8]) rfl ⟨rfl, trivial⟩) ?_
  refine Go_icmp_ge bk_Search_accept 17 rfl (fun c15 => ?_) (fun c15 => ?_)
  · have h := ifT c15 h
    have h := Option.some.inj h
    subst h
    exact Go.fg (LSub.cs (LSub.cn (LSub.cs (LSub.cn (LSub.cn (LSub.nil))))))
  · have h := ifF c15 h
    obtain ⟨g1, h⟩ := gdS h
    obtain ⟨g2, h⟩ := gdS h
    refine Go.t (Go_sg bk_Search_accept 18 19 (c2 := (some 62, [some (.ref 148), none, some (.int v2), some (.int v3), none], [.int v2], sI (sI σ 149 v3.toNatClampNeg (σ.1 110 v3.toNatClampNeg)) 148 7 (((sI σ 149 v3.toNatClampNeg (σ.1 110 v3.toNatClampNeg)).1 148 7) + ((sI σ 149 v3.toNatClampNeg (σ.1 110 v3.toNatClampNeg)).1 149 v3.toNatClampNeg)))) (ps := [shk 148 = 8, shk 148 = 8, shk 109 = 9, IA 110 260 ∧ inb v3 260 = true, IA 149 6 ∧ inb v3 6 = true, shk 148 = 8, shk 148 = 8, IA 149 6 ∧ inb v3 6 = true, shk 148 = 8]) rfl ⟨rfl, rfl, rfl, ⟨⟨rfl, rfl⟩, g1⟩, ⟨⟨rfl, rfl⟩, g2⟩, rfl, rfl, ⟨⟨rfl, rfl⟩, g2⟩, rfl, trivial⟩) ?_
    refine Go_if_eq bk_Search_accept 37 rfl (fun c14 => ?_) (fun c14 => ?_)
    · have h := ifT c14 h
      exact Go.t (Go.fg (LSub.cs (LSub.cn (LSub.cn (LSub.cs (LSub.cn (LSub.nil))))))) (t_Search_accept_b80 v3 (sI (sI σ 149 v3.toNatClampNeg (σ.1 110 v3.toNatClampNeg)) 148 7 (((sI σ 149 v3.toNatClampNeg (σ.1 110 v3.toNatClampNeg)).1 148 7) + ((sI σ 149 v3.toNatClampNeg (σ.1 110 v3.toNatClampNeg)).1 149 v3.toNatClampNeg))) h)
    · have h := ifF c14 h
      refine Go.t (Go_sg bk_Search_accept 38 5 (c2 := (some 73, [some (.ref 148), none, some (.int v2), some (.int v3), none], [.int (99 : Int32), .int ((sI (sI σ 149 v3.toNatClampNeg (σ.1 110 v3.toNatClampNeg)) 148 7 (((sI σ 149 v3.toNatClampNeg (σ.1 110 v3.toNatClampNeg)).1 148 7) + ((sI σ 149 v3.toNatClampNeg (σ.1 110 v3.toNatClampNeg)).1 149 v3.toNatClampNeg))).1 149 v3.toNatClampNeg)], sI (sI σ 149 v3.toNatClampNeg (σ.1 110 v3.toNatClampNeg)) 148 7 (((sI σ 149 v3.toNatClampNeg (σ.1 110 v3.toNatClampNeg)).1 148 7) + ((sI σ 149 v3.toNatClampNeg (σ.1 110 v3.toNatClampNeg)).1 149 v3.toNatClampNeg)))) (ps := [shk 148 = 8, IA 149 6 ∧ inb v3 6 = true]) rfl ⟨rfl, ⟨⟨rfl, rfl⟩, g2⟩, trivial⟩) ?_
      refine Go_icmp_gt bk_Search_accept 43 rfl (fun c13 => ?_) (fun c13 => ?_)
      · have h := ifT c13 h
        exact Go.t (Go.fg (LSub.cs (LSub.cn (LSub.cn (LSub.cs (LSub.cn (LSub.nil))))))) (t_Search_accept_b80 v3 (sI (sI σ 149 v3.toNatClampNeg (σ.1 110 v3.toNatClampNeg)) 148 7 (((sI σ 149 v3.toNatClampNeg (σ.1 110 v3.toNatClampNeg)).1 148 7) + ((sI σ 149 v3.toNatClampNeg (σ.1 110 v3.toNatClampNeg)).1 149 v3.toNatClampNeg))) h)
      · have h := ifF c13 h
        refine Go.t (Go_sg bk_Search_accept 44 2 (c2 := (some 81, [some (.ref 148), none, some (.int v2), some (.int v3), none], [.int (1 : Int32)], sI (sI σ 149 v3.toNatClampNeg (σ.1 110 v3.toNatClampNeg)) 148 7 (((sI σ 149 v3.toNatClampNeg (σ.1 110 v3.toNatClampNeg)).1 148 7) + ((sI σ 149 v3.toNatClampNeg (σ.1 110 v3.toNatClampNeg)).1 149 v3.toNatClampNeg)))) (ps := []) rfl trivial) ?_
        exact Go.t (Go.fg (LSub.cs (LSub.cn (LSub.cn (LSub.cs (LSub.cn (LSub.nil))))))) (t_Search_accept_b81 v3 (1 : Int32) (sI (sI σ 149 v3.toNatClampNeg (σ.1 110 v3.toNatClampNeg)) 148 7 (((sI σ 149 v3.toNatClampNeg (σ.1 110 v3.toNatClampNeg)).1 148 7) + ((sI σ 149 v3.toNatClampNeg (σ.1 110 v3.toNatClampNeg)).1 149 v3.toNatClampNeg))) h)
def Search_accept_L23  (s : Int32 × Int32 × MH) : Option ((Int32 × MH)) := itr (fun s : Int32 × Int32 × MH => Search_accept_l23 s.1 s.2.1 s.2.2) FU s
set_option maxRecDepth 20000 in
set_option maxHeartbeats 2000000 in
theorem t_Search_accept_L23   (s : Int32 × Int32 × MH) {r} (h : Search_accept_L23  s = some r) : Go m_Search_accept 2 (cH_Search_accept_23  s) (cR_Search_accept_23  r) := Go_itr (fun s o ho => t_Search_accept_l23 s.1 s.2.1 s.2.2 ho) FU s r h
def Search_accept0 (v1 : Int32) (σ : MH) : Option (Int32 × MH) := (Search_accept_L23 ((1 : Int32), (0 : Int32), sI (sI σ 148 1 (jmax (0 : Int32) (jmin (6 : Int32) v1))) 148 7 (0 : Int32))).bind fun z16 => if z16.1 = (0 : Int32) then some ((0 : Int32), z16.2) else (if z16.2.1 148 7 ≤ (0 : Int32) then some ((0 : Int32), z16.2) else some ((1 : Int32), z16.2))
set_option maxRecDepth 20000 in
set_option maxHeartbeats 2000000 in
theorem t_Search_accept0 (v1 : Int32)  (σ : MH) {o} (h : Search_accept0 v1 σ = some o) : Go m_Search_accept 2 (some 0, [some (.ref 148), some (.int v1), none, none, none], [], σ) ((none, [], [.int o.1], o.2)) := by
  unfold Search_accept0 at h
  refine Go.t (Go_sg bk_Search_accept 0 4 (c2 := (some 5, [some (.ref 148), some (.int v1), none, none, none], [.int v1, .int (6 : Int32), .int (0 : Int32), .ref 148], σ)) (ps := []) rfl trivial) ?_
  refine Go.t (Go_mmin bk_Search_accept 4 rfl tw1061 (Nat.le_of_ble_eq_true rfl) (Nat.le_of_ble_eq_true rfl)) ?_
  refine Go.t (Go_mmax bk_Search_accept 5 rfl tw1062 (Nat.le_of_ble_eq_true rfl) (Nat.le_of_ble_eq_true rfl)) ?_
  refine Go.t (Go_sg bk_Search_accept 6 8 (c2 := (some 23, [some (.ref 148), some (.int v1), some (.int (1 : Int32)), some (.int (0 : Int32)), none], [], sI (sI σ 148 1 (jmax (0 : Int32) (jmin (6 : Int32) v1))) 148 7 (0 : Int32))) (ps := [shk 148 = 8, shk 148 = 8]) rfl ⟨rfl, rfl, trivial⟩) ?_
  obtain ⟨z16, q17, h⟩ := bdS h
  refine Go.t (Go.t (Go.fg (LSub.cs (LSub.cn (LSub.cs (LSub.cs (LSub.cn (LSub.nil))))))) (t_Search_accept_L23 _ q17)) ?_
  refine Go.t (Go_sg bk_Search_accept 102 1 (c2 := (some 181, [some (.ref 148), none, some (.int z16.1), none, none], [.int z16.1], z16.2)) (ps := []) rfl trivial) ?_
  refine Go_if_eq bk_Search_accept 103 rfl (fun c19 => ?_) (fun c19 => ?_)
  · have h := ifT c19 h
    have h := Option.some.inj h
    subst h
    refine Go.t (Go_sg bk_Search_accept 109 1 (c2 := (some 196, [some (.ref 148), none, some (.int z16.1), none, none], [.int (0 : Int32)], z16.2)) (ps := []) rfl trivial) ?_
    exact Go_reti bk_Search_accept 110 rfl
  · have h := ifF c19 h
    refine Go.t (Go_sg bk_Search_accept 104 2 (c2 := (some 188, [some (.ref 148), none, some (.int z16.1), none, none], [.int (z16.2.1 148 7)], z16.2)) (ps := [shk 148 = 8]) rfl ⟨rfl, trivial⟩) ?_
    refine Go_if_le bk_Search_accept 106 rfl (fun c18 => ?_) (fun c18 => ?_)
    · have h := ifT c18 h
      have h := Option.some.inj h
      subst h
      refine Go.t (Go_sg bk_Search_accept 109 1 (c2 := (some 196, [some (.ref 148), none, some (.int z16.1), none, none], [.int (0 : Int32)], z16.2)) (ps := []) rfl trivial) ?_
      exact Go_reti bk_Search_accept 110 rfl
    · have h := ifF c18 h
      refine Go.t (Go_sg bk_Search_accept 107 2 (c2 := (some 196, [some (.ref 148), none, some (.int z16.1), none, none], [.int (1 : Int32)], z16.2)) (ps := []) rfl trivial) ?_
      have h := Option.some.inj h
      subst h
      exact Go_reti bk_Search_accept 110 rfl
def Search_accept (v1 : Int32) (σ : MH) : Option (Int32 × MH) := bzo (Search_accept0 v1 σ)
set_option maxRecDepth 20000 in
set_option maxHeartbeats 2000000 in
theorem ev_Search_accept (v1 : Int32)  (σ : MH) {o} (h : Search_accept v1 σ = some o) : Ev m_Search_accept 2 [.ref 148, .int v1] σ (some (.int o.1)) o.2 := Ev.of2 (by decide +kernel) rfl (Nat.le_of_ble_eq_true rfl) ⟨.boolean, rfl, nrB (bzo2 h)⟩ (t_Search_accept0 v1 σ (bzo1 h))
def cH_Search_weigh_6  (σ : MH) (s : Int32 × Int32 × Int32) : MC := (some 6, [some (.ref 148), some (.int s.1), some (.int s.2.1), some (.int s.2.2)], [], σ)
def cR_Search_weigh_6  (σ : MH) : ((Int32)) → MC := (fun r : Int32 => ((some 59, [some (.ref 148), none, some (.int r), none], [], σ) : MC))
def Search_weigh_l6 (v1 : Int32) (v2 : Int32) (v3 : Int32) (σ : MH) : Option (((Int32 × Int32 × Int32) ⊕ ((Int32)))) := if σ.1 148 1 ≤ v3 then some (.inr (v2)) else (if inb (v3 - (1 : Int32)) 6 = true then if inb (σ.1 157 (v3 - (1 : Int32)).toNatClampNeg) 6 = true then if inb v3 6 = true then if inb (σ.1 157 v3.toNatClampNeg) 6 = true then some (.inl (v1 + (σ.1 (rfv 150 (σ.1 157 (v3 - (1 : Int32)).toNatClampNeg).toNatClampNeg) (σ.1 157 v3.toNatClampNeg).toNatClampNeg), v2 + ((σ.1 149 (σ.1 157 v3.toNatClampNeg).toNatClampNeg) * (v1 + (σ.1 (rfv 150 (σ.1 157 (v3 - (1 : Int32)).toNatClampNeg).toNatClampNeg) (σ.1 157 v3.toNatClampNeg).toNatClampNeg))), v3 + (1 : Int32))) else none else none else none else none)
set_option maxRecDepth 20000 in
set_option maxHeartbeats 2000000 in
theorem t_Search_weigh_l6 (v1 : Int32) (v2 : Int32) (v3 : Int32)  (σ : MH) {o} (h : Search_weigh_l6 v1 v2 v3 σ = some o) : Go m_Search_weigh 2 (cH_Search_weigh_6 σ (v1, v2, v3)) (cS (cH_Search_weigh_6  σ) (cR_Search_weigh_6  σ) o) := by
  unfold Search_weigh_l6 at h
  unfold cH_Search_weigh_6
  refine Go.t (Go_sg bk_Search_weigh 6 3 (c2 := (some 11, [some (.ref 148), some (.int v1), some (.int v2), some (.int v3)], [.int (σ.1 148 1), .int v3], σ)) (ps := [shk 148 = 8]) rfl ⟨rfl, trivial⟩) ?_
  refine Go_icmp_ge bk_Search_weigh 9 rfl (fun c5 => ?_) (fun c5 => ?_)
  · have h := ifT c5 h
    have h := Option.some.inj h
    subst h
    exact Go.fg (LSub.cs (LSub.cn (LSub.cs (LSub.cn (LSub.nil)))))
  · have h := ifF c5 h
    obtain ⟨g1, h⟩ := gdS h
    obtain ⟨g2, h⟩ := gdS h
    obtain ⟨g3, h⟩ := gdS h
    obtain ⟨g4, h⟩ := gdS h
    refine Go.t (Go_sg bk_Search_weigh 10 31 (c2 := (some 6, [some (.ref 148), some (.int (v1 + (σ.1 (rfv 150 (σ.1 157 (v3 - (1 : Int32)).toNatClampNeg).toNatClampNeg) (σ.1 157 v3.toNatClampNeg).toNatClampNeg))), some (.int (v2 + ((σ.1 149 (σ.1 157 v3.toNatClampNeg).toNatClampNeg) * (v1 + (σ.1 (rfv 150 (σ.1 157 (v3 - (1 : Int32)).toNatClampNeg).toNatClampNeg) (σ.1 157 v3.toNatClampNeg).toNatClampNeg))))), some (.int (v3 + (1 : Int32)))], [], σ)) (ps := [shk 148 = 8, shk 148 = 8, IA 157 6 ∧ inb (v3 - (1 : Int32)) 6 = true, IR 150 6 ∧ inb (σ.1 157 (v3 - (1 : Int32)).toNatClampNeg) 6 = true, shk 148 = 8, IA 157 6 ∧ inb v3 6 = true, IA (rfv 150 (σ.1 157 (v3 - (1 : Int32)).toNatClampNeg).toNatClampNeg) 6 ∧ inb (σ.1 157 v3.toNatClampNeg) 6 = true, shk 148 = 8, shk 148 = 8, IA 157 6 ∧ inb v3 6 = true, IA 149 6 ∧ inb (σ.1 157 v3.toNatClampNeg) 6 = true]) rfl ⟨rfl, rfl, ⟨⟨rfl, rfl⟩, g1⟩, ⟨⟨rfl, rfl⟩, g2⟩, rfl, ⟨⟨rfl, rfl⟩, g3⟩, ⟨(rw_150 g2), g4⟩, rfl, rfl, ⟨⟨rfl, rfl⟩, g3⟩, ⟨⟨rfl, rfl⟩, g4⟩, trivial⟩) ?_
    have h := Option.some.inj h
    subst h
    exact Go.fg (LSub.cs (LSub.cs (LSub.cs (LSub.cs (LSub.nil)))))
def Search_weigh_L6  (σ : MH) (s : Int32 × Int32 × Int32) : Option ((Int32)) := itr (fun s : Int32 × Int32 × Int32 => Search_weigh_l6 s.1 s.2.1 s.2.2 σ) FU s
set_option maxRecDepth 20000 in
set_option maxHeartbeats 2000000 in
theorem t_Search_weigh_L6   (σ : MH) (s : Int32 × Int32 × Int32) {r} (h : Search_weigh_L6 σ s = some r) : Go m_Search_weigh 2 (cH_Search_weigh_6 σ s) (cR_Search_weigh_6 σ r) := Go_itr (fun s o ho => t_Search_weigh_l6 s.1 s.2.1 s.2.2 σ ho) FU s r h
def Search_weigh_b74 (v2 : Int32) (σ : MH) : Option (MH) := some (cpI (sI σ 148 6 v2) 157 158 6)
set_option maxRecDepth 20000 in
set_option maxHeartbeats 2000000 in
theorem t_Search_weigh_b74 (v2 : Int32)   (σ : MH) {o} (h : Search_weigh_b74 v2 σ = some o) : Go m_Search_weigh 2 (some 74, [some (.ref 148), none, some (.int v2), none], [], σ) ((none, [], [], o)) := by
  unfold Search_weigh_b74 at h
  refine Go.t (Go_sg bk_Search_weigh 48 10 (c2 := (some 91, [some (.ref 148), none, some (.int v2), none], [.int (6 : Int32), .int (0 : Int32), .ref 158, .int (0 : Int32), .ref 157], sI σ 148 6 v2)) (ps := [shk 148 = 8, shk 148 = 8, shk 148 = 8]) rfl ⟨rfl, rfl, rfl, trivial⟩) ?_
  refine Go.t (Go_copy bk_Search_weigh 58 rfl tw1071 ⟨rfl, rfl⟩ ⟨rfl, rfl⟩ (Nat.le_of_ble_eq_true rfl) 6 rfl rfl (Nat.le_of_ble_eq_true rfl) (Nat.le_of_ble_eq_true rfl) (Nat.le_of_ble_eq_true rfl)) ?_
  have h := Option.some.inj h
  subst h
  exact Go_ret0 bk_Search_weigh 59 rfl
def Search_weigh0  (σ : MH) : Option (MH) := (Search_weigh_L6 σ ((0 : Int32), (0 : Int32), (1 : Int32))).bind fun z6 => if σ.1 148 6 < (0 : Int32) then (Search_weigh_b74 z6 σ) else (if σ.1 148 6 ≤ z6 then some (σ) else (Search_weigh_b74 z6 σ))
set_option maxRecDepth 20000 in
set_option maxHeartbeats 2000000 in
theorem t_Search_weigh0   (σ : MH) {o} (h : Search_weigh0 σ = some o) : Go m_Search_weigh 2 (some 0, [some (.ref 148), none, none, none], [], σ) ((none, [], [], o)) := by
  unfold Search_weigh0 at h
  refine Go.t (Go_sg bk_Search_weigh 0 6 (c2 := (some 6, [some (.ref 148), some (.int (0 : Int32)), some (.int (0 : Int32)), some (.int (1 : Int32))], [], σ)) (ps := []) rfl trivial) ?_
  obtain ⟨z6, q7, h⟩ := bdS h
  refine Go.t (Go.t (Go.fg (LSub.cs (LSub.cs (LSub.cs (LSub.cs (LSub.nil)))))) (t_Search_weigh_L6 σ _ q7)) ?_
  refine Go.t (Go_sg bk_Search_weigh 41 2 (c2 := (some 63, [some (.ref 148), none, some (.int z6), none], [.int (σ.1 148 6)], σ)) (ps := [shk 148 = 8]) rfl ⟨rfl, trivial⟩) ?_
  refine Go_if_lt bk_Search_weigh 43 rfl (fun c9 => ?_) (fun c9 => ?_)
  · have h := ifT c9 h
    exact Go.t (Go.fg (LSub.cs (LSub.cn (LSub.cs (LSub.cn (LSub.nil)))))) (t_Search_weigh_b74 z6 σ h)
  · have h := ifF c9 h
    refine Go.t (Go_sg bk_Search_weigh 44 3 (c2 := (some 71, [some (.ref 148), none, some (.int z6), none], [.int (σ.1 148 6), .int z6], σ)) (ps := [shk 148 = 8]) rfl ⟨rfl, trivial⟩) ?_
    refine Go_icmp_ge bk_Search_weigh 47 rfl (fun c8 => ?_) (fun c8 => ?_)
    · have h := ifT c8 h
      have h := Option.some.inj h
      subst h
      exact Go_ret0 bk_Search_weigh 59 rfl
    · have h := ifF c8 h
      exact Go.t (Go.fg (LSub.cs (LSub.cn (LSub.cs (LSub.cn (LSub.nil)))))) (t_Search_weigh_b74 z6 σ h)
def Search_weigh  (σ : MH) : Option (MH) := Search_weigh0 σ
set_option maxRecDepth 20000 in
set_option maxHeartbeats 2000000 in
theorem ev_Search_weigh   (σ : MH) {o} (h : Search_weigh σ = some o) : Ev m_Search_weigh 2 [.ref 148] σ none o := Ev.of2 (by decide +kernel) rfl (Nat.le_of_ble_eq_true rfl) rfl (t_Search_weigh0 σ h)
