/-! FUNCTIONS: Md_readsHeight Md_size Md_edge Md_readsStop Md_journey Md_travels Md_haveTried Md_heightOf Md_max Md_slackOf Md_min Md_slackBy Md_bits Md_feels Md_reckon Md_comesTo -/
def cH_Md_readsHeight_187 (v3 : Int32) (v4 : Int32) (s : Int32 × MH) : MC := (some 187, [some (.ref 166), none, none, some (.int v3), some (.int v4), some (.int s.1)], [], s.2)
def cR_Md_readsHeight_187 (v3 : Int32) (v4 : Int32) : ((MH)) → MC := (fun r : MH => ((some 213, [some (.ref 166), none, none, none, some (.int v4), none], [], r) : MC))
def Md_readsHeight_l187 (v3 : Int32) (v4 : Int32) (v5 : Int32) (σ : MH) : Option (((Int32 × MH) ⊕ ((MH)))) := if v4 ≤ v5 then some (.inr (σ)) else (if inb ((σ.1 166 29) + v5) 8 = true then some (.inl (v5 + (1 : Int32), sI σ 184 ((σ.1 166 29) + v5).toNatClampNeg v3)) else none)
set_option maxRecDepth 20000 in
set_option maxHeartbeats 2000000 in
theorem t_Md_readsHeight_l187 (v3 : Int32) (v4 : Int32) (v5 : Int32)  (σ : MH) {o} (h : Md_readsHeight_l187 v3 v4 v5 σ = some o) : Go m_Md_readsHeight 2 (cH_Md_readsHeight_187 v3 v4 (v5, σ)) (cS (cH_Md_readsHeight_187 v3 v4) (cR_Md_readsHeight_187 v3 v4) o) := by
  unfold Md_readsHeight_l187 at h
  unfold cH_Md_readsHeight_187
  refine Go.t (Go_sg bk_Md_readsHeight 101 2 (c2 := (some 191, [some (.ref 166), none, none, some (.int v3), some (.int v4), some (.int v5)], [.int v4, .int v5], σ)) (ps := []) rfl trivial) ?_
  refine Go_icmp_ge bk_Md_readsHeight 103 rfl (fun c17 => ?_) (fun c17 => ?_)
  · have h := ifT c17 h
    have h := Option.some.inj h
    subst h
    exact Go.fg (LSub.cs (LSub.cn (LSub.cn (LSub.cn (LSub.cs (LSub.cn (LSub.nil)))))))
  · have h := ifF c17 h
    obtain ⟨g16, h⟩ := gdS h
    refine Go.t (Go_sg bk_Md_readsHeight 104 10 (c2 := (some 187, [some (.ref 166), none, none, some (.int v3), some (.int v4), some (.int (v5 + (1 : Int32)))], [], sI σ 184 ((σ.1 166 29) + v5).toNatClampNeg v3)) (ps := [shk 166 = 11, shk 166 = 11, IA 184 8 ∧ inb ((σ.1 166 29) + v5) 8 = true]) rfl ⟨rfl, rfl, ⟨⟨rfl, rfl⟩, g16⟩, trivial⟩) ?_
    have h := Option.some.inj h
    subst h
    exact Go.fg (LSub.cs (LSub.cn (LSub.cn (LSub.cs (LSub.cs (LSub.cs (LSub.nil)))))))
def Md_readsHeight_L187 (v3 : Int32) (v4 : Int32) (s : Int32 × MH) : Option ((MH)) := itr (fun s : Int32 × MH => Md_readsHeight_l187 v3 v4 s.1 s.2) FU s
set_option maxRecDepth 20000 in
set_option maxHeartbeats 2000000 in
theorem t_Md_readsHeight_L187 (v3 : Int32) (v4 : Int32)  (s : Int32 × MH) {r} (h : Md_readsHeight_L187 v3 v4 s = some r) : Go m_Md_readsHeight 2 (cH_Md_readsHeight_187 v3 v4 s) (cR_Md_readsHeight_187 v3 v4 r) := Go_itr (fun s o ho => t_Md_readsHeight_l187 v3 v4 s.1 s.2 ho) FU s r h
def Md_readsHeight_b164 (v1 : Int32) (v3 : Int32) (v4 : Int32) (σ : MH) : Option (Int32 × MH) := if (σ.1 166 29) + v4 ≤ (8 : Int32) then ((Md_readsHeight_L187 v3 v4 ((0 : Int32), σ)).bind fun z18 => some ((1 : Int32), sI z18 166 29 ((z18.1 166 29) + v4))) else ((Md_wrongAt (6 : Int32) v1 σ).bind fun (x20, σ21) => some (x20, σ21))
set_option maxRecDepth 20000 in
set_option maxHeartbeats 2000000 in
theorem t_Md_readsHeight_b164 (v1 : Int32) (v3 : Int32) (v4 : Int32)   (σ : MH) {o} (h : Md_readsHeight_b164 v1 v3 v4 σ = some o) : Go m_Md_readsHeight 2 (some 164, [some (.ref 166), some (.int v1), none, some (.int v3), some (.int v4), none], [], σ) ((none, [], [.int o.1], o.2)) := by
  unfold Md_readsHeight_b164 at h
  refine Go.t (Go_sg bk_Md_readsHeight 88 5 (c2 := (some 173, [some (.ref 166), some (.int v1), none, some (.int v3), some (.int v4), none], [.int (8 : Int32), .int ((σ.1 166 29) + v4)], σ)) (ps := [shk 166 = 11]) rfl ⟨rfl, trivial⟩) ?_
  refine Go_icmp_le bk_Md_readsHeight 93 rfl (fun c23 => ?_) (fun c23 => ?_)
  · have h := ifT c23 h
    refine Go.t (Go_sg bk_Md_readsHeight 99 2 (c2 := (some 187, [some (.ref 166), some (.int v1), none, some (.int v3), some (.int v4), some (.int (0 : Int32))], [], σ)) (ps := []) rfl trivial) ?_
    obtain ⟨z18, q19, h⟩ := bdS h
    refine Go.t (Go.t (Go.fg (LSub.cs (LSub.cn (LSub.cn (LSub.cs (LSub.cs (LSub.cs (LSub.nil)))))))) (t_Md_readsHeight_L187 v3 v4 _ q19)) ?_
    have h := Option.some.inj h
    subst h
    refine Go.t (Go_sg bk_Md_readsHeight 114 7 (c2 := (some 225, [some (.ref 166), none, none, none, some (.int v4), none], [.int (1 : Int32)], sI z18 166 29 ((z18.1 166 29) + v4))) (ps := [shk 166 = 11, shk 166 = 11]) rfl ⟨rfl, rfl, trivial⟩) ?_
    exact Go_reti bk_Md_readsHeight 121 rfl
  · have h := ifF c23 h
    refine Go.t (Go_sg bk_Md_readsHeight 94 3 (c2 := (some 180, [some (.ref 166), some (.int v1), none, some (.int v3), some (.int v4), none], [.int v1, .int (6 : Int32), .ref 166], σ)) (ps := []) rfl trivial) ?_
    obtain ⟨⟨x20, σ21⟩, q22, h⟩ := bdS h
    dsimp only at h
    refine Go.t (Go_callV bk_Md_readsHeight 97 rfl nk_Md_wrongAt tw1424 tw1426 tw52 (ci := 11) rfl (as := [.int (6 : Int32), .int v1]) (S := []) rfl rfl rfl rfl (Nat.le_of_ble_eq_true rfl) (Nat.le_of_ble_eq_true rfl) (ev_Md_wrongAt _ _ _ q22)) ?_
    have h := Option.some.inj h
    subst h
    exact Go_reti bk_Md_readsHeight 98 rfl
def Md_readsHeight_b88 (v1 : Int32) (s0 : Int32) (σ : MH) : Option (Int32 × MH) := (Md_here (sI σ 166 5 ((σ.1 166 5) + (1 : Int32)))).bind fun x13 => if x13 = (42 : Int32) then ((Md_here (sI (sI σ 166 5 ((σ.1 166 5) + (1 : Int32))) 166 5 (((sI σ 166 5 ((σ.1 166 5) + (1 : Int32))).1 166 5) + (1 : Int32)))).bind fun x24 => (Md_in x24 (50 : Int32) (56 : Int32) (sI (sI σ 166 5 ((σ.1 166 5) + (1 : Int32))) 166 5 (((sI σ 166 5 ((σ.1 166 5) + (1 : Int32))).1 166 5) + (1 : Int32)))).bind fun x27 => if x27 = (0 : Int32) then ((Md_wrongAt (1 : Int32) ((sI (sI σ 166 5 ((σ.1 166 5) + (1 : Int32))) 166 5 (((sI σ 166 5 ((σ.1 166 5) + (1 : Int32))).1 166 5) + (1 : Int32))).1 166 5) (sI (sI σ 166 5 ((σ.1 166 5) + (1 : Int32))) 166 5 (((sI σ 166 5 ((σ.1 166 5) + (1 : Int32))).1 166 5) + (1 : Int32)))).bind fun (x33, σ34) => some (x33, σ34)) else ((Md_here (sI (sI σ 166 5 ((σ.1 166 5) + (1 : Int32))) 166 5 (((sI σ 166 5 ((σ.1 166 5) + (1 : Int32))).1 166 5) + (1 : Int32)))).bind fun x30 => Md_readsHeight_b164 v1 s0 (x30 - (48 : Int32)) (sI (sI (sI σ 166 5 ((σ.1 166 5) + (1 : Int32))) 166 5 (((sI σ 166 5 ((σ.1 166 5) + (1 : Int32))).1 166 5) + (1 : Int32))) 166 5 (((sI (sI σ 166 5 ((σ.1 166 5) + (1 : Int32))) 166 5 (((sI σ 166 5 ((σ.1 166 5) + (1 : Int32))).1 166 5) + (1 : Int32))).1 166 5) + (1 : Int32))))) else (Md_readsHeight_b164 v1 s0 (1 : Int32) (sI σ 166 5 ((σ.1 166 5) + (1 : Int32))))
set_option maxRecDepth 20000 in
set_option maxHeartbeats 2000000 in
theorem t_Md_readsHeight_b88 (v1 : Int32) (s0 : Int32)   (σ : MH) {o} (h : Md_readsHeight_b88 v1 s0 σ = some o) : Go m_Md_readsHeight 2 (some 88, [some (.ref 166), some (.int v1), none, none, none, none], [.int s0], σ) ((none, [], [.int o.1], o.2)) := by
  unfold Md_readsHeight_b88 at h
  refine Go.t (Go_sg bk_Md_readsHeight 46 10 (c2 := (some 103, [some (.ref 166), some (.int v1), none, some (.int s0), some (.int (1 : Int32)), none], [.ref 166], sI σ 166 5 ((σ.1 166 5) + (1 : Int32)))) (ps := [shk 166 = 11, shk 166 = 11]) rfl ⟨rfl, rfl, trivial⟩) ?_
  obtain ⟨x13, q15, h⟩ := bdS h
  refine Go.t (Go_callV bk_Md_readsHeight 56 rfl nk_Md_here tw1417 tw1419 tw51 (ci := 11) rfl (as := []) (S := []) rfl rfl rfl rfl (Nat.le_of_ble_eq_true rfl) (Nat.le_of_ble_eq_true rfl) (ev_Md_here _ q15)) ?_
  refine Go.t (Go_sg bk_Md_readsHeight 57 1 (c2 := (some 108, [some (.ref 166), some (.int v1), none, some (.int s0), some (.int (1 : Int32)), none], [.int (42 : Int32), .int x13], sI σ 166 5 ((σ.1 166 5) + (1 : Int32)))) (ps := []) rfl trivial) ?_
  refine Go_icmp_ne bk_Md_readsHeight 58 rfl (fun c37 => ?_) (fun c37 => ?_)
  · have h := ifF c37 h
    exact Go.t (Go.fg (LSub.cs (LSub.cs (LSub.cn (LSub.cs (LSub.cs (LSub.cn (LSub.nil)))))))) (t_Md_readsHeight_b164 v1 s0 (1 : Int32) (sI σ 166 5 ((σ.1 166 5) + (1 : Int32))) h)
  · have h := ifT c37 h
    refine Go.t (Go_sg bk_Md_readsHeight 59 7 (c2 := (some 122, [some (.ref 166), some (.int v1), none, some (.int s0), some (.int (1 : Int32)), none], [.ref 166], sI (sI σ 166 5 ((σ.1 166 5) + (1 : Int32))) 166 5 (((sI σ 166 5 ((σ.1 166 5) + (1 : Int32))).1 166 5) + (1 : Int32)))) (ps := [shk 166 = 11, shk 166 = 11]) rfl ⟨rfl, rfl, trivial⟩) ?_
    obtain ⟨x24, q26, h⟩ := bdS h
    refine Go.t (Go_callV bk_Md_readsHeight 66 rfl nk_Md_here tw1417 tw1419 tw51 (ci := 11) rfl (as := []) (S := []) rfl rfl rfl rfl (Nat.le_of_ble_eq_true rfl) (Nat.le_of_ble_eq_true rfl) (ev_Md_here _ q26)) ?_
    refine Go.t (Go_sg bk_Md_readsHeight 67 2 (c2 := (some 129, [some (.ref 166), some (.int v1), none, some (.int s0), some (.int (1 : Int32)), none], [.int (56 : Int32), .int (50 : Int32), .int x24], sI (sI σ 166 5 ((σ.1 166 5) + (1 : Int32))) 166 5 (((sI σ 166 5 ((σ.1 166 5) + (1 : Int32))).1 166 5) + (1 : Int32)))) (ps := []) rfl trivial) ?_
    obtain ⟨x27, q29, h⟩ := bdS h
    refine Go.t (Go_callS bk_Md_readsHeight 69 rfl nk_Md_in tw1370 tw1371 (as := [.int x24, .int (50 : Int32), .int (56 : Int32)]) (S := []) rfl rfl rfl (Nat.le_of_ble_eq_true rfl) (Nat.le_of_ble_eq_true rfl) (ev_Md_in _ _ _ _ q29)) ?_
    refine Go_if_ne bk_Md_readsHeight 70 rfl (fun c36 => ?_) (fun c36 => ?_)
    · have h := ifF c36 h
      refine Go.t (Go_sg bk_Md_readsHeight 77 1 (c2 := (some 146, [some (.ref 166), some (.int v1), none, some (.int s0), some (.int (1 : Int32)), none], [.ref 166], sI (sI σ 166 5 ((σ.1 166 5) + (1 : Int32))) 166 5 (((sI σ 166 5 ((σ.1 166 5) + (1 : Int32))).1 166 5) + (1 : Int32)))) (ps := []) rfl trivial) ?_
      obtain ⟨x30, q32, h⟩ := bdS h
      refine Go.t (Go_callV bk_Md_readsHeight 78 rfl nk_Md_here tw1417 tw1419 tw51 (ci := 11) rfl (as := []) (S := []) rfl rfl rfl rfl (Nat.le_of_ble_eq_true rfl) (Nat.le_of_ble_eq_true rfl) (ev_Md_here _ q32)) ?_
      refine Go.t (Go_sg bk_Md_readsHeight 79 9 (c2 := (some 164, [some (.ref 166), some (.int v1), none, some (.int s0), some (.int (x30 - (48 : Int32))), none], [], sI (sI (sI σ 166 5 ((σ.1 166 5) + (1 : Int32))) 166 5 (((sI σ 166 5 ((σ.1 166 5) + (1 : Int32))).1 166 5) + (1 : Int32))) 166 5 (((sI (sI σ 166 5 ((σ.1 166 5) + (1 : Int32))) 166 5 (((sI σ 166 5 ((σ.1 166 5) + (1 : Int32))).1 166 5) + (1 : Int32))).1 166 5) + (1 : Int32)))) (ps := [shk 166 = 11, shk 166 = 11]) rfl ⟨rfl, rfl, trivial⟩) ?_
      exact Go.t (Go.fg (LSub.cs (LSub.cs (LSub.cn (LSub.cs (LSub.cs (LSub.cn (LSub.nil)))))))) (t_Md_readsHeight_b164 v1 s0 (x30 - (48 : Int32)) (sI (sI (sI σ 166 5 ((σ.1 166 5) + (1 : Int32))) 166 5 (((sI σ 166 5 ((σ.1 166 5) + (1 : Int32))).1 166 5) + (1 : Int32))) 166 5 (((sI (sI σ 166 5 ((σ.1 166 5) + (1 : Int32))) 166 5 (((sI σ 166 5 ((σ.1 166 5) + (1 : Int32))).1 166 5) + (1 : Int32))).1 166 5) + (1 : Int32))) h)
    · have h := ifT c36 h
      refine Go.t (Go_sg bk_Md_readsHeight 71 4 (c2 := (some 141, [some (.ref 166), some (.int v1), none, some (.int s0), some (.int (1 : Int32)), none], [.int ((sI (sI σ 166 5 ((σ.1 166 5) + (1 : Int32))) 166 5 (((sI σ 166 5 ((σ.1 166 5) + (1 : Int32))).1 166 5) + (1 : Int32))).1 166 5), .int (1 : Int32), .ref 166], sI (sI σ 166 5 ((σ.1 166 5) + (1 : Int32))) 166 5 (((sI σ 166 5 ((σ.1 166 5) + (1 : Int32))).1 166 5) + (1 : Int32)))) (ps := [shk 166 = 11]) rfl ⟨rfl, trivial⟩) ?_
      obtain ⟨⟨x33, σ34⟩, q35, h⟩ := bdS h
      dsimp only at h
      refine Go.t (Go_callV bk_Md_readsHeight 75 rfl nk_Md_wrongAt tw1424 tw1426 tw52 (ci := 11) rfl (as := [.int (1 : Int32), .int ((sI (sI σ 166 5 ((σ.1 166 5) + (1 : Int32))) 166 5 (((sI σ 166 5 ((σ.1 166 5) + (1 : Int32))).1 166 5) + (1 : Int32))).1 166 5)]) (S := []) rfl rfl rfl rfl (Nat.le_of_ble_eq_true rfl) (Nat.le_of_ble_eq_true rfl) (ev_Md_wrongAt _ _ _ q35)) ?_
      have h := Option.some.inj h
      subst h
      exact Go_reti bk_Md_readsHeight 76 rfl
def Md_readsHeight_b49 (v1 : Int32) (v2 : Int32) (s0 : Int32) (s1 : Int32) (σ : MH) : Option (Int32 × MH) := (Md_in s1 s0 (57 : Int32) σ).bind fun x7 => if x7 = (0 : Int32) then ((Md_wrongAt (1 : Int32) (σ.1 166 5) σ).bind fun (x42, σ43) => some (x42, σ43)) else (if v2 = (0 : Int32) then ((Md_here σ).bind fun x10 => Md_readsHeight_b88 v1 (x10 - (48 : Int32)) σ) else ((Md_here σ).bind fun x38 => Md_readsHeight_b88 v1 ((48 : Int32) - x38) σ))
set_option maxRecDepth 20000 in
set_option maxHeartbeats 2000000 in
theorem t_Md_readsHeight_b49 (v1 : Int32) (v2 : Int32) (s0 : Int32) (s1 : Int32)   (σ : MH) {o} (h : Md_readsHeight_b49 v1 v2 s0 s1 σ = some o) : Go m_Md_readsHeight 2 (some 49, [some (.ref 166), some (.int v1), some (.int v2), none, none, none], [.int s0, .int s1], σ) ((none, [], [.int o.1], o.2)) := by
  unfold Md_readsHeight_b49 at h
  refine Go.t (Go_sg bk_Md_readsHeight 26 1 (c2 := (some 51, [some (.ref 166), some (.int v1), some (.int v2), none, none, none], [.int (57 : Int32), .int s0, .int s1], σ)) (ps := []) rfl trivial) ?_
  obtain ⟨x7, q9, h⟩ := bdS h
  refine Go.t (Go_callS bk_Md_readsHeight 27 rfl nk_Md_in tw1370 tw1371 (as := [.int s1, .int s0, .int (57 : Int32)]) (S := []) rfl rfl rfl (Nat.le_of_ble_eq_true rfl) (Nat.le_of_ble_eq_true rfl) (ev_Md_in _ _ _ _ q9)) ?_
  refine Go_if_ne bk_Md_readsHeight 28 rfl (fun c45 => ?_) (fun c45 => ?_)
  · have h := ifF c45 h
    refine Go.t (Go_sg bk_Md_readsHeight 35 1 (c2 := (some 68, [some (.ref 166), some (.int v1), some (.int v2), none, none, none], [.int v2], σ)) (ps := []) rfl trivial) ?_
    refine Go_if_eq bk_Md_readsHeight 36 rfl (fun c41 => ?_) (fun c41 => ?_)
    · have h := ifT c41 h
      refine Go.t (Go_sg bk_Md_readsHeight 42 1 (c2 := (some 82, [some (.ref 166), some (.int v1), some (.int v2), none, none, none], [.ref 166], σ)) (ps := []) rfl trivial) ?_
      obtain ⟨x10, q12, h⟩ := bdS h
      refine Go.t (Go_callV bk_Md_readsHeight 43 rfl nk_Md_here tw1417 tw1419 tw51 (ci := 11) rfl (as := []) (S := []) rfl rfl rfl rfl (Nat.le_of_ble_eq_true rfl) (Nat.le_of_ble_eq_true rfl) (ev_Md_here _ q12)) ?_
      refine Go.t (Go_sg bk_Md_readsHeight 44 2 (c2 := (some 88, [some (.ref 166), some (.int v1), some (.int v2), none, none, none], [.int (x10 - (48 : Int32))], σ)) (ps := []) rfl trivial) ?_
      exact Go.t (Go.fg (LSub.cs (LSub.cs (LSub.cn (LSub.cn (LSub.cn (LSub.cn (LSub.nil)))))))) (t_Md_readsHeight_b88 v1 (x10 - (48 : Int32)) σ h)
    · have h := ifF c41 h
      refine Go.t (Go_sg bk_Md_readsHeight 37 2 (c2 := (some 74, [some (.ref 166), some (.int v1), some (.int v2), none, none, none], [.ref 166, .int (48 : Int32)], σ)) (ps := []) rfl trivial) ?_
      obtain ⟨x38, q40, h⟩ := bdS h
      refine Go.t (Go_callV bk_Md_readsHeight 39 rfl nk_Md_here tw1417 tw1419 tw51 (ci := 11) rfl (as := []) (S := [.int (48 : Int32)]) rfl rfl rfl rfl (Nat.le_of_ble_eq_true rfl) (Nat.le_of_ble_eq_true rfl) (ev_Md_here _ q40)) ?_
      refine Go.t (Go_sg bk_Md_readsHeight 40 2 (c2 := (some 88, [some (.ref 166), some (.int v1), some (.int v2), none, none, none], [.int ((48 : Int32) - x38)], σ)) (ps := []) rfl trivial) ?_
      exact Go.t (Go.fg (LSub.cs (LSub.cs (LSub.cn (LSub.cn (LSub.cn (LSub.cn (LSub.nil)))))))) (t_Md_readsHeight_b88 v1 ((48 : Int32) - x38) σ h)
  · have h := ifT c45 h
    refine Go.t (Go_sg bk_Md_readsHeight 29 4 (c2 := (some 63, [some (.ref 166), some (.int v1), some (.int v2), none, none, none], [.int (σ.1 166 5), .int (1 : Int32), .ref 166], σ)) (ps := [shk 166 = 11]) rfl ⟨rfl, trivial⟩) ?_
    obtain ⟨⟨x42, σ43⟩, q44, h⟩ := bdS h
    dsimp only at h
    refine Go.t (Go_callV bk_Md_readsHeight 33 rfl nk_Md_wrongAt tw1424 tw1426 tw52 (ci := 11) rfl (as := [.int (1 : Int32), .int (σ.1 166 5)]) (S := []) rfl rfl rfl rfl (Nat.le_of_ble_eq_true rfl) (Nat.le_of_ble_eq_true rfl) (ev_Md_wrongAt _ _ _ q44)) ?_
    have h := Option.some.inj h
    subst h
    exact Go_reti bk_Md_readsHeight 34 rfl
def Md_readsHeight_b34 (v1 : Int32) (v2 : Int32) (σ : MH) : Option (Int32 × MH) := (Md_here σ).bind fun x4 => if v2 = (0 : Int32) then (Md_readsHeight_b49 v1 v2 (48 : Int32) x4 σ) else (Md_readsHeight_b49 v1 v2 (49 : Int32) x4 σ)
set_option maxRecDepth 20000 in
set_option maxHeartbeats 2000000 in
theorem t_Md_readsHeight_b34 (v1 : Int32) (v2 : Int32)   (σ : MH) {o} (h : Md_readsHeight_b34 v1 v2 σ = some o) : Go m_Md_readsHeight 2 (some 34, [some (.ref 166), some (.int v1), some (.int v2), none, none, none], [], σ) ((none, [], [.int o.1], o.2)) := by
  unfold Md_readsHeight_b34 at h
  refine Go.t (Go_sg bk_Md_readsHeight 19 1 (c2 := (some 35, [some (.ref 166), some (.int v1), some (.int v2), none, none, none], [.ref 166], σ)) (ps := []) rfl trivial) ?_
  obtain ⟨x4, q6, h⟩ := bdS h
  refine Go.t (Go_callV bk_Md_readsHeight 20 rfl nk_Md_here tw1417 tw1419 tw51 (ci := 11) rfl (as := []) (S := []) rfl rfl rfl rfl (Nat.le_of_ble_eq_true rfl) (Nat.le_of_ble_eq_true rfl) (ev_Md_here _ q6)) ?_
  refine Go.t (Go_sg bk_Md_readsHeight 21 1 (c2 := (some 39, [some (.ref 166), some (.int v1), some (.int v2), none, none, none], [.int v2, .int x4], σ)) (ps := []) rfl trivial) ?_
  refine Go_if_eq bk_Md_readsHeight 22 rfl (fun c46 => ?_) (fun c46 => ?_)
  · have h := ifT c46 h
    refine Go.t (Go_sg bk_Md_readsHeight 25 1 (c2 := (some 49, [some (.ref 166), some (.int v1), some (.int v2), none, none, none], [.int (48 : Int32), .int x4], σ)) (ps := []) rfl trivial) ?_
    exact Go.t (Go.fg (LSub.cs (LSub.cs (LSub.cs (LSub.cn (LSub.cn (LSub.cn (LSub.nil)))))))) (t_Md_readsHeight_b49 v1 v2 (48 : Int32) x4 σ h)
  · have h := ifF c46 h
    refine Go.t (Go_sg bk_Md_readsHeight 23 2 (c2 := (some 49, [some (.ref 166), some (.int v1), some (.int v2), none, none, none], [.int (49 : Int32), .int x4], σ)) (ps := []) rfl trivial) ?_
    exact Go.t (Go.fg (LSub.cs (LSub.cs (LSub.cs (LSub.cn (LSub.cn (LSub.cn (LSub.nil)))))))) (t_Md_readsHeight_b49 v1 v2 (49 : Int32) x4 σ h)
def Md_readsHeight_b19 (v1 : Int32) (s0 : Int32) (σ : MH) : Option (Int32 × MH) := if s0 = (0 : Int32) then (Md_readsHeight_b34 v1 s0 σ) else Md_readsHeight_b34 v1 s0 (sI σ 166 5 ((σ.1 166 5) + (1 : Int32)))
set_option maxRecDepth 20000 in
set_option maxHeartbeats 2000000 in
theorem t_Md_readsHeight_b19 (v1 : Int32) (s0 : Int32)   (σ : MH) {o} (h : Md_readsHeight_b19 v1 s0 σ = some o) : Go m_Md_readsHeight 2 (some 19, [some (.ref 166), some (.int v1), none, none, none, none], [.int s0], σ) ((none, [], [.int o.1], o.2)) := by
  unfold Md_readsHeight_b19 at h
  refine Go.t (Go_sg bk_Md_readsHeight 10 2 (c2 := (some 21, [some (.ref 166), some (.int v1), some (.int s0), none, none, none], [.int s0], σ)) (ps := []) rfl trivial) ?_
  refine Go_if_eq bk_Md_readsHeight 12 rfl (fun c47 => ?_) (fun c47 => ?_)
  · have h := ifT c47 h
    exact Go.t (Go.fg (LSub.cs (LSub.cs (LSub.cs (LSub.cn (LSub.cn (LSub.cn (LSub.nil)))))))) (t_Md_readsHeight_b34 v1 s0 σ h)
  · have h := ifF c47 h
    refine Go.t (Go_sg bk_Md_readsHeight 13 6 (c2 := (some 34, [some (.ref 166), some (.int v1), some (.int s0), none, none, none], [], sI σ 166 5 ((σ.1 166 5) + (1 : Int32)))) (ps := [shk 166 = 11, shk 166 = 11]) rfl ⟨rfl, rfl, trivial⟩) ?_
    exact Go.t (Go.fg (LSub.cs (LSub.cs (LSub.cs (LSub.cn (LSub.cn (LSub.cn (LSub.nil)))))))) (t_Md_readsHeight_b34 v1 s0 (sI σ 166 5 ((σ.1 166 5) + (1 : Int32))) h)
def Md_readsHeight0  (σ : MH) : Option (Int32 × MH) := (Md_here σ).bind fun x1 => if x1 = (45 : Int32) then (Md_readsHeight_b19 (σ.1 166 5) (1 : Int32) σ) else (Md_readsHeight_b19 (σ.1 166 5) (0 : Int32) σ)
set_option maxRecDepth 20000 in
set_option maxHeartbeats 2000000 in
theorem t_Md_readsHeight0   (σ : MH) {o} (h : Md_readsHeight0 σ = some o) : Go m_Md_readsHeight 2 (some 0, [some (.ref 166), none, none, none, none, none], [], σ) ((none, [], [.int o.1], o.2)) := by
  unfold Md_readsHeight0 at h
  refine Go.t (Go_sg bk_Md_readsHeight 0 4 (c2 := (some 6, [some (.ref 166), some (.int (σ.1 166 5)), none, none, none, none], [.ref 166], σ)) (ps := [shk 166 = 11]) rfl ⟨rfl, trivial⟩) ?_
  obtain ⟨x1, q3, h⟩ := bdS h
  refine Go.t (Go_callV bk_Md_readsHeight 4 rfl nk_Md_here tw1417 tw1419 tw51 (ci := 11) rfl (as := []) (S := []) rfl rfl rfl rfl (Nat.le_of_ble_eq_true rfl) (Nat.le_of_ble_eq_true rfl) (ev_Md_here _ q3)) ?_
  refine Go.t (Go_sg bk_Md_readsHeight 5 1 (c2 := (some 11, [some (.ref 166), some (.int (σ.1 166 5)), none, none, none, none], [.int (45 : Int32), .int x1], σ)) (ps := []) rfl trivial) ?_
  refine Go_icmp_ne bk_Md_readsHeight 6 rfl (fun c48 => ?_) (fun c48 => ?_)
  · have h := ifF c48 h
    refine Go.t (Go_sg bk_Md_readsHeight 9 1 (c2 := (some 19, [some (.ref 166), some (.int (σ.1 166 5)), none, none, none, none], [.int (0 : Int32)], σ)) (ps := []) rfl trivial) ?_
    exact Go.t (Go.fg (LSub.cs (LSub.cs (LSub.cn (LSub.cn (LSub.cn (LSub.cn (LSub.nil)))))))) (t_Md_readsHeight_b19 (σ.1 166 5) (0 : Int32) σ h)
  · have h := ifT c48 h
    refine Go.t (Go_sg bk_Md_readsHeight 7 2 (c2 := (some 19, [some (.ref 166), some (.int (σ.1 166 5)), none, none, none, none], [.int (1 : Int32)], σ)) (ps := []) rfl trivial) ?_
    exact Go.t (Go.fg (LSub.cs (LSub.cs (LSub.cn (LSub.cn (LSub.cn (LSub.cn (LSub.nil)))))))) (t_Md_readsHeight_b19 (σ.1 166 5) (1 : Int32) σ h)
def Md_readsHeight  (σ : MH) : Option (Int32 × MH) := bzo (Md_readsHeight0 σ)
set_option maxRecDepth 20000 in
set_option maxHeartbeats 2000000 in
theorem ev_Md_readsHeight   (σ : MH) {o} (h : Md_readsHeight σ = some o) : Ev m_Md_readsHeight 2 [.ref 166] σ (some (.int o.1)) o.2 := Ev.of2 (by decide +kernel) rfl (Nat.le_of_ble_eq_true rfl) ⟨.boolean, rfl, nrB (bzo2 h)⟩ (t_Md_readsHeight0 σ (bzo1 h))
def Md_size0 (v0 : Int32) (σ : MH) : Option (Int32) := if (0 : Int32) ≤ v0 then some (v0) else some (-v0)
set_option maxRecDepth 20000 in
set_option maxHeartbeats 2000000 in
theorem t_Md_size0 (v0 : Int32)  (σ : MH) {o} (h : Md_size0 v0 σ = some o) : Go m_Md_size 1 (some 0, [some (.int v0)], [], σ) ((none, [], [.int o], σ)) := by
  unfold Md_size0 at h
  refine Go.t (Go_sg bk_Md_size 0 1 (c2 := (some 1, [some (.int v0)], [.int v0], σ)) (ps := []) rfl trivial) ?_
  refine Go_if_ge bk_Md_size 1 rfl (fun c1 => ?_) (fun c1 => ?_)
  · have h := ifT c1 h
    have h := Option.some.inj h
    subst h
    refine Go.t (Go_sg bk_Md_size 5 1 (c2 := (some 10, [some (.int v0)], [.int v0], σ)) (ps := []) rfl trivial) ?_
    exact Go_reti bk_Md_size 6 rfl
  · have h := ifF c1 h
    refine Go.t (Go_sg bk_Md_size 2 3 (c2 := (some 10, [some (.int v0)], [.int (-v0)], σ)) (ps := []) rfl trivial) ?_
    have h := Option.some.inj h
    subst h
    exact Go_reti bk_Md_size 6 rfl
def Md_size (v0 : Int32) (σ : MH) : Option (Int32) := Md_size0 v0 σ
set_option maxRecDepth 20000 in
set_option maxHeartbeats 2000000 in
theorem ev_Md_size (v0 : Int32)  (σ : MH) {o} (h : Md_size v0 σ = some o) : Ev m_Md_size 1 [.int v0] σ (some (.int o)) σ := Ev.of2 (by decide +kernel) rfl (Nat.le_of_ble_eq_true rfl) ⟨.int, rfl, rfl⟩ (t_Md_size0 v0 σ h)
def cH_Md_edge_47 (v1 : Int32) (s : Int32 × MH) : MC := (some 47, [some (.ref 166), some (.int v1), none, some (.int s.1), none, none], [], s.2)
def cR_Md_edge_47 (v1 : Int32) : ((Int32 × MH)) → MC := (fun r : Int32 × MH => ((some 96, [some (.ref 166), some (.int v1), none, some (.int r.1), none, none], [], r.2) : MC))
def Md_edge_b92 (v1 : Int32) (s0 : Int32) (σ : MH) : Option (((Int32 × MH) ⊕ ((Int32 × MH)))) := some (.inl (s0, σ))
set_option maxRecDepth 20000 in
set_option maxHeartbeats 2000000 in
theorem t_Md_edge_b92 (v1 : Int32) (s0 : Int32)   (σ : MH) {o} (h : Md_edge_b92 v1 s0 σ = some o) : Go m_Md_edge 3 (some 92, [some (.ref 166), some (.int v1), none, none, none, none], [.int s0], σ) (cS (cH_Md_edge_47 v1) (cR_Md_edge_47 v1) o) := by
  unfold Md_edge_b92 at h
  refine Go.t (Go_sg bk_Md_edge 47 2 (c2 := (some 47, [some (.ref 166), some (.int v1), none, some (.int s0), none, none], [], σ)) (ps := []) rfl trivial) ?_
  have h := Option.some.inj h
  subst h
  exact Go.fg (LSub.cs (LSub.cs (LSub.cn (LSub.cs (LSub.cn (LSub.cn (LSub.nil)))))))
def Md_edge_b91 (v1 : Int32) (σ : MH) : Option (((Int32 × MH) ⊕ ((Int32 × MH)))) := Md_edge_b92 v1 (0 : Int32) σ
set_option maxRecDepth 20000 in
set_option maxHeartbeats 2000000 in
theorem t_Md_edge_b91 (v1 : Int32)   (σ : MH) {o} (h : Md_edge_b91 v1 σ = some o) : Go m_Md_edge 3 (some 91, [some (.ref 166), some (.int v1), none, none, none, none], [], σ) (cS (cH_Md_edge_47 v1) (cR_Md_edge_47 v1) o) := by
  unfold Md_edge_b91 at h
  refine Go.t (Go_sg bk_Md_edge 46 1 (c2 := (some 92, [some (.ref 166), some (.int v1), none, none, none, none], [.int (0 : Int32)], σ)) (ps := []) rfl trivial) ?_
  exact Go.t (Go.fg (LSub.cs (LSub.cs (LSub.cn (LSub.cn (LSub.cn (LSub.cn (LSub.nil)))))))) (t_Md_edge_b92 v1 (0 : Int32) σ h)
def Md_edge_b71 (v1 : Int32) (σ : MH) : Option (((Int32 × MH) ⊕ ((Int32 × MH)))) := (Md_takes (44 : Int32) σ).bind fun (x10, σ11) => if x10 = (0 : Int32) then (Md_edge_b91 v1 σ11) else ((Md_readsHeight σ11).bind fun (x13, σ14) => if x13 = (0 : Int32) then (Md_edge_b91 v1 σ14) else (Md_edge_b92 v1 (1 : Int32) σ14))
set_option maxRecDepth 20000 in
set_option maxHeartbeats 2000000 in
theorem t_Md_edge_b71 (v1 : Int32)   (σ : MH) {o} (h : Md_edge_b71 v1 σ = some o) : Go m_Md_edge 3 (some 71, [some (.ref 166), some (.int v1), none, none, none, none], [], σ) (cS (cH_Md_edge_47 v1) (cR_Md_edge_47 v1) o) := by
  unfold Md_edge_b71 at h
  refine Go.t (Go_sg bk_Md_edge 37 2 (c2 := (some 74, [some (.ref 166), some (.int v1), none, none, none, none], [.int (44 : Int32), .ref 166], σ)) (ps := []) rfl trivial) ?_
  obtain ⟨⟨x10, σ11⟩, q12, h⟩ := bdS h
  dsimp only at h
  refine Go.t (Go_callV bk_Md_edge 39 rfl nk_Md_takes tw1491 tw1493 tw67 (ci := 11) rfl (as := [.int (44 : Int32)]) (S := []) rfl rfl rfl rfl (Nat.le_of_ble_eq_true rfl) (Nat.le_of_ble_eq_true rfl) (ev_Md_takes _ _ q12)) ?_
  refine Go_if_eq bk_Md_edge 40 rfl (fun c17 => ?_) (fun c17 => ?_)
  · have h := ifT c17 h
    exact Go.t (Go.fg (LSub.cs (LSub.cs (LSub.cn (LSub.cn (LSub.cn (LSub.cn (LSub.nil)))))))) (t_Md_edge_b91 v1 σ11 h)
  · have h := ifF c17 h
    refine Go.t (Go_sg bk_Md_edge 41 1 (c2 := (some 81, [some (.ref 166), some (.int v1), none, none, none, none], [.ref 166], σ11)) (ps := []) rfl trivial) ?_
    obtain ⟨⟨x13, σ14⟩, q15, h⟩ := bdS h
    dsimp only at h
    refine Go.t (Go_callV bk_Md_edge 42 rfl nk_Md_readsHeight tw1499 tw1501 tw68 (ci := 11) rfl (as := []) (S := []) rfl rfl rfl rfl (Nat.le_of_ble_eq_true rfl) (Nat.le_of_ble_eq_true rfl) (ev_Md_readsHeight _ q15)) ?_
    refine Go_if_eq bk_Md_edge 43 rfl (fun c16 => ?_) (fun c16 => ?_)
    · have h := ifT c16 h
      exact Go.t (Go.fg (LSub.cs (LSub.cs (LSub.cn (LSub.cn (LSub.cn (LSub.cn (LSub.nil)))))))) (t_Md_edge_b91 v1 σ14 h)
    · have h := ifF c16 h
      refine Go.t (Go_sg bk_Md_edge 44 2 (c2 := (some 92, [some (.ref 166), some (.int v1), none, none, none, none], [.int (1 : Int32)], σ14)) (ps := []) rfl trivial) ?_
      exact Go.t (Go.fg (LSub.cs (LSub.cs (LSub.cn (LSub.cn (LSub.cn (LSub.cn (LSub.nil)))))))) (t_Md_edge_b92 v1 (1 : Int32) σ14 h)
def Md_edge_l47 (v1 : Int32) (v3 : Int32) (σ : MH) : Option (((Int32 × MH) ⊕ ((Int32 × MH)))) := if v3 = (0 : Int32) then some (.inr (v3, σ)) else (if σ.1 166 5 < σ.1 166 6 then (Md_edge_b71 v1 σ) else (if (8 : Int32) ≤ σ.1 166 29 then some (.inr (v3, σ)) else (Md_edge_b71 v1 σ)))
set_option maxRecDepth 20000 in
set_option maxHeartbeats 2000000 in
theorem t_Md_edge_l47 (v1 : Int32) (v3 : Int32)  (σ : MH) {o} (h : Md_edge_l47 v1 v3 σ = some o) : Go m_Md_edge 3 (cH_Md_edge_47 v1 (v3, σ)) (cS (cH_Md_edge_47 v1) (cR_Md_edge_47 v1) o) := by
  unfold Md_edge_l47 at h
  unfold cH_Md_edge_47
  refine Go.t (Go_sg bk_Md_edge 26 1 (c2 := (some 48, [some (.ref 166), some (.int v1), none, some (.int v3), none, none], [.int v3], σ)) (ps := []) rfl trivial) ?_
  refine Go_if_eq bk_Md_edge 27 rfl (fun c20 => ?_) (fun c20 => ?_)
  · have h := ifT c20 h
    have h := Option.some.inj h
    subst h
    exact Go.fg (LSub.cs (LSub.cs (LSub.cn (LSub.cs (LSub.cn (LSub.cn (LSub.nil)))))))
  · have h := ifF c20 h
    refine Go.t (Go_sg bk_Md_edge 28 4 (c2 := (some 59, [some (.ref 166), some (.int v1), none, some (.int v3), none, none], [.int (σ.1 166 6), .int (σ.1 166 5)], σ)) (ps := [shk 166 = 11, shk 166 = 11]) rfl ⟨rfl, rfl, trivial⟩) ?_
    refine Go_icmp_lt bk_Md_edge 32 rfl (fun c19 => ?_) (fun c19 => ?_)
    · have h := ifT c19 h
      exact Go.t (Go.fg (LSub.cs (LSub.cs (LSub.cn (LSub.cn (LSub.cn (LSub.cn (LSub.nil)))))))) (t_Md_edge_b71 v1 σ h)
    · have h := ifF c19 h
      refine Go.t (Go_sg bk_Md_edge 33 3 (c2 := (some 68, [some (.ref 166), some (.int v1), none, some (.int v3), none, none], [.int (8 : Int32), .int (σ.1 166 29)], σ)) (ps := [shk 166 = 11]) rfl ⟨rfl, trivial⟩) ?_
      refine Go_icmp_ge bk_Md_edge 36 rfl (fun c18 => ?_) (fun c18 => ?_)
      · have h := ifT c18 h
        have h := Option.some.inj h
        subst h
        exact Go.fg (LSub.cs (LSub.cs (LSub.cn (LSub.cs (LSub.cn (LSub.cn (LSub.nil)))))))
      · have h := ifF c18 h
        exact Go.t (Go.fg (LSub.cs (LSub.cs (LSub.cn (LSub.cn (LSub.cn (LSub.cn (LSub.nil)))))))) (t_Md_edge_b71 v1 σ h)
def Md_edge_L47 (v1 : Int32) (s : Int32 × MH) : Option ((Int32 × MH)) := itr (fun s : Int32 × MH => Md_edge_l47 v1 s.1 s.2) FU s
set_option maxRecDepth 20000 in
set_option maxHeartbeats 2000000 in
theorem t_Md_edge_L47 (v1 : Int32)  (s : Int32 × MH) {r} (h : Md_edge_L47 v1 s = some r) : Go m_Md_edge 3 (cH_Md_edge_47 v1 s) (cR_Md_edge_47 v1 r) := Go_itr (fun s o ho => t_Md_edge_l47 v1 s.1 s.2 ho) FU s r h
def cH_Md_edge_116 (v1 : Int32) (s : Int32 × Int32 × MH) : MC := (some 116, [some (.ref 166), some (.int v1), none, none, some (.int s.1), some (.int s.2.1)], [], s.2.2)
def cR_Md_edge_116 (v1 : Int32) : ((Int32 × MH)) → MC := (fun r : Int32 × MH => ((none, [], [.int r.1], r.2) : MC))
def Md_edge_l116 (v1 : Int32) (v4 : Int32) (v5 : Int32) (σ : MH) : Option (((Int32 × Int32 × MH) ⊕ ((Int32 × MH)))) := if (8 : Int32) ≤ v5 then some (.inr (v4, σ)) else (if inb v5 8 = true then if inb (((112 : Int32) + ((8 : Int32) * v1)) + v5) 1936 = true then (Md_size ((sI σ 167 (((112 : Int32) + ((8 : Int32) * v1)) + v5).toNatClampNeg (σ.1 184 v5.toNatClampNeg)).1 184 v5.toNatClampNeg) (sI σ 167 (((112 : Int32) + ((8 : Int32) * v1)) + v5).toNatClampNeg (σ.1 184 v5.toNatClampNeg))).bind fun x25 => some (.inl (v4 + x25, v5 + (1 : Int32), sI σ 167 (((112 : Int32) + ((8 : Int32) * v1)) + v5).toNatClampNeg (σ.1 184 v5.toNatClampNeg))) else none else none)
set_option maxRecDepth 20000 in
set_option maxHeartbeats 2000000 in
theorem t_Md_edge_l116 (v1 : Int32) (v4 : Int32) (v5 : Int32)  (σ : MH) {o} (h : Md_edge_l116 v1 v4 v5 σ = some o) : Go m_Md_edge 3 (cH_Md_edge_116 v1 (v4, v5, σ)) (cS (cH_Md_edge_116 v1) (cR_Md_edge_116 v1) o) := by
  unfold Md_edge_l116 at h
  unfold cH_Md_edge_116
  refine Go.t (Go_sg bk_Md_edge 61 2 (c2 := (some 120, [some (.ref 166), some (.int v1), none, none, some (.int v4), some (.int v5)], [.int (8 : Int32), .int v5], σ)) (ps := []) rfl trivial) ?_
  refine Go_icmp_ge bk_Md_edge 63 rfl (fun c28 => ?_) (fun c28 => ?_)
  · have h := ifT c28 h
    have h := Option.some.inj h
    subst h
    refine Go.t (Go_sg bk_Md_edge 88 1 (c2 := (some 168, [some (.ref 166), some (.int v1), none, none, some (.int v4), some (.int v5)], [.int v4], σ)) (ps := []) rfl trivial) ?_
    exact Go_reti bk_Md_edge 89 rfl
  · have h := ifF c28 h
    obtain ⟨g23, h⟩ := gdS h
    obtain ⟨g24, h⟩ := gdS h
    refine Go.t (Go_sg bk_Md_edge 64 19 (c2 := (some 154, [some (.ref 166), some (.int v1), none, none, some (.int v4), some (.int v5)], [.int ((sI σ 167 (((112 : Int32) + ((8 : Int32) * v1)) + v5).toNatClampNeg (σ.1 184 v5.toNatClampNeg)).1 184 v5.toNatClampNeg), .int v4], sI σ 167 (((112 : Int32) + ((8 : Int32) * v1)) + v5).toNatClampNeg (σ.1 184 v5.toNatClampNeg))) (ps := [shk 166 = 11, shk 166 = 11, IA 184 8 ∧ inb v5 8 = true, IA 167 1936 ∧ inb (((112 : Int32) + ((8 : Int32) * v1)) + v5) 1936 = true, shk 166 = 11, IA 184 8 ∧ inb v5 8 = true]) rfl ⟨rfl, rfl, ⟨⟨rfl, rfl⟩, g23⟩, ⟨⟨rfl, rfl⟩, g24⟩, rfl, ⟨⟨rfl, rfl⟩, g23⟩, trivial⟩) ?_
    obtain ⟨x25, q27, h⟩ := bdS h
    refine Go.t (Go_callS bk_Md_edge 83 rfl nk_Md_size tw1503 tw1504 (as := [.int ((sI σ 167 (((112 : Int32) + ((8 : Int32) * v1)) + v5).toNatClampNeg (σ.1 184 v5.toNatClampNeg)).1 184 v5.toNatClampNeg)]) (S := [.int v4]) rfl rfl rfl (Nat.le_of_ble_eq_true rfl) (Nat.le_of_ble_eq_true rfl) (ev_Md_size _ _ q27)) ?_
    refine Go.t (Go_sg bk_Md_edge 84 4 (c2 := (some 116, [some (.ref 166), some (.int v1), none, none, some (.int (v4 + x25)), some (.int (v5 + (1 : Int32)))], [], sI σ 167 (((112 : Int32) + ((8 : Int32) * v1)) + v5).toNatClampNeg (σ.1 184 v5.toNatClampNeg))) (ps := []) rfl trivial) ?_
    have h := Option.some.inj h
    subst h
    exact Go.fg (LSub.cs (LSub.cs (LSub.cn (LSub.cn (LSub.cs (LSub.cs (LSub.nil)))))))
def Md_edge_L116 (v1 : Int32) (s : Int32 × Int32 × MH) : Option ((Int32 × MH)) := itr (fun s : Int32 × Int32 × MH => Md_edge_l116 v1 s.1 s.2.1 s.2.2) FU s
set_option maxRecDepth 20000 in
set_option maxHeartbeats 2000000 in
theorem t_Md_edge_L116 (v1 : Int32)  (s : Int32 × Int32 × MH) {r} (h : Md_edge_L116 v1 s = some r) : Go m_Md_edge 3 (cH_Md_edge_116 v1 s) (cR_Md_edge_116 v1 r) := Go_itr (fun s o ho => t_Md_edge_l116 v1 s.1 s.2.1 s.2.2 ho) FU s r h
def Md_edge_b96 (v1 : Int32) (v3 : Int32) (σ : MH) : Option (Int32 × MH) := if v3 = (0 : Int32) then some ((sI σ 166 4 (0 : Int32)).1 166 7, sI σ 166 4 (0 : Int32)) else ((Md_edge_L116 v1 ((0 : Int32), (0 : Int32), sI σ 166 4 (0 : Int32))).bind fun z29 => some (z29.1, z29.2))
set_option maxRecDepth 20000 in
set_option maxHeartbeats 2000000 in
theorem t_Md_edge_b96 (v1 : Int32) (v3 : Int32)   (σ : MH) {o} (h : Md_edge_b96 v1 v3 σ = some o) : Go m_Md_edge 3 (some 96, [some (.ref 166), some (.int v1), none, some (.int v3), none, none], [], σ) ((none, [], [.int o.1], o.2)) := by
  unfold Md_edge_b96 at h
  refine Go.t (Go_sg bk_Md_edge 49 4 (c2 := (some 102, [some (.ref 166), some (.int v1), none, some (.int v3), none, none], [.int v3], sI σ 166 4 (0 : Int32))) (ps := [shk 166 = 11]) rfl ⟨rfl, trivial⟩) ?_
  refine Go_if_ne bk_Md_edge 53 rfl (fun c31 => ?_) (fun c31 => ?_)
  · have h := ifF c31 h
    refine Go.t (Go_sg bk_Md_edge 57 4 (c2 := (some 116, [some (.ref 166), some (.int v1), none, some (.int v3), some (.int (0 : Int32)), some (.int (0 : Int32))], [], sI σ 166 4 (0 : Int32))) (ps := []) rfl trivial) ?_
    obtain ⟨z29, q30, h⟩ := bdS h
    refine Go.t (Go.t (Go.fg (LSub.cs (LSub.cs (LSub.cn (LSub.cn (LSub.cs (LSub.cs (LSub.nil)))))))) (t_Md_edge_L116 v1 _ q30)) ?_
    have h := Option.some.inj h
    subst h
    exact Go.rf
  · have h := ifT c31 h
    have h := Option.some.inj h
    subst h
    refine Go.t (Go_sg bk_Md_edge 54 2 (c2 := (some 109, [some (.ref 166), some (.int v1), none, some (.int v3), none, none], [.int ((sI σ 166 4 (0 : Int32)).1 166 7)], sI σ 166 4 (0 : Int32))) (ps := [shk 166 = 11]) rfl ⟨rfl, trivial⟩) ?_
    exact Go_reti bk_Md_edge 56 rfl
def Md_edge0 (v1 : Int32) (v2 : Int32) (σ : MH) : Option (Int32 × MH) := (Md_isTwelve v1 σ).bind fun x1 => if x1 = (0 : Int32) then some ((-1 : Int32), σ) else ((Md_in v2 (1 : Int32) (40 : Int32) σ).bind fun x4 => if x4 = (0 : Int32) then some ((-1 : Int32), σ) else (if v2 ≤ σ.1 166 4 then ((Md_readsHeight (sI (sI (sI σ 166 5 (0 : Int32)) 166 6 v2) 166 29 (0 : Int32))).bind fun (x7, σ8) => (Md_edge_L47 v1 (x7, σ8)).bind fun z21 => Md_edge_b96 v1 z21.1 z21.2) else some ((-1 : Int32), σ)))
set_option maxRecDepth 20000 in
set_option maxHeartbeats 2000000 in
theorem t_Md_edge0 (v1 : Int32) (v2 : Int32)  (σ : MH) {o} (h : Md_edge0 v1 v2 σ = some o) : Go m_Md_edge 3 (some 0, [some (.ref 166), some (.int v1), some (.int v2), none, none, none], [], σ) ((none, [], [.int o.1], o.2)) := by
  unfold Md_edge0 at h
  refine Go.t (Go_sg bk_Md_edge 0 1 (c2 := (some 1, [some (.ref 166), some (.int v1), some (.int v2), none, none, none], [.int v1], σ)) (ps := []) rfl trivial) ?_
  obtain ⟨x1, q3, h⟩ := bdS h
  refine Go.t (Go_callS bk_Md_edge 1 rfl nk_Md_isTwelve tw1360 tw1361 (as := [.int v1]) (S := []) rfl rfl rfl (Nat.le_of_ble_eq_true rfl) (Nat.le_of_ble_eq_true rfl) (ev_Md_isTwelve _ _ q3)) ?_
  refine Go_if_eq bk_Md_edge 2 rfl (fun c34 => ?_) (fun c34 => ?_)
  · have h := ifT c34 h
    have h := Option.some.inj h
    subst h
    refine Go.t (Go_sg bk_Md_edge 12 1 (c2 := (some 26, [some (.ref 166), some (.int v1), some (.int v2), none, none, none], [.int (-1 : Int32)], σ)) (ps := []) rfl trivial) ?_
    exact Go_reti bk_Md_edge 13 rfl
  · have h := ifF c34 h
    refine Go.t (Go_sg bk_Md_edge 3 3 (c2 := (some 11, [some (.ref 166), some (.int v1), some (.int v2), none, none, none], [.int (40 : Int32), .int (1 : Int32), .int v2], σ)) (ps := []) rfl trivial) ?_
    obtain ⟨x4, q6, h⟩ := bdS h
    refine Go.t (Go_callS bk_Md_edge 6 rfl nk_Md_in tw1370 tw1371 (as := [.int v2, .int (1 : Int32), .int (40 : Int32)]) (S := []) rfl rfl rfl (Nat.le_of_ble_eq_true rfl) (Nat.le_of_ble_eq_true rfl) (ev_Md_in _ _ _ _ q6)) ?_
    refine Go_if_eq bk_Md_edge 7 rfl (fun c33 => ?_) (fun c33 => ?_)
    · have h := ifT c33 h
      have h := Option.some.inj h
      subst h
      refine Go.t (Go_sg bk_Md_edge 12 1 (c2 := (some 26, [some (.ref 166), some (.int v1), some (.int v2), none, none, none], [.int (-1 : Int32)], σ)) (ps := []) rfl trivial) ?_
      exact Go_reti bk_Md_edge 13 rfl
    · have h := ifF c33 h
      refine Go.t (Go_sg bk_Md_edge 8 3 (c2 := (some 22, [some (.ref 166), some (.int v1), some (.int v2), none, none, none], [.int (σ.1 166 4), .int v2], σ)) (ps := [shk 166 = 11]) rfl ⟨rfl, trivial⟩) ?_
      refine Go_icmp_le bk_Md_edge 11 rfl (fun c32 => ?_) (fun c32 => ?_)
      · have h := ifT c32 h
        refine Go.t (Go_sg bk_Md_edge 14 10 (c2 := (some 43, [some (.ref 166), some (.int v1), some (.int v2), none, none, none], [.ref 166], sI (sI (sI σ 166 5 (0 : Int32)) 166 6 v2) 166 29 (0 : Int32))) (ps := [shk 166 = 11, shk 166 = 11, shk 166 = 11]) rfl ⟨rfl, rfl, rfl, trivial⟩) ?_
        obtain ⟨⟨x7, σ8⟩, q9, h⟩ := bdS h
        dsimp only at h
        refine Go.t (Go_callV bk_Md_edge 24 rfl nk_Md_readsHeight tw1499 tw1501 tw68 (ci := 11) rfl (as := []) (S := []) rfl rfl rfl rfl (Nat.le_of_ble_eq_true rfl) (Nat.le_of_ble_eq_true rfl) (ev_Md_readsHeight _ q9)) ?_
        refine Go.t (Go_sg bk_Md_edge 25 1 (c2 := (some 47, [some (.ref 166), some (.int v1), some (.int v2), some (.int x7), none, none], [], σ8)) (ps := []) rfl trivial) ?_
        obtain ⟨z21, q22, h⟩ := bdS h
        refine Go.t (Go.t (Go.fg (LSub.cs (LSub.cs (LSub.cn (LSub.cs (LSub.cn (LSub.cn (LSub.nil)))))))) (t_Md_edge_L47 v1 _ q22)) ?_
        exact Go.t (Go.fg (LSub.cs (LSub.cs (LSub.cn (LSub.cs (LSub.cn (LSub.cn (LSub.nil)))))))) (t_Md_edge_b96 v1 z21.1 z21.2 h)
      · have h := ifF c32 h
        have h := Option.some.inj h
        subst h
        refine Go.t (Go_sg bk_Md_edge 12 1 (c2 := (some 26, [some (.ref 166), some (.int v1), some (.int v2), none, none, none], [.int (-1 : Int32)], σ)) (ps := []) rfl trivial) ?_
        exact Go_reti bk_Md_edge 13 rfl
def Md_edge (v1 : Int32) (v2 : Int32) (σ : MH) : Option (Int32 × MH) := Md_edge0 v1 v2 σ
set_option maxRecDepth 20000 in
set_option maxHeartbeats 2000000 in
theorem ev_Md_edge (v1 : Int32) (v2 : Int32)  (σ : MH) {o} (h : Md_edge v1 v2 σ = some o) : Ev m_Md_edge 3 [.ref 166, .int v1, .int v2] σ (some (.int o.1)) o.2 := Ev.of2 (by decide +kernel) rfl (Nat.le_of_ble_eq_true rfl) ⟨.int, rfl, rfl⟩ (t_Md_edge0 v1 v2 σ h)
def cH_Md_readsStop_135 (v1 : Int32) (v2 : Int32) (s : Int32 × MH) : MC := (some 135, [some (.ref 166), some (.int v1), some (.int v2), some (.int s.1)], [], s.2)
def cR_Md_readsStop_135 (v1 : Int32) (v2 : Int32) : ((MH)) → MC := (fun r : MH => ((some 158, [some (.ref 166), none, some (.int v2), none], [], r) : MC))
def Md_readsStop_l135 (v1 : Int32) (v2 : Int32) (v3 : Int32) (σ : MH) : Option (((Int32 × MH) ⊕ ((MH)))) := if v2 ≤ v3 then some (.inr (σ)) else (if inb ((σ.1 166 29) + v3) 144 = true then some (.inl (v3 + (1 : Int32), sI σ 185 ((σ.1 166 29) + v3).toNatClampNeg v1)) else none)
set_option maxRecDepth 20000 in
set_option maxHeartbeats 2000000 in
theorem t_Md_readsStop_l135 (v1 : Int32) (v2 : Int32) (v3 : Int32)  (σ : MH) {o} (h : Md_readsStop_l135 v1 v2 v3 σ = some o) : Go m_Md_readsStop 3 (cH_Md_readsStop_135 v1 v2 (v3, σ)) (cS (cH_Md_readsStop_135 v1 v2) (cR_Md_readsStop_135 v1 v2) o) := by
  unfold Md_readsStop_l135 at h
  unfold cH_Md_readsStop_135
  refine Go.t (Go_sg bk_Md_readsStop 76 2 (c2 := (some 137, [some (.ref 166), some (.int v1), some (.int v2), some (.int v3)], [.int v2, .int v3], σ)) (ps := []) rfl trivial) ?_
  refine Go_icmp_ge bk_Md_readsStop 78 rfl (fun c11 => ?_) (fun c11 => ?_)
  · have h := ifT c11 h
    have h := Option.some.inj h
    subst h
    exact Go.fg (LSub.cs (LSub.cn (LSub.cs (LSub.cn (LSub.nil)))))
  · have h := ifF c11 h
    obtain ⟨g10, h⟩ := gdS h
    refine Go.t (Go_sg bk_Md_readsStop 79 10 (c2 := (some 135, [some (.ref 166), some (.int v1), some (.int v2), some (.int (v3 + (1 : Int32)))], [], sI σ 185 ((σ.1 166 29) + v3).toNatClampNeg v1)) (ps := [shk 166 = 11, shk 166 = 11, IA 185 144 ∧ inb ((σ.1 166 29) + v3) 144 = true]) rfl ⟨rfl, rfl, ⟨⟨rfl, rfl⟩, g10⟩, trivial⟩) ?_
    have h := Option.some.inj h
    subst h
    exact Go.fg (LSub.cs (LSub.cs (LSub.cs (LSub.cs (LSub.nil)))))
def Md_readsStop_L135 (v1 : Int32) (v2 : Int32) (s : Int32 × MH) : Option ((MH)) := itr (fun s : Int32 × MH => Md_readsStop_l135 v1 v2 s.1 s.2) FU s
set_option maxRecDepth 20000 in
set_option maxHeartbeats 2000000 in
theorem t_Md_readsStop_L135 (v1 : Int32) (v2 : Int32)  (s : Int32 × MH) {r} (h : Md_readsStop_L135 v1 v2 s = some r) : Go m_Md_readsStop 3 (cH_Md_readsStop_135 v1 v2 s) (cR_Md_readsStop_135 v1 v2 r) := Go_itr (fun s o ho => t_Md_readsStop_l135 v1 v2 s.1 s.2 ho) FU s r h
def Md_readsStop_b133 (v1 : Int32) (v2 : Int32) (σ : MH) : Option (Int32 × MH) := (Md_readsStop_L135 v1 v2 ((0 : Int32), σ)).bind fun z12 => some ((1 : Int32), sI (sI z12 166 29 ((z12.1 166 29) + v2)) 166 30 (((sI z12 166 29 ((z12.1 166 29) + v2)).1 166 30) + (1 : Int32)))
set_option maxRecDepth 20000 in
set_option maxHeartbeats 2000000 in
theorem t_Md_readsStop_b133 (v1 : Int32) (v2 : Int32)   (σ : MH) {o} (h : Md_readsStop_b133 v1 v2 σ = some o) : Go m_Md_readsStop 3 (some 133, [some (.ref 166), some (.int v1), some (.int v2), none], [], σ) ((none, [], [.int o.1], o.2)) := by
  unfold Md_readsStop_b133 at h
  refine Go.t (Go_sg bk_Md_readsStop 74 2 (c2 := (some 135, [some (.ref 166), some (.int v1), some (.int v2), some (.int (0 : Int32))], [], σ)) (ps := []) rfl trivial) ?_
  obtain ⟨z12, q13, h⟩ := bdS h
  refine Go.t (Go.t (Go.fg (LSub.cs (LSub.cs (LSub.cs (LSub.cs (LSub.nil)))))) (t_Md_readsStop_L135 v1 v2 _ q13)) ?_
  have h := Option.some.inj h
  subst h
  refine Go.t (Go_sg bk_Md_readsStop 89 13 (c2 := (some 179, [some (.ref 166), none, some (.int v2), none], [.int (1 : Int32)], sI (sI z12 166 29 ((z12.1 166 29) + v2)) 166 30 (((sI z12 166 29 ((z12.1 166 29) + v2)).1 166 30) + (1 : Int32)))) (ps := [shk 166 = 11, shk 166 = 11, shk 166 = 11, shk 166 = 11]) rfl ⟨rfl, rfl, rfl, rfl, trivial⟩) ?_
  exact Go_reti bk_Md_readsStop 102 rfl
def Md_readsStop0  (σ : MH) : Option (Int32 × MH) := (Md_isDigit σ).bind fun x1 => if x1 = (0 : Int32) then ((Md_wrongAt (1 : Int32) (σ.1 166 5) σ).bind fun (x36, σ37) => some (x36, σ37)) else (if σ.1 166 30 = (16 : Int32) then ((Md_wrongAt (4 : Int32) (σ.1 166 5) σ).bind fun (x32, σ33) => some (x32, σ33)) else ((Md_here σ).bind fun x4 => if x4 - (48 : Int32) < (6 : Int32) then ((Md_here (sI σ 166 5 ((σ.1 166 5) + (1 : Int32)))).bind fun x7 => if x7 = (42 : Int32) then ((Md_here (sI (sI σ 166 5 ((σ.1 166 5) + (1 : Int32))) 166 5 (((sI σ 166 5 ((σ.1 166 5) + (1 : Int32))).1 166 5) + (1 : Int32)))).bind fun x14 => (Md_in x14 (50 : Int32) (57 : Int32) (sI (sI σ 166 5 ((σ.1 166 5) + (1 : Int32))) 166 5 (((sI σ 166 5 ((σ.1 166 5) + (1 : Int32))).1 166 5) + (1 : Int32)))).bind fun x17 => if x17 = (0 : Int32) then ((Md_wrongAt (1 : Int32) ((sI (sI σ 166 5 ((σ.1 166 5) + (1 : Int32))) 166 5 (((sI σ 166 5 ((σ.1 166 5) + (1 : Int32))).1 166 5) + (1 : Int32))).1 166 5) (sI (sI σ 166 5 ((σ.1 166 5) + (1 : Int32))) 166 5 (((sI σ 166 5 ((σ.1 166 5) + (1 : Int32))).1 166 5) + (1 : Int32)))).bind fun (x23, σ24) => some (x23, σ24)) else ((Md_here (sI (sI σ 166 5 ((σ.1 166 5) + (1 : Int32))) 166 5 (((sI σ 166 5 ((σ.1 166 5) + (1 : Int32))).1 166 5) + (1 : Int32)))).bind fun x20 => Md_readsStop_b133 (x4 - (48 : Int32)) (x20 - (48 : Int32)) (sI (sI (sI σ 166 5 ((σ.1 166 5) + (1 : Int32))) 166 5 (((sI σ 166 5 ((σ.1 166 5) + (1 : Int32))).1 166 5) + (1 : Int32))) 166 5 (((sI (sI σ 166 5 ((σ.1 166 5) + (1 : Int32))) 166 5 (((sI σ 166 5 ((σ.1 166 5) + (1 : Int32))).1 166 5) + (1 : Int32))).1 166 5) + (1 : Int32))))) else (Md_readsStop_b133 (x4 - (48 : Int32)) (1 : Int32) (sI σ 166 5 ((σ.1 166 5) + (1 : Int32))))) else ((Md_wrongAt (3 : Int32) (σ.1 166 5) σ).bind fun (x28, σ29) => some (x28, σ29))))
set_option maxRecDepth 20000 in
set_option maxHeartbeats 2000000 in
theorem t_Md_readsStop0   (σ : MH) {o} (h : Md_readsStop0 σ = some o) : Go m_Md_readsStop 3 (some 0, [some (.ref 166), none, none, none], [], σ) ((none, [], [.int o.1], o.2)) := by
  unfold Md_readsStop0 at h
  refine Go.t (Go_sg bk_Md_readsStop 0 1 (c2 := (some 1, [some (.ref 166), none, none, none], [.ref 166], σ)) (ps := []) rfl trivial) ?_
  obtain ⟨x1, q3, h⟩ := bdS h
  refine Go.t (Go_callV bk_Md_readsStop 1 rfl nk_Md_isDigit tw1441 tw1443 tw56 (ci := 11) rfl (as := []) (S := []) rfl rfl rfl rfl (Nat.le_of_ble_eq_true rfl) (Nat.le_of_ble_eq_true rfl) (ev_Md_isDigit _ q3)) ?_
  refine Go_if_ne bk_Md_readsStop 2 rfl (fun c39 => ?_) (fun c39 => ?_)
  · have h := ifF c39 h
    refine Go.t (Go_sg bk_Md_readsStop 9 3 (c2 := (some 23, [some (.ref 166), none, none, none], [.int (16 : Int32), .int (σ.1 166 30)], σ)) (ps := [shk 166 = 11]) rfl ⟨rfl, trivial⟩) ?_
    refine Go_icmp_ne bk_Md_readsStop 12 rfl (fun c35 => ?_) (fun c35 => ?_)
    · have h := ifF c35 h
      refine Go.t (Go_sg bk_Md_readsStop 19 1 (c2 := (some 37, [some (.ref 166), none, none, none], [.ref 166], σ)) (ps := []) rfl trivial) ?_
      obtain ⟨x4, q6, h⟩ := bdS h
      refine Go.t (Go_callV bk_Md_readsStop 20 rfl nk_Md_here tw1417 tw1419 tw51 (ci := 11) rfl (as := []) (S := []) rfl rfl rfl rfl (Nat.le_of_ble_eq_true rfl) (Nat.le_of_ble_eq_true rfl) (ev_Md_here _ q6)) ?_
      refine Go.t (Go_sg bk_Md_readsStop 21 5 (c2 := (some 47, [some (.ref 166), some (.int (x4 - (48 : Int32))), none, none], [.int (6 : Int32), .int (x4 - (48 : Int32))], σ)) (ps := []) rfl trivial) ?_
      refine Go_icmp_lt bk_Md_readsStop 26 rfl (fun c31 => ?_) (fun c31 => ?_)
      · have h := ifT c31 h
        refine Go.t (Go_sg bk_Md_readsStop 33 9 (c2 := (some 73, [some (.ref 166), some (.int (x4 - (48 : Int32))), some (.int (1 : Int32)), none], [.ref 166], sI σ 166 5 ((σ.1 166 5) + (1 : Int32)))) (ps := [shk 166 = 11, shk 166 = 11]) rfl ⟨rfl, rfl, trivial⟩) ?_
        obtain ⟨x7, q9, h⟩ := bdS h
        refine Go.t (Go_callV bk_Md_readsStop 42 rfl nk_Md_here tw1417 tw1419 tw51 (ci := 11) rfl (as := []) (S := []) rfl rfl rfl rfl (Nat.le_of_ble_eq_true rfl) (Nat.le_of_ble_eq_true rfl) (ev_Md_here _ q9)) ?_
        refine Go.t (Go_sg bk_Md_readsStop 43 1 (c2 := (some 78, [some (.ref 166), some (.int (x4 - (48 : Int32))), some (.int (1 : Int32)), none], [.int (42 : Int32), .int x7], sI σ 166 5 ((σ.1 166 5) + (1 : Int32)))) (ps := []) rfl trivial) ?_
        refine Go_icmp_ne bk_Md_readsStop 44 rfl (fun c27 => ?_) (fun c27 => ?_)
        · have h := ifF c27 h
          exact Go.t (Go.fg (LSub.cs (LSub.cs (LSub.cs (LSub.cn (LSub.nil)))))) (t_Md_readsStop_b133 (x4 - (48 : Int32)) (1 : Int32) (sI σ 166 5 ((σ.1 166 5) + (1 : Int32))) h)
        · have h := ifT c27 h
          refine Go.t (Go_sg bk_Md_readsStop 45 7 (c2 := (some 92, [some (.ref 166), some (.int (x4 - (48 : Int32))), some (.int (1 : Int32)), none], [.ref 166], sI (sI σ 166 5 ((σ.1 166 5) + (1 : Int32))) 166 5 (((sI σ 166 5 ((σ.1 166 5) + (1 : Int32))).1 166 5) + (1 : Int32)))) (ps := [shk 166 = 11, shk 166 = 11]) rfl ⟨rfl, rfl, trivial⟩) ?_
          obtain ⟨x14, q16, h⟩ := bdS h
          refine Go.t (Go_callV bk_Md_readsStop 52 rfl nk_Md_here tw1417 tw1419 tw51 (ci := 11) rfl (as := []) (S := []) rfl rfl rfl rfl (Nat.le_of_ble_eq_true rfl) (Nat.le_of_ble_eq_true rfl) (ev_Md_here _ q16)) ?_
          refine Go.t (Go_sg bk_Md_readsStop 53 2 (c2 := (some 99, [some (.ref 166), some (.int (x4 - (48 : Int32))), some (.int (1 : Int32)), none], [.int (57 : Int32), .int (50 : Int32), .int x14], sI (sI σ 166 5 ((σ.1 166 5) + (1 : Int32))) 166 5 (((sI σ 166 5 ((σ.1 166 5) + (1 : Int32))).1 166 5) + (1 : Int32)))) (ps := []) rfl trivial) ?_
          obtain ⟨x17, q19, h⟩ := bdS h
          refine Go.t (Go_callS bk_Md_readsStop 55 rfl nk_Md_in tw1370 tw1371 (as := [.int x14, .int (50 : Int32), .int (57 : Int32)]) (S := []) rfl rfl rfl (Nat.le_of_ble_eq_true rfl) (Nat.le_of_ble_eq_true rfl) (ev_Md_in _ _ _ _ q19)) ?_
          refine Go_if_ne bk_Md_readsStop 56 rfl (fun c26 => ?_) (fun c26 => ?_)
          · have h := ifF c26 h
            refine Go.t (Go_sg bk_Md_readsStop 63 1 (c2 := (some 116, [some (.ref 166), some (.int (x4 - (48 : Int32))), some (.int (1 : Int32)), none], [.ref 166], sI (sI σ 166 5 ((σ.1 166 5) + (1 : Int32))) 166 5 (((sI σ 166 5 ((σ.1 166 5) + (1 : Int32))).1 166 5) + (1 : Int32)))) (ps := []) rfl trivial) ?_
            obtain ⟨x20, q22, h⟩ := bdS h
            refine Go.t (Go_callV bk_Md_readsStop 64 rfl nk_Md_here tw1417 tw1419 tw51 (ci := 11) rfl (as := []) (S := []) rfl rfl rfl rfl (Nat.le_of_ble_eq_true rfl) (Nat.le_of_ble_eq_true rfl) (ev_Md_here _ q22)) ?_
            refine Go.t (Go_sg bk_Md_readsStop 65 9 (c2 := (some 133, [some (.ref 166), some (.int (x4 - (48 : Int32))), some (.int (x20 - (48 : Int32))), none], [], sI (sI (sI σ 166 5 ((σ.1 166 5) + (1 : Int32))) 166 5 (((sI σ 166 5 ((σ.1 166 5) + (1 : Int32))).1 166 5) + (1 : Int32))) 166 5 (((sI (sI σ 166 5 ((σ.1 166 5) + (1 : Int32))) 166 5 (((sI σ 166 5 ((σ.1 166 5) + (1 : Int32))).1 166 5) + (1 : Int32))).1 166 5) + (1 : Int32)))) (ps := [shk 166 = 11, shk 166 = 11]) rfl ⟨rfl, rfl, trivial⟩) ?_
            exact Go.t (Go.fg (LSub.cs (LSub.cs (LSub.cs (LSub.cn (LSub.nil)))))) (t_Md_readsStop_b133 (x4 - (48 : Int32)) (x20 - (48 : Int32)) (sI (sI (sI σ 166 5 ((σ.1 166 5) + (1 : Int32))) 166 5 (((sI σ 166 5 ((σ.1 166 5) + (1 : Int32))).1 166 5) + (1 : Int32))) 166 5 (((sI (sI σ 166 5 ((σ.1 166 5) + (1 : Int32))) 166 5 (((sI σ 166 5 ((σ.1 166 5) + (1 : Int32))).1 166 5) + (1 : Int32))).1 166 5) + (1 : Int32))) h)
          · have h := ifT c26 h
            refine Go.t (Go_sg bk_Md_readsStop 57 4 (c2 := (some 111, [some (.ref 166), some (.int (x4 - (48 : Int32))), some (.int (1 : Int32)), none], [.int ((sI (sI σ 166 5 ((σ.1 166 5) + (1 : Int32))) 166 5 (((sI σ 166 5 ((σ.1 166 5) + (1 : Int32))).1 166 5) + (1 : Int32))).1 166 5), .int (1 : Int32), .ref 166], sI (sI σ 166 5 ((σ.1 166 5) + (1 : Int32))) 166 5 (((sI σ 166 5 ((σ.1 166 5) + (1 : Int32))).1 166 5) + (1 : Int32)))) (ps := [shk 166 = 11]) rfl ⟨rfl, trivial⟩) ?_
            obtain ⟨⟨x23, σ24⟩, q25, h⟩ := bdS h
            dsimp only at h
            refine Go.t (Go_callV bk_Md_readsStop 61 rfl nk_Md_wrongAt tw1424 tw1426 tw52 (ci := 11) rfl (as := [.int (1 : Int32), .int ((sI (sI σ 166 5 ((σ.1 166 5) + (1 : Int32))) 166 5 (((sI σ 166 5 ((σ.1 166 5) + (1 : Int32))).1 166 5) + (1 : Int32))).1 166 5)]) (S := []) rfl rfl rfl rfl (Nat.le_of_ble_eq_true rfl) (Nat.le_of_ble_eq_true rfl) (ev_Md_wrongAt _ _ _ q25)) ?_
            have h := Option.some.inj h
            subst h
            exact Go_reti bk_Md_readsStop 62 rfl
      · have h := ifF c31 h
        refine Go.t (Go_sg bk_Md_readsStop 27 4 (c2 := (some 56, [some (.ref 166), some (.int (x4 - (48 : Int32))), none, none], [.int (σ.1 166 5), .int (3 : Int32), .ref 166], σ)) (ps := [shk 166 = 11]) rfl ⟨rfl, trivial⟩) ?_
        obtain ⟨⟨x28, σ29⟩, q30, h⟩ := bdS h
        dsimp only at h
        refine Go.t (Go_callV bk_Md_readsStop 31 rfl nk_Md_wrongAt tw1424 tw1426 tw52 (ci := 11) rfl (as := [.int (3 : Int32), .int (σ.1 166 5)]) (S := []) rfl rfl rfl rfl (Nat.le_of_ble_eq_true rfl) (Nat.le_of_ble_eq_true rfl) (ev_Md_wrongAt _ _ _ q30)) ?_
        have h := Option.some.inj h
        subst h
        exact Go_reti bk_Md_readsStop 32 rfl
    · have h := ifT c35 h
      refine Go.t (Go_sg bk_Md_readsStop 13 4 (c2 := (some 32, [some (.ref 166), none, none, none], [.int (σ.1 166 5), .int (4 : Int32), .ref 166], σ)) (ps := [shk 166 = 11]) rfl ⟨rfl, trivial⟩) ?_
      obtain ⟨⟨x32, σ33⟩, q34, h⟩ := bdS h
      dsimp only at h
      refine Go.t (Go_callV bk_Md_readsStop 17 rfl nk_Md_wrongAt tw1424 tw1426 tw52 (ci := 11) rfl (as := [.int (4 : Int32), .int (σ.1 166 5)]) (S := []) rfl rfl rfl rfl (Nat.le_of_ble_eq_true rfl) (Nat.le_of_ble_eq_true rfl) (ev_Md_wrongAt _ _ _ q34)) ?_
      have h := Option.some.inj h
      subst h
      exact Go_reti bk_Md_readsStop 18 rfl
  · have h := ifT c39 h
    refine Go.t (Go_sg bk_Md_readsStop 3 4 (c2 := (some 13, [some (.ref 166), none, none, none], [.int (σ.1 166 5), .int (1 : Int32), .ref 166], σ)) (ps := [shk 166 = 11]) rfl ⟨rfl, trivial⟩) ?_
    obtain ⟨⟨x36, σ37⟩, q38, h⟩ := bdS h
    dsimp only at h
    refine Go.t (Go_callV bk_Md_readsStop 7 rfl nk_Md_wrongAt tw1424 tw1426 tw52 (ci := 11) rfl (as := [.int (1 : Int32), .int (σ.1 166 5)]) (S := []) rfl rfl rfl rfl (Nat.le_of_ble_eq_true rfl) (Nat.le_of_ble_eq_true rfl) (ev_Md_wrongAt _ _ _ q38)) ?_
    have h := Option.some.inj h
    subst h
    exact Go_reti bk_Md_readsStop 8 rfl
def Md_readsStop  (σ : MH) : Option (Int32 × MH) := bzo (Md_readsStop0 σ)
set_option maxRecDepth 20000 in
set_option maxHeartbeats 2000000 in
theorem ev_Md_readsStop   (σ : MH) {o} (h : Md_readsStop σ = some o) : Ev m_Md_readsStop 3 [.ref 166] σ (some (.int o.1)) o.2 := Ev.of2 (by decide +kernel) rfl (Nat.le_of_ble_eq_true rfl) ⟨.boolean, rfl, nrB (bzo2 h)⟩ (t_Md_readsStop0 σ (bzo1 h))
def cH_Md_journey_53 (v1 : Int32) (s : Int32 × MH) : MC := (some 53, [some (.ref 166), some (.int v1), none, some (.int s.1), none], [], s.2)
def cR_Md_journey_53 (v1 : Int32) : ((Int32 × MH)) → MC := (fun r : Int32 × MH => ((some 93, [some (.ref 166), some (.int v1), none, some (.int r.1), none], [], r.2) : MC))
def Md_journey_b89 (v1 : Int32) (s0 : Int32) (σ : MH) : Option (((Int32 × MH) ⊕ ((Int32 × MH)))) := some (.inl (s0, σ))
set_option maxRecDepth 20000 in
set_option maxHeartbeats 2000000 in
theorem t_Md_journey_b89 (v1 : Int32) (s0 : Int32)   (σ : MH) {o} (h : Md_journey_b89 v1 s0 σ = some o) : Go m_Md_journey 4 (some 89, [some (.ref 166), some (.int v1), none, none, none], [.int s0], σ) (cS (cH_Md_journey_53 v1) (cR_Md_journey_53 v1) o) := by
  unfold Md_journey_b89 at h
  refine Go.t (Go_sg bk_Md_journey 47 2 (c2 := (some 53, [some (.ref 166), some (.int v1), none, some (.int s0), none], [], σ)) (ps := []) rfl trivial) ?_
  have h := Option.some.inj h
  subst h
  exact Go.fg (LSub.cs (LSub.cs (LSub.cn (LSub.cs (LSub.cn (LSub.nil))))))
def Md_journey_b88 (v1 : Int32) (σ : MH) : Option (((Int32 × MH) ⊕ ((Int32 × MH)))) := Md_journey_b89 v1 (0 : Int32) σ
set_option maxRecDepth 20000 in
set_option maxHeartbeats 2000000 in
theorem t_Md_journey_b88 (v1 : Int32)   (σ : MH) {o} (h : Md_journey_b88 v1 σ = some o) : Go m_Md_journey 4 (some 88, [some (.ref 166), some (.int v1), none, none, none], [], σ) (cS (cH_Md_journey_53 v1) (cR_Md_journey_53 v1) o) := by
  unfold Md_journey_b88 at h
  refine Go.t (Go_sg bk_Md_journey 46 1 (c2 := (some 89, [some (.ref 166), some (.int v1), none, none, none], [.int (0 : Int32)], σ)) (ps := []) rfl trivial) ?_
  exact Go.t (Go.fg (LSub.cs (LSub.cs (LSub.cn (LSub.cn (LSub.cn (LSub.nil))))))) (t_Md_journey_b89 v1 (0 : Int32) σ h)
def Md_journey_l53 (v1 : Int32) (v3 : Int32) (σ : MH) : Option (((Int32 × MH) ⊕ ((Int32 × MH)))) := if v3 = (0 : Int32) then some (.inr (v3, σ)) else (if σ.1 166 6 ≤ σ.1 166 5 then some (.inr (v3, σ)) else ((Md_takes (44 : Int32) σ).bind fun (x10, σ11) => if x10 = (0 : Int32) then (Md_journey_b88 v1 σ11) else ((Md_readsStop σ11).bind fun (x13, σ14) => if x13 = (0 : Int32) then (Md_journey_b88 v1 σ14) else (Md_journey_b89 v1 (1 : Int32) σ14))))
set_option maxRecDepth 20000 in
set_option maxHeartbeats 2000000 in
theorem t_Md_journey_l53 (v1 : Int32) (v3 : Int32)  (σ : MH) {o} (h : Md_journey_l53 v1 v3 σ = some o) : Go m_Md_journey 4 (cH_Md_journey_53 v1 (v3, σ)) (cS (cH_Md_journey_53 v1) (cR_Md_journey_53 v1) o) := by
  unfold Md_journey_l53 at h
  unfold cH_Md_journey_53
  refine Go.t (Go_sg bk_Md_journey 30 1 (c2 := (some 54, [some (.ref 166), some (.int v1), none, some (.int v3), none], [.int v3], σ)) (ps := []) rfl trivial) ?_
  refine Go_if_eq bk_Md_journey 31 rfl (fun c19 => ?_) (fun c19 => ?_)
  · have h := ifT c19 h
    have h := Option.some.inj h
    subst h
    exact Go.fg (LSub.cs (LSub.cs (LSub.cn (LSub.cs (LSub.cn (LSub.nil))))))
  · have h := ifF c19 h
    refine Go.t (Go_sg bk_Md_journey 32 4 (c2 := (some 65, [some (.ref 166), some (.int v1), none, some (.int v3), none], [.int (σ.1 166 6), .int (σ.1 166 5)], σ)) (ps := [shk 166 = 11, shk 166 = 11]) rfl ⟨rfl, rfl, trivial⟩) ?_
    refine Go_icmp_ge bk_Md_journey 36 rfl (fun c18 => ?_) (fun c18 => ?_)
    · have h := ifT c18 h
      have h := Option.some.inj h
      subst h
      exact Go.fg (LSub.cs (LSub.cs (LSub.cn (LSub.cs (LSub.cn (LSub.nil))))))
    · have h := ifF c18 h
      refine Go.t (Go_sg bk_Md_journey 37 2 (c2 := (some 71, [some (.ref 166), some (.int v1), none, some (.int v3), none], [.int (44 : Int32), .ref 166], σ)) (ps := []) rfl trivial) ?_
      obtain ⟨⟨x10, σ11⟩, q12, h⟩ := bdS h
      dsimp only at h
      refine Go.t (Go_callV bk_Md_journey 39 rfl nk_Md_takes tw1491 tw1493 tw67 (ci := 11) rfl (as := [.int (44 : Int32)]) (S := []) rfl rfl rfl rfl (Nat.le_of_ble_eq_true rfl) (Nat.le_of_ble_eq_true rfl) (ev_Md_takes _ _ q12)) ?_
      refine Go_if_eq bk_Md_journey 40 rfl (fun c17 => ?_) (fun c17 => ?_)
      · have h := ifT c17 h
        exact Go.t (Go.fg (LSub.cs (LSub.cs (LSub.cn (LSub.cn (LSub.cn (LSub.nil))))))) (t_Md_journey_b88 v1 σ11 h)
      · have h := ifF c17 h
        refine Go.t (Go_sg bk_Md_journey 41 1 (c2 := (some 78, [some (.ref 166), some (.int v1), none, some (.int v3), none], [.ref 166], σ11)) (ps := []) rfl trivial) ?_
        obtain ⟨⟨x13, σ14⟩, q15, h⟩ := bdS h
        dsimp only at h
        refine Go.t (Go_callV bk_Md_journey 42 rfl nk_Md_readsStop tw1510 tw1512 tw69 (ci := 11) rfl (as := []) (S := []) rfl rfl rfl rfl (Nat.le_of_ble_eq_true rfl) (Nat.le_of_ble_eq_true rfl) (ev_Md_readsStop _ q15)) ?_
        refine Go_if_eq bk_Md_journey 43 rfl (fun c16 => ?_) (fun c16 => ?_)
        · have h := ifT c16 h
          exact Go.t (Go.fg (LSub.cs (LSub.cs (LSub.cn (LSub.cn (LSub.cn (LSub.nil))))))) (t_Md_journey_b88 v1 σ14 h)
        · have h := ifF c16 h
          refine Go.t (Go_sg bk_Md_journey 44 2 (c2 := (some 89, [some (.ref 166), some (.int v1), none, some (.int v3), none], [.int (1 : Int32)], σ14)) (ps := []) rfl trivial) ?_
          exact Go.t (Go.fg (LSub.cs (LSub.cs (LSub.cn (LSub.cn (LSub.cn (LSub.nil))))))) (t_Md_journey_b89 v1 (1 : Int32) σ14 h)
def Md_journey_L53 (v1 : Int32) (s : Int32 × MH) : Option ((Int32 × MH)) := itr (fun s : Int32 × MH => Md_journey_l53 v1 s.1 s.2) FU s
set_option maxRecDepth 20000 in
set_option maxHeartbeats 2000000 in
theorem t_Md_journey_L53 (v1 : Int32)  (s : Int32 × MH) {r} (h : Md_journey_L53 v1 s = some r) : Go m_Md_journey 4 (cH_Md_journey_53 v1 s) (cR_Md_journey_53 v1 r) := Go_itr (fun s o ho => t_Md_journey_l53 v1 s.1 s.2 ho) FU s r h
def cH_Md_journey_133 (v1 : Int32) (s : Int32 × MH) : MC := (some 133, [some (.ref 166), some (.int v1), none, none, some (.int s.1)], [], s.2)
def cR_Md_journey_133 (v1 : Int32) : ((MH)) → MC := (fun r : MH => ((some 172, [some (.ref 166), none, none, none, none], [], r) : MC))
def Md_journey_l133 (v1 : Int32) (v4 : Int32) (σ : MH) : Option (((Int32 × MH) ⊕ ((MH)))) := if σ.1 166 29 ≤ v4 then some (.inr (σ)) else (if inb v4 144 = true then if inb (((208 : Int32) + ((144 : Int32) * v1)) + v4) 1936 = true then some (.inl (v4 + (1 : Int32), sI σ 167 (((208 : Int32) + ((144 : Int32) * v1)) + v4).toNatClampNeg (σ.1 185 v4.toNatClampNeg))) else none else none)
set_option maxRecDepth 20000 in
set_option maxHeartbeats 2000000 in
theorem t_Md_journey_l133 (v1 : Int32) (v4 : Int32)  (σ : MH) {o} (h : Md_journey_l133 v1 v4 σ = some o) : Go m_Md_journey 4 (cH_Md_journey_133 v1 (v4, σ)) (cS (cH_Md_journey_133 v1) (cR_Md_journey_133 v1) o) := by
  unfold Md_journey_l133 at h
  unfold cH_Md_journey_133
  refine Go.t (Go_sg bk_Md_journey 74 3 (c2 := (some 139, [some (.ref 166), some (.int v1), none, none, some (.int v4)], [.int (σ.1 166 29), .int v4], σ)) (ps := [shk 166 = 11]) rfl ⟨rfl, trivial⟩) ?_
  refine Go_icmp_ge bk_Md_journey 77 rfl (fun c26 => ?_) (fun c26 => ?_)
  · have h := ifT c26 h
    have h := Option.some.inj h
    subst h
    exact Go.fg (LSub.cs (LSub.cn (LSub.cn (LSub.cn (LSub.cn (LSub.nil))))))
  · have h := ifF c26 h
    obtain ⟨g24, h⟩ := gdS h
    obtain ⟨g25, h⟩ := gdS h
    refine Go.t (Go_sg bk_Md_journey 78 16 (c2 := (some 133, [some (.ref 166), some (.int v1), none, none, some (.int (v4 + (1 : Int32)))], [], sI σ 167 (((208 : Int32) + ((144 : Int32) * v1)) + v4).toNatClampNeg (σ.1 185 v4.toNatClampNeg))) (ps := [shk 166 = 11, shk 166 = 11, IA 185 144 ∧ inb v4 144 = true, IA 167 1936 ∧ inb (((208 : Int32) + ((144 : Int32) * v1)) + v4) 1936 = true]) rfl ⟨rfl, rfl, ⟨⟨rfl, rfl⟩, g24⟩, ⟨⟨rfl, rfl⟩, g25⟩, trivial⟩) ?_
    have h := Option.some.inj h
    subst h
    exact Go.fg (LSub.cs (LSub.cs (LSub.cn (LSub.cn (LSub.cs (LSub.nil))))))
def Md_journey_L133 (v1 : Int32) (s : Int32 × MH) : Option ((MH)) := itr (fun s : Int32 × MH => Md_journey_l133 v1 s.1 s.2) FU s
set_option maxRecDepth 20000 in
set_option maxHeartbeats 2000000 in
theorem t_Md_journey_L133 (v1 : Int32)  (s : Int32 × MH) {r} (h : Md_journey_L133 v1 s = some r) : Go m_Md_journey 4 (cH_Md_journey_133 v1 s) (cR_Md_journey_133 v1 r) := Go_itr (fun s o ho => t_Md_journey_l133 v1 s.1 s.2 ho) FU s r h
def Md_journey_b93 (v1 : Int32) (v3 : Int32) (σ : MH) : Option (Int32 × MH) := if v3 = (0 : Int32) then some ((sI σ 166 4 (0 : Int32)).1 166 7, sI σ 166 4 (0 : Int32)) else (if inb ((84 : Int32) + v1) 1936 = true then if inb ((96 : Int32) + v1) 1936 = true then (Md_journey_L133 v1 ((0 : Int32), sI (sI (sI σ 166 4 (0 : Int32)) 167 ((84 : Int32) + v1).toNatClampNeg (0 : Int32)) 167 ((96 : Int32) + v1).toNatClampNeg ((sI (sI σ 166 4 (0 : Int32)) 167 ((84 : Int32) + v1).toNatClampNeg (0 : Int32)).1 166 29))).bind fun z27 => some (z27.1 166 29, z27) else none else none)
set_option maxRecDepth 20000 in
set_option maxHeartbeats 2000000 in
theorem t_Md_journey_b93 (v1 : Int32) (v3 : Int32)   (σ : MH) {o} (h : Md_journey_b93 v1 v3 σ = some o) : Go m_Md_journey 4 (some 93, [some (.ref 166), some (.int v1), none, some (.int v3), none], [], σ) ((none, [], [.int o.1], o.2)) := by
  unfold Md_journey_b93 at h
  refine Go.t (Go_sg bk_Md_journey 49 4 (c2 := (some 99, [some (.ref 166), some (.int v1), none, some (.int v3), none], [.int v3], sI σ 166 4 (0 : Int32))) (ps := [shk 166 = 11]) rfl ⟨rfl, trivial⟩) ?_
  refine Go_if_ne bk_Md_journey 53 rfl (fun c29 => ?_) (fun c29 => ?_)
  · have h := ifF c29 h
    obtain ⟨g22, h⟩ := gdS h
    obtain ⟨g23, h⟩ := gdS h
    refine Go.t (Go_sg bk_Md_journey 57 17 (c2 := (some 133, [some (.ref 166), some (.int v1), none, some (.int v3), some (.int (0 : Int32))], [], sI (sI (sI σ 166 4 (0 : Int32)) 167 ((84 : Int32) + v1).toNatClampNeg (0 : Int32)) 167 ((96 : Int32) + v1).toNatClampNeg ((sI (sI σ 166 4 (0 : Int32)) 167 ((84 : Int32) + v1).toNatClampNeg (0 : Int32)).1 166 29))) (ps := [shk 166 = 11, IA 167 1936 ∧ inb ((84 : Int32) + v1) 1936 = true, shk 166 = 11, shk 166 = 11, IA 167 1936 ∧ inb ((96 : Int32) + v1) 1936 = true]) rfl ⟨rfl, ⟨⟨rfl, rfl⟩, g22⟩, rfl, rfl, ⟨⟨rfl, rfl⟩, g23⟩, trivial⟩) ?_
    obtain ⟨z27, q28, h⟩ := bdS h
    refine Go.t (Go.t (Go.fg (LSub.cs (LSub.cs (LSub.cn (LSub.cn (LSub.cs (LSub.nil))))))) (t_Md_journey_L133 v1 _ q28)) ?_
    have h := Option.some.inj h
    subst h
    refine Go.t (Go_sg bk_Md_journey 94 2 (c2 := (some 176, [some (.ref 166), none, none, none, none], [.int (z27.1 166 29)], z27)) (ps := [shk 166 = 11]) rfl ⟨rfl, trivial⟩) ?_
    exact Go_reti bk_Md_journey 96 rfl
  · have h := ifT c29 h
    have h := Option.some.inj h
    subst h
    refine Go.t (Go_sg bk_Md_journey 54 2 (c2 := (some 106, [some (.ref 166), some (.int v1), none, some (.int v3), none], [.int ((sI σ 166 4 (0 : Int32)).1 166 7)], sI σ 166 4 (0 : Int32))) (ps := [shk 166 = 11]) rfl ⟨rfl, trivial⟩) ?_
    exact Go_reti bk_Md_journey 56 rfl
def Md_journey0 (v1 : Int32) (v2 : Int32) (σ : MH) : Option (Int32 × MH) := (Md_isPerson v1 σ).bind fun x1 => if x1 = (0 : Int32) then some ((-1 : Int32), σ) else ((Md_in v2 (1 : Int32) (40 : Int32) σ).bind fun x4 => if x4 = (0 : Int32) then some ((-1 : Int32), σ) else (if v2 ≤ σ.1 166 4 then ((Md_readsStop (sI (sI (sI (sI σ 166 5 (0 : Int32)) 166 6 v2) 166 29 (0 : Int32)) 166 30 (0 : Int32))).bind fun (x7, σ8) => (Md_journey_L53 v1 (x7, σ8)).bind fun z20 => Md_journey_b93 v1 z20.1 z20.2) else some ((-1 : Int32), σ)))
set_option maxRecDepth 20000 in
set_option maxHeartbeats 2000000 in
theorem t_Md_journey0 (v1 : Int32) (v2 : Int32)  (σ : MH) {o} (h : Md_journey0 v1 v2 σ = some o) : Go m_Md_journey 4 (some 0, [some (.ref 166), some (.int v1), some (.int v2), none, none], [], σ) ((none, [], [.int o.1], o.2)) := by
  unfold Md_journey0 at h
  refine Go.t (Go_sg bk_Md_journey 0 2 (c2 := (some 2, [some (.ref 166), some (.int v1), some (.int v2), none, none], [.int v1, .ref 166], σ)) (ps := []) rfl trivial) ?_
  obtain ⟨x1, q3, h⟩ := bdS h
  refine Go.t (Go_callV bk_Md_journey 2 rfl nk_Md_isPerson tw1363 tw1365 tw44 (ci := 11) rfl (as := [.int v1]) (S := []) rfl rfl rfl rfl (Nat.le_of_ble_eq_true rfl) (Nat.le_of_ble_eq_true rfl) (ev_Md_isPerson _ _ q3)) ?_
  refine Go_if_eq bk_Md_journey 3 rfl (fun c32 => ?_) (fun c32 => ?_)
  · have h := ifT c32 h
    have h := Option.some.inj h
    subst h
    refine Go.t (Go_sg bk_Md_journey 13 1 (c2 := (some 27, [some (.ref 166), some (.int v1), some (.int v2), none, none], [.int (-1 : Int32)], σ)) (ps := []) rfl trivial) ?_
    exact Go_reti bk_Md_journey 14 rfl
  · have h := ifF c32 h
    refine Go.t (Go_sg bk_Md_journey 4 3 (c2 := (some 12, [some (.ref 166), some (.int v1), some (.int v2), none, none], [.int (40 : Int32), .int (1 : Int32), .int v2], σ)) (ps := []) rfl trivial) ?_
    obtain ⟨x4, q6, h⟩ := bdS h
    refine Go.t (Go_callS bk_Md_journey 7 rfl nk_Md_in tw1370 tw1371 (as := [.int v2, .int (1 : Int32), .int (40 : Int32)]) (S := []) rfl rfl rfl (Nat.le_of_ble_eq_true rfl) (Nat.le_of_ble_eq_true rfl) (ev_Md_in _ _ _ _ q6)) ?_
    refine Go_if_eq bk_Md_journey 8 rfl (fun c31 => ?_) (fun c31 => ?_)
    · have h := ifT c31 h
      have h := Option.some.inj h
      subst h
      refine Go.t (Go_sg bk_Md_journey 13 1 (c2 := (some 27, [some (.ref 166), some (.int v1), some (.int v2), none, none], [.int (-1 : Int32)], σ)) (ps := []) rfl trivial) ?_
      exact Go_reti bk_Md_journey 14 rfl
    · have h := ifF c31 h
      refine Go.t (Go_sg bk_Md_journey 9 3 (c2 := (some 23, [some (.ref 166), some (.int v1), some (.int v2), none, none], [.int (σ.1 166 4), .int v2], σ)) (ps := [shk 166 = 11]) rfl ⟨rfl, trivial⟩) ?_
      refine Go_icmp_le bk_Md_journey 12 rfl (fun c30 => ?_) (fun c30 => ?_)
      · have h := ifT c30 h
        refine Go.t (Go_sg bk_Md_journey 15 13 (c2 := (some 49, [some (.ref 166), some (.int v1), some (.int v2), none, none], [.ref 166], sI (sI (sI (sI σ 166 5 (0 : Int32)) 166 6 v2) 166 29 (0 : Int32)) 166 30 (0 : Int32))) (ps := [shk 166 = 11, shk 166 = 11, shk 166 = 11, shk 166 = 11]) rfl ⟨rfl, rfl, rfl, rfl, trivial⟩) ?_
        obtain ⟨⟨x7, σ8⟩, q9, h⟩ := bdS h
        dsimp only at h
        refine Go.t (Go_callV bk_Md_journey 28 rfl nk_Md_readsStop tw1510 tw1512 tw69 (ci := 11) rfl (as := []) (S := []) rfl rfl rfl rfl (Nat.le_of_ble_eq_true rfl) (Nat.le_of_ble_eq_true rfl) (ev_Md_readsStop _ q9)) ?_
        refine Go.t (Go_sg bk_Md_journey 29 1 (c2 := (some 53, [some (.ref 166), some (.int v1), some (.int v2), some (.int x7), none], [], σ8)) (ps := []) rfl trivial) ?_
        obtain ⟨z20, q21, h⟩ := bdS h
        refine Go.t (Go.t (Go.fg (LSub.cs (LSub.cs (LSub.cn (LSub.cs (LSub.cn (LSub.nil))))))) (t_Md_journey_L53 v1 _ q21)) ?_
        exact Go.t (Go.fg (LSub.cs (LSub.cs (LSub.cn (LSub.cs (LSub.cn (LSub.nil))))))) (t_Md_journey_b93 v1 z20.1 z20.2 h)
      · have h := ifF c30 h
        have h := Option.some.inj h
        subst h
        refine Go.t (Go_sg bk_Md_journey 13 1 (c2 := (some 27, [some (.ref 166), some (.int v1), some (.int v2), none, none], [.int (-1 : Int32)], σ)) (ps := []) rfl trivial) ?_
        exact Go_reti bk_Md_journey 14 rfl
def Md_journey (v1 : Int32) (v2 : Int32) (σ : MH) : Option (Int32 × MH) := Md_journey0 v1 v2 σ
set_option maxRecDepth 20000 in
set_option maxHeartbeats 2000000 in
theorem ev_Md_journey (v1 : Int32) (v2 : Int32)  (σ : MH) {o} (h : Md_journey v1 v2 σ = some o) : Ev m_Md_journey 4 [.ref 166, .int v1, .int v2] σ (some (.int o.1)) o.2 := Ev.of2 (by decide +kernel) rfl (Nat.le_of_ble_eq_true rfl) ⟨.int, rfl, rfl⟩ (t_Md_journey0 v1 v2 σ h)
def Md_travels0 (v1 : Int32) (σ : MH) : Option (MH) := (Md_isFree v1 σ).bind fun x1 => if x1 = (0 : Int32) then some (σ) else (if inb ((84 : Int32) + v1) 1936 = true then if inb ((96 : Int32) + v1) 1936 = true then if σ.1 167 ((84 : Int32) + v1).toNatClampNeg = σ.1 167 ((96 : Int32) + v1).toNatClampNeg then some (σ) else (if inb (((208 : Int32) + ((144 : Int32) * v1)) + (σ.1 167 ((84 : Int32) + v1).toNatClampNeg)) 1936 = true then if inb ((12 : Int32) + v1) 1936 = true then some (sI (sI σ 167 ((12 : Int32) + v1).toNatClampNeg (σ.1 167 (((208 : Int32) + ((144 : Int32) * v1)) + (σ.1 167 ((84 : Int32) + v1).toNatClampNeg)).toNatClampNeg)) 167 ((84 : Int32) + v1).toNatClampNeg (((sI σ 167 ((12 : Int32) + v1).toNatClampNeg (σ.1 167 (((208 : Int32) + ((144 : Int32) * v1)) + (σ.1 167 ((84 : Int32) + v1).toNatClampNeg)).toNatClampNeg)).1 167 ((84 : Int32) + v1).toNatClampNeg) + (1 : Int32))) else none else none) else none else none)
set_option maxRecDepth 20000 in
set_option maxHeartbeats 2000000 in
theorem t_Md_travels0 (v1 : Int32)  (σ : MH) {o} (h : Md_travels0 v1 σ = some o) : Go m_Md_travels 5 (some 0, [some (.ref 166), some (.int v1)], [], σ) ((none, [], [], o)) := by
  unfold Md_travels0 at h
  refine Go.t (Go_sg bk_Md_travels 0 2 (c2 := (some 2, [some (.ref 166), some (.int v1)], [.int v1, .ref 166], σ)) (ps := []) rfl trivial) ?_
  obtain ⟨x1, q3, h⟩ := bdS h
  refine Go.t (Go_callV bk_Md_travels 2 rfl nk_Md_isFree tw1393 tw1395 tw47 (ci := 11) rfl (as := [.int v1]) (S := []) rfl rfl rfl rfl (Nat.le_of_ble_eq_true rfl) (Nat.le_of_ble_eq_true rfl) (ev_Md_isFree _ _ q3)) ?_
  refine Go_if_eq bk_Md_travels 3 rfl (fun c9 => ?_) (fun c9 => ?_)
  · have h := ifT c9 h
    have h := Option.some.inj h
    subst h
    exact Go_ret0 bk_Md_travels 17 rfl
  · have h := ifF c9 h
    obtain ⟨g4, h⟩ := gdS h
    obtain ⟨g5, h⟩ := gdS h
    refine Go.t (Go_sg bk_Md_travels 4 12 (c2 := (some 26, [some (.ref 166), some (.int v1)], [.int (σ.1 167 ((96 : Int32) + v1).toNatClampNeg), .int (σ.1 167 ((84 : Int32) + v1).toNatClampNeg)], σ)) (ps := [shk 166 = 11, IA 167 1936 ∧ inb ((84 : Int32) + v1) 1936 = true, shk 166 = 11, IA 167 1936 ∧ inb ((96 : Int32) + v1) 1936 = true]) rfl ⟨rfl, ⟨⟨rfl, rfl⟩, g4⟩, rfl, ⟨⟨rfl, rfl⟩, g5⟩, trivial⟩) ?_
    refine Go_icmp_ne bk_Md_travels 16 rfl (fun c8 => ?_) (fun c8 => ?_)
    · have h := ifF c8 h
      obtain ⟨g6, h⟩ := gdS h
      obtain ⟨g7, h⟩ := gdS h
      have h := Option.some.inj h
      subst h
      refine Go.t (Go_sg bk_Md_travels 18 35 (c2 := (some 83, [some (.ref 166), some (.int v1)], [], sI (sI σ 167 ((12 : Int32) + v1).toNatClampNeg (σ.1 167 (((208 : Int32) + ((144 : Int32) * v1)) + (σ.1 167 ((84 : Int32) + v1).toNatClampNeg)).toNatClampNeg)) 167 ((84 : Int32) + v1).toNatClampNeg (((sI σ 167 ((12 : Int32) + v1).toNatClampNeg (σ.1 167 (((208 : Int32) + ((144 : Int32) * v1)) + (σ.1 167 ((84 : Int32) + v1).toNatClampNeg)).toNatClampNeg)).1 167 ((84 : Int32) + v1).toNatClampNeg) + (1 : Int32)))) (ps := [shk 166 = 11, shk 166 = 11, shk 166 = 11, IA 167 1936 ∧ inb ((84 : Int32) + v1) 1936 = true, IA 167 1936 ∧ inb (((208 : Int32) + ((144 : Int32) * v1)) + (σ.1 167 ((84 : Int32) + v1).toNatClampNeg)) 1936 = true, IA 167 1936 ∧ inb ((12 : Int32) + v1) 1936 = true, shk 166 = 11, shk 166 = 11, IA 167 1936 ∧ inb ((84 : Int32) + v1) 1936 = true, IA 167 1936 ∧ inb ((84 : Int32) + v1) 1936 = true]) rfl ⟨rfl, rfl, rfl, ⟨⟨rfl, rfl⟩, g4⟩, ⟨⟨rfl, rfl⟩, g6⟩, ⟨⟨rfl, rfl⟩, g7⟩, rfl, rfl, ⟨⟨rfl, rfl⟩, g4⟩, ⟨⟨rfl, rfl⟩, g4⟩, trivial⟩) ?_
      exact Go_ret0 bk_Md_travels 53 rfl
    · have h := ifT c8 h
      have h := Option.some.inj h
      subst h
      exact Go_ret0 bk_Md_travels 17 rfl
def Md_travels (v1 : Int32) (σ : MH) : Option (MH) := Md_travels0 v1 σ
set_option maxRecDepth 20000 in
set_option maxHeartbeats 2000000 in
theorem ev_Md_travels (v1 : Int32)  (σ : MH) {o} (h : Md_travels v1 σ = some o) : Ev m_Md_travels 5 [.ref 166, .int v1] σ none o := Ev.of2 (by decide +kernel) rfl (Nat.le_of_ble_eq_true rfl) rfl (t_Md_travels0 v1 σ h)
def Md_haveTried0 (v1 : Int32) (v2 : Int32) (σ : MH) : Option (MH) := if inb ((60 : Int32) + v1) 1936 = true then if inb ((60 : Int32) + v2) 1936 = true then some (sI (sI σ 167 ((60 : Int32) + v1).toNatClampNeg ((σ.1 167 ((60 : Int32) + v1).toNatClampNeg) ||| (jshl (1 : Int32) v2))) 167 ((60 : Int32) + v2).toNatClampNeg (((sI σ 167 ((60 : Int32) + v1).toNatClampNeg ((σ.1 167 ((60 : Int32) + v1).toNatClampNeg) ||| (jshl (1 : Int32) v2))).1 167 ((60 : Int32) + v2).toNatClampNeg) ||| (jshl (1 : Int32) v1))) else none else none
set_option maxRecDepth 20000 in
set_option maxHeartbeats 2000000 in
theorem t_Md_haveTried0 (v1 : Int32) (v2 : Int32)  (σ : MH) {o} (h : Md_haveTried0 v1 v2 σ = some o) : Go m_Md_haveTried 1 (some 0, [some (.ref 166), some (.int v1), some (.int v2)], [], σ) ((none, [], [], o)) := by
  unfold Md_haveTried0 at h
  obtain ⟨g1, h⟩ := gdS h
  obtain ⟨g2, h⟩ := gdS h
  have h := Option.some.inj h
  subst h
  refine Go.t (Go_sg bk_Md_haveTried 0 32 (c2 := (some 44, [some (.ref 166), some (.int v1), some (.int v2)], [], sI (sI σ 167 ((60 : Int32) + v1).toNatClampNeg ((σ.1 167 ((60 : Int32) + v1).toNatClampNeg) ||| (jshl (1 : Int32) v2))) 167 ((60 : Int32) + v2).toNatClampNeg (((sI σ 167 ((60 : Int32) + v1).toNatClampNeg ((σ.1 167 ((60 : Int32) + v1).toNatClampNeg) ||| (jshl (1 : Int32) v2))).1 167 ((60 : Int32) + v2).toNatClampNeg) ||| (jshl (1 : Int32) v1)))) (ps := [shk 166 = 11, shk 166 = 11, IA 167 1936 ∧ inb ((60 : Int32) + v1) 1936 = true, IA 167 1936 ∧ inb ((60 : Int32) + v1) 1936 = true, shk 166 = 11, shk 166 = 11, IA 167 1936 ∧ inb ((60 : Int32) + v2) 1936 = true, IA 167 1936 ∧ inb ((60 : Int32) + v2) 1936 = true]) rfl ⟨rfl, rfl, ⟨⟨rfl, rfl⟩, g1⟩, ⟨⟨rfl, rfl⟩, g1⟩, rfl, rfl, ⟨⟨rfl, rfl⟩, g2⟩, ⟨⟨rfl, rfl⟩, g2⟩, trivial⟩) ?_
  exact Go_ret0 bk_Md_haveTried 32 rfl
def Md_haveTried (v1 : Int32) (v2 : Int32) (σ : MH) : Option (MH) := Md_haveTried0 v1 v2 σ
set_option maxRecDepth 20000 in
set_option maxHeartbeats 2000000 in
theorem ev_Md_haveTried (v1 : Int32) (v2 : Int32)  (σ : MH) {o} (h : Md_haveTried v1 v2 σ = some o) : Ev m_Md_haveTried 1 [.ref 166, .int v1, .int v2] σ none o := Ev.of2 (by decide +kernel) rfl (Nat.le_of_ble_eq_true rfl) rfl (t_Md_haveTried0 v1 v2 σ h)
def Md_heightOf0 (v1 : Int32) (v2 : Int32) (σ : MH) : Option (Int32) := if inb (((112 : Int32) + ((8 : Int32) * v1)) + v2) 1936 = true then some (σ.1 167 (((112 : Int32) + ((8 : Int32) * v1)) + v2).toNatClampNeg) else none
set_option maxRecDepth 20000 in
set_option maxHeartbeats 2000000 in
theorem t_Md_heightOf0 (v1 : Int32) (v2 : Int32)  (σ : MH) {o} (h : Md_heightOf0 v1 v2 σ = some o) : Go m_Md_heightOf 1 (some 0, [some (.ref 166), some (.int v1), some (.int v2)], [], σ) ((none, [], [.int o], σ)) := by
  unfold Md_heightOf0 at h
  obtain ⟨g1, h⟩ := gdS h
  have h := Option.some.inj h
  subst h
  refine Go.t (Go_sg bk_Md_heightOf 0 10 (c2 := (some 14, [some (.ref 166), some (.int v1), some (.int v2)], [.int (σ.1 167 (((112 : Int32) + ((8 : Int32) * v1)) + v2).toNatClampNeg)], σ)) (ps := [shk 166 = 11, IA 167 1936 ∧ inb (((112 : Int32) + ((8 : Int32) * v1)) + v2) 1936 = true]) rfl ⟨rfl, ⟨⟨rfl, rfl⟩, g1⟩, trivial⟩) ?_
  exact Go_reti bk_Md_heightOf 10 rfl
def Md_heightOf (v1 : Int32) (v2 : Int32) (σ : MH) : Option (Int32) := Md_heightOf0 v1 v2 σ
set_option maxRecDepth 20000 in
set_option maxHeartbeats 2000000 in
theorem ev_Md_heightOf (v1 : Int32) (v2 : Int32)  (σ : MH) {o} (h : Md_heightOf v1 v2 σ = some o) : Ev m_Md_heightOf 1 [.ref 166, .int v1, .int v2] σ (some (.int o)) σ := Ev.of2 (by decide +kernel) rfl (Nat.le_of_ble_eq_true rfl) ⟨.int, rfl, rfl⟩ (t_Md_heightOf0 v1 v2 σ h)
def Md_max0 (v0 : Int32) (v1 : Int32) (σ : MH) : Option (Int32) := if v0 ≤ v1 then some (v1) else some (v0)
set_option maxRecDepth 20000 in
set_option maxHeartbeats 2000000 in
theorem t_Md_max0 (v0 : Int32) (v1 : Int32)  (σ : MH) {o} (h : Md_max0 v0 v1 σ = some o) : Go m_Md_max 1 (some 0, [some (.int v0), some (.int v1)], [], σ) ((none, [], [.int o], σ)) := by
  unfold Md_max0 at h
  refine Go.t (Go_sg bk_Md_max 0 2 (c2 := (some 2, [some (.int v0), some (.int v1)], [.int v1, .int v0], σ)) (ps := []) rfl trivial) ?_
  refine Go_icmp_le bk_Md_max 2 rfl (fun c1 => ?_) (fun c1 => ?_)
  · have h := ifT c1 h
    have h := Option.some.inj h
    subst h
    refine Go.t (Go_sg bk_Md_max 5 1 (c2 := (some 10, [some (.int v0), some (.int v1)], [.int v1], σ)) (ps := []) rfl trivial) ?_
    exact Go_reti bk_Md_max 6 rfl
  · have h := ifF c1 h
    refine Go.t (Go_sg bk_Md_max 3 2 (c2 := (some 10, [some (.int v0), some (.int v1)], [.int v0], σ)) (ps := []) rfl trivial) ?_
    have h := Option.some.inj h
    subst h
    exact Go_reti bk_Md_max 6 rfl
def Md_max (v0 : Int32) (v1 : Int32) (σ : MH) : Option (Int32) := Md_max0 v0 v1 σ
set_option maxRecDepth 20000 in
set_option maxHeartbeats 2000000 in
theorem ev_Md_max (v0 : Int32) (v1 : Int32)  (σ : MH) {o} (h : Md_max v0 v1 σ = some o) : Ev m_Md_max 1 [.int v0, .int v1] σ (some (.int o)) σ := Ev.of2 (by decide +kernel) rfl (Nat.le_of_ble_eq_true rfl) ⟨.int, rfl, rfl⟩ (t_Md_max0 v0 v1 σ h)
def cH_Md_slackOf_5 (v1 : Int32) (v2 : Int32) (σ : MH) (s : Int32 × Int32) : MC := (some 5, [some (.ref 166), some (.int v1), some (.int v2), some (.int s.1), some (.int s.2)], [], σ)
def cR_Md_slackOf_5 (v1 : Int32) (v2 : Int32) (σ : MH) : ((Int32)) → MC := (fun r : Int32 => ((some 42, [some (.ref 166), some (.int v1), some (.int v2), some (.int r), none], [], σ) : MC))
def Md_slackOf_l5 (v1 : Int32) (v2 : Int32) (v3 : Int32) (v4 : Int32) (σ : MH) : Option (((Int32 × Int32) ⊕ ((Int32)))) := if (8 : Int32) ≤ v4 then some (.inr (v3)) else ((Md_heightOf v1 v4 σ).bind fun x1 => (Md_heightOf v2 ((7 : Int32) - v4) σ).bind fun x4 => (Md_size (x1 + x4) σ).bind fun x7 => some (.inl (v3 + x7, v4 + (1 : Int32))))
set_option maxRecDepth 20000 in
set_option maxHeartbeats 2000000 in
theorem t_Md_slackOf_l5 (v1 : Int32) (v2 : Int32) (v3 : Int32) (v4 : Int32)  (σ : MH) {o} (h : Md_slackOf_l5 v1 v2 v3 v4 σ = some o) : Go m_Md_slackOf 2 (cH_Md_slackOf_5 v1 v2 σ (v3, v4)) (cS (cH_Md_slackOf_5 v1 v2 σ) (cR_Md_slackOf_5 v1 v2 σ) o) := by
  unfold Md_slackOf_l5 at h
  unfold cH_Md_slackOf_5
  refine Go.t (Go_sg bk_Md_slackOf 4 2 (c2 := (some 9, [some (.ref 166), some (.int v1), some (.int v2), some (.int v3), some (.int v4)], [.int (8 : Int32), .int v4], σ)) (ps := []) rfl trivial) ?_
  refine Go_icmp_ge bk_Md_slackOf 6 rfl (fun c10 => ?_) (fun c10 => ?_)
  · have h := ifT c10 h
    have h := Option.some.inj h
    subst h
    exact Go.fg (LSub.cs (LSub.cs (LSub.cs (LSub.cs (LSub.cn (LSub.nil))))))
  · have h := ifF c10 h
    refine Go.t (Go_sg bk_Md_slackOf 7 4 (c2 := (some 17, [some (.ref 166), some (.int v1), some (.int v2), some (.int v3), some (.int v4)], [.int v4, .int v1, .ref 166, .int v3], σ)) (ps := []) rfl trivial) ?_
    obtain ⟨x1, q3, h⟩ := bdS h
    refine Go.t (Go_callV bk_Md_slackOf 11 rfl nk_Md_heightOf tw1547 tw1549 tw77 (ci := 11) rfl (as := [.int v1, .int v4]) (S := [.int v3]) rfl rfl rfl rfl (Nat.le_of_ble_eq_true rfl) (Nat.le_of_ble_eq_true rfl) (ev_Md_heightOf _ _ _ q3)) ?_
    refine Go.t (Go_sg bk_Md_slackOf 12 5 (c2 := (some 27, [some (.ref 166), some (.int v1), some (.int v2), some (.int v3), some (.int v4)], [.int ((7 : Int32) - v4), .int v2, .ref 166, .int x1, .int v3], σ)) (ps := []) rfl trivial) ?_
    obtain ⟨x4, q6, h⟩ := bdS h
    refine Go.t (Go_callV bk_Md_slackOf 17 rfl nk_Md_heightOf tw1547 tw1549 tw77 (ci := 11) rfl (as := [.int v2, .int ((7 : Int32) - v4)]) (S := [.int x1, .int v3]) rfl rfl rfl rfl (Nat.le_of_ble_eq_true rfl) (Nat.le_of_ble_eq_true rfl) (ev_Md_heightOf _ _ _ q6)) ?_
    refine Go.t (Go_sg bk_Md_slackOf 18 1 (c2 := (some 31, [some (.ref 166), some (.int v1), some (.int v2), some (.int v3), some (.int v4)], [.int (x1 + x4), .int v3], σ)) (ps := []) rfl trivial) ?_
    obtain ⟨x7, q9, h⟩ := bdS h
    refine Go.t (Go_callS bk_Md_slackOf 19 rfl nk_Md_size tw1503 tw1504 (as := [.int (x1 + x4)]) (S := [.int v3]) rfl rfl rfl (Nat.le_of_ble_eq_true rfl) (Nat.le_of_ble_eq_true rfl) (ev_Md_size _ _ q9)) ?_
    refine Go.t (Go_sg bk_Md_slackOf 20 4 (c2 := (some 5, [some (.ref 166), some (.int v1), some (.int v2), some (.int (v3 + x7)), some (.int (v4 + (1 : Int32)))], [], σ)) (ps := []) rfl trivial) ?_
    have h := Option.some.inj h
    subst h
    exact Go.fg (LSub.cs (LSub.cs (LSub.cs (LSub.cs (LSub.cs (LSub.nil))))))
def Md_slackOf_L5 (v1 : Int32) (v2 : Int32) (σ : MH) (s : Int32 × Int32) : Option ((Int32)) := itr (fun s : Int32 × Int32 => Md_slackOf_l5 v1 v2 s.1 s.2 σ) FU s
set_option maxRecDepth 20000 in
set_option maxHeartbeats 2000000 in
theorem t_Md_slackOf_L5 (v1 : Int32) (v2 : Int32)  (σ : MH) (s : Int32 × Int32) {r} (h : Md_slackOf_L5 v1 v2 σ s = some r) : Go m_Md_slackOf 2 (cH_Md_slackOf_5 v1 v2 σ s) (cR_Md_slackOf_5 v1 v2 σ r) := Go_itr (fun s o ho => t_Md_slackOf_l5 v1 v2 s.1 s.2 σ ho) FU s r h
def Md_slackOf0 (v1 : Int32) (v2 : Int32) (σ : MH) : Option (Int32) := (Md_slackOf_L5 v1 v2 σ ((0 : Int32), (0 : Int32))).bind fun z11 => if inb ((72 : Int32) + v1) 1936 = true then if inb ((72 : Int32) + v2) 1936 = true then (Md_max (0 : Int32) ((z11 - (σ.1 167 ((72 : Int32) + v1).toNatClampNeg)) - (σ.1 167 ((72 : Int32) + v2).toNatClampNeg)) σ).bind fun x15 => some (x15) else none else none
set_option maxRecDepth 20000 in
set_option maxHeartbeats 2000000 in
theorem t_Md_slackOf0 (v1 : Int32) (v2 : Int32)  (σ : MH) {o} (h : Md_slackOf0 v1 v2 σ = some o) : Go m_Md_slackOf 2 (some 0, [some (.ref 166), some (.int v1), some (.int v2), none, none], [], σ) ((none, [], [.int o], σ)) := by
  unfold Md_slackOf0 at h
  refine Go.t (Go_sg bk_Md_slackOf 0 4 (c2 := (some 5, [some (.ref 166), some (.int v1), some (.int v2), some (.int (0 : Int32)), some (.int (0 : Int32))], [], σ)) (ps := []) rfl trivial) ?_
  obtain ⟨z11, q12, h⟩ := bdS h
  refine Go.t (Go.t (Go.fg (LSub.cs (LSub.cs (LSub.cs (LSub.cs (LSub.cs (LSub.nil))))))) (t_Md_slackOf_L5 v1 v2 σ _ q12)) ?_
  obtain ⟨g13, h⟩ := gdS h
  obtain ⟨g14, h⟩ := gdS h
  refine Go.t (Go_sg bk_Md_slackOf 24 16 (c2 := (some 64, [some (.ref 166), some (.int v1), some (.int v2), some (.int z11), none], [.int ((z11 - (σ.1 167 ((72 : Int32) + v1).toNatClampNeg)) - (σ.1 167 ((72 : Int32) + v2).toNatClampNeg)), .int (0 : Int32)], σ)) (ps := [shk 166 = 11, IA 167 1936 ∧ inb ((72 : Int32) + v1) 1936 = true, shk 166 = 11, IA 167 1936 ∧ inb ((72 : Int32) + v2) 1936 = true]) rfl ⟨rfl, ⟨⟨rfl, rfl⟩, g13⟩, rfl, ⟨⟨rfl, rfl⟩, g14⟩, trivial⟩) ?_
  obtain ⟨x15, q17, h⟩ := bdS h
  refine Go.t (Go_callS bk_Md_slackOf 40 rfl nk_Md_max tw1551 tw1552 (as := [.int (0 : Int32), .int ((z11 - (σ.1 167 ((72 : Int32) + v1).toNatClampNeg)) - (σ.1 167 ((72 : Int32) + v2).toNatClampNeg))]) (S := []) rfl rfl rfl (Nat.le_of_ble_eq_true rfl) (Nat.le_of_ble_eq_true rfl) (ev_Md_max _ _ _ q17)) ?_
  have h := Option.some.inj h
  subst h
  exact Go_reti bk_Md_slackOf 41 rfl
def Md_slackOf (v1 : Int32) (v2 : Int32) (σ : MH) : Option (Int32) := Md_slackOf0 v1 v2 σ
set_option maxRecDepth 20000 in
set_option maxHeartbeats 2000000 in
theorem ev_Md_slackOf (v1 : Int32) (v2 : Int32)  (σ : MH) {o} (h : Md_slackOf v1 v2 σ = some o) : Ev m_Md_slackOf 2 [.ref 166, .int v1, .int v2] σ (some (.int o)) σ := Ev.of2 (by decide +kernel) rfl (Nat.le_of_ble_eq_true rfl) ⟨.int, rfl, rfl⟩ (t_Md_slackOf0 v1 v2 σ h)
def Md_min0 (v0 : Int32) (v1 : Int32) (σ : MH) : Option (Int32) := if v1 ≤ v0 then some (v1) else some (v0)
set_option maxRecDepth 20000 in
set_option maxHeartbeats 2000000 in
theorem t_Md_min0 (v0 : Int32) (v1 : Int32)  (σ : MH) {o} (h : Md_min0 v0 v1 σ = some o) : Go m_Md_min 1 (some 0, [some (.int v0), some (.int v1)], [], σ) ((none, [], [.int o], σ)) := by
  unfold Md_min0 at h
  refine Go.t (Go_sg bk_Md_min 0 2 (c2 := (some 2, [some (.int v0), some (.int v1)], [.int v1, .int v0], σ)) (ps := []) rfl trivial) ?_
  refine Go_icmp_ge bk_Md_min 2 rfl (fun c1 => ?_) (fun c1 => ?_)
  · have h := ifT c1 h
    have h := Option.some.inj h
    subst h
    refine Go.t (Go_sg bk_Md_min 5 1 (c2 := (some 10, [some (.int v0), some (.int v1)], [.int v1], σ)) (ps := []) rfl trivial) ?_
    exact Go_reti bk_Md_min 6 rfl
  · have h := ifF c1 h
    refine Go.t (Go_sg bk_Md_min 3 2 (c2 := (some 10, [some (.int v0), some (.int v1)], [.int v0], σ)) (ps := []) rfl trivial) ?_
    have h := Option.some.inj h
    subst h
    exact Go_reti bk_Md_min 6 rfl
def Md_min (v0 : Int32) (v1 : Int32) (σ : MH) : Option (Int32) := Md_min0 v0 v1 σ
set_option maxRecDepth 20000 in
set_option maxHeartbeats 2000000 in
theorem ev_Md_min (v0 : Int32) (v1 : Int32)  (σ : MH) {o} (h : Md_min v0 v1 σ = some o) : Ev m_Md_min 1 [.int v0, .int v1] σ (some (.int o)) σ := Ev.of2 (by decide +kernel) rfl (Nat.le_of_ble_eq_true rfl) ⟨.int, rfl, rfl⟩ (t_Md_min0 v0 v1 σ h)
def cH_Md_slackBy_6 (v1 : Int32) (v2 : Int32) (σ : MH) (s : Int32 × Int32) : MC := (some 6, [some (.ref 166), some (.int v1), some (.int v2), some (.int s.1), some (.int s.2), none], [], σ)
def cR_Md_slackBy_6 (v1 : Int32) (v2 : Int32) (σ : MH) : ((Int32)) → MC := (fun r : Int32 => ((some 82, [none, none, none, some (.int r), none, none], [], σ) : MC))
def cH_Md_slackBy_16 (v1 : Int32) (v2 : Int32) (v4 : Int32) (σ : MH) (s : Int32 × Int32) : MC := (some 16, [some (.ref 166), some (.int v1), some (.int v2), some (.int s.1), some (.int v4), some (.int s.2)], [], σ)
def cR_Md_slackBy_16 (v1 : Int32) (v2 : Int32) (v4 : Int32) (σ : MH) : ((Int32)) → MC := (fun r : Int32 => ((some 76, [some (.ref 166), some (.int v1), some (.int v2), some (.int r), some (.int v4), none], [], σ) : MC))
def Md_slackBy_b70 (v1 : Int32) (v2 : Int32) (v3 : Int32) (v4 : Int32) (v5 : Int32) (σ : MH) : Option (((Int32 × Int32) ⊕ ((Int32)))) := some (.inl (v3, v5 + (1 : Int32)))
set_option maxRecDepth 20000 in
set_option maxHeartbeats 2000000 in
theorem t_Md_slackBy_b70 (v1 : Int32) (v2 : Int32) (v3 : Int32) (v4 : Int32) (v5 : Int32)   (σ : MH) {o} (h : Md_slackBy_b70 v1 v2 v3 v4 v5 σ = some o) : Go m_Md_slackBy 3 (some 70, [some (.ref 166), some (.int v1), some (.int v2), some (.int v3), some (.int v4), some (.int v5)], [], σ) (cS (cH_Md_slackBy_16 v1 v2 v4 σ) (cR_Md_slackBy_16 v1 v2 v4 σ) o) := by
  unfold Md_slackBy_b70 at h
  refine Go.t (Go_sg bk_Md_slackBy 37 2 (c2 := (some 16, [some (.ref 166), some (.int v1), some (.int v2), some (.int v3), some (.int v4), some (.int (v5 + (1 : Int32)))], [], σ)) (ps := []) rfl trivial) ?_
  have h := Option.some.inj h
  subst h
  exact Go.fg (LSub.cs (LSub.cs (LSub.cs (LSub.cs (LSub.cs (LSub.cs (LSub.nil)))))))
def Md_slackBy_l16 (v1 : Int32) (v2 : Int32) (v4 : Int32) (v3 : Int32) (v5 : Int32) (σ : MH) : Option (((Int32 × Int32) ⊕ ((Int32)))) := if (12 : Int32) ≤ v5 then some (.inr (v3)) else (if inb ((48 : Int32) + v1) 1936 = true then (Md_has (σ.1 167 ((48 : Int32) + v1).toNatClampNeg) v4 σ).bind fun x2 => if x2 = (0 : Int32) then (Md_slackBy_b70 v1 v2 v3 v4 v5 σ) else (if inb ((48 : Int32) + v2) 1936 = true then (Md_has (σ.1 167 ((48 : Int32) + v2).toNatClampNeg) v5 σ).bind fun x6 => if x6 = (0 : Int32) then (Md_slackBy_b70 v1 v2 v3 v4 v5 σ) else ((Md_slackOf v4 v5 σ).bind fun x9 => (Md_min v3 x9 σ).bind fun x12 => Md_slackBy_b70 v1 v2 x12 v4 v5 σ) else none) else none)
set_option maxRecDepth 20000 in
set_option maxHeartbeats 2000000 in
theorem t_Md_slackBy_l16 (v1 : Int32) (v2 : Int32) (v4 : Int32) (v3 : Int32) (v5 : Int32)  (σ : MH) {o} (h : Md_slackBy_l16 v1 v2 v4 v3 v5 σ = some o) : Go m_Md_slackBy 3 (cH_Md_slackBy_16 v1 v2 v4 σ (v3, v5)) (cS (cH_Md_slackBy_16 v1 v2 v4 σ) (cR_Md_slackBy_16 v1 v2 v4 σ) o) := by
  unfold Md_slackBy_l16 at h
  unfold cH_Md_slackBy_16
  refine Go.t (Go_sg bk_Md_slackBy 9 2 (c2 := (some 20, [some (.ref 166), some (.int v1), some (.int v2), some (.int v3), some (.int v4), some (.int v5)], [.int (12 : Int32), .int v5], σ)) (ps := []) rfl trivial) ?_
  refine Go_icmp_ge bk_Md_slackBy 11 rfl (fun c17 => ?_) (fun c17 => ?_)
  · have h := ifT c17 h
    have h := Option.some.inj h
    subst h
    exact Go.fg (LSub.cs (LSub.cs (LSub.cs (LSub.cs (LSub.cs (LSub.cn (LSub.nil)))))))
  · have h := ifF c17 h
    obtain ⟨g1, h⟩ := gdS h
    refine Go.t (Go_sg bk_Md_slackBy 12 7 (c2 := (some 34, [some (.ref 166), some (.int v1), some (.int v2), some (.int v3), some (.int v4), some (.int v5)], [.int v4, .int (σ.1 167 ((48 : Int32) + v1).toNatClampNeg)], σ)) (ps := [shk 166 = 11, IA 167 1936 ∧ inb ((48 : Int32) + v1) 1936 = true]) rfl ⟨rfl, ⟨⟨rfl, rfl⟩, g1⟩, trivial⟩) ?_
    obtain ⟨x2, q4, h⟩ := bdS h
    refine Go.t (Go_callS bk_Md_slackBy 19 rfl nk_Md_has tw1367 tw1368 (as := [.int (σ.1 167 ((48 : Int32) + v1).toNatClampNeg), .int v4]) (S := []) rfl rfl rfl (Nat.le_of_ble_eq_true rfl) (Nat.le_of_ble_eq_true rfl) (ev_Md_has _ _ _ q4)) ?_
    refine Go_if_eq bk_Md_slackBy 20 rfl (fun c16 => ?_) (fun c16 => ?_)
    · have h := ifT c16 h
      exact Go.t (Go.fg (LSub.cs (LSub.cs (LSub.cs (LSub.cs (LSub.cs (LSub.cs (LSub.nil)))))))) (t_Md_slackBy_b70 v1 v2 v3 v4 v5 σ h)
    · have h := ifF c16 h
      obtain ⟨g5, h⟩ := gdS h
      refine Go.t (Go_sg bk_Md_slackBy 21 7 (c2 := (some 51, [some (.ref 166), some (.int v1), some (.int v2), some (.int v3), some (.int v4), some (.int v5)], [.int v5, .int (σ.1 167 ((48 : Int32) + v2).toNatClampNeg)], σ)) (ps := [shk 166 = 11, IA 167 1936 ∧ inb ((48 : Int32) + v2) 1936 = true]) rfl ⟨rfl, ⟨⟨rfl, rfl⟩, g5⟩, trivial⟩) ?_
      obtain ⟨x6, q8, h⟩ := bdS h
      refine Go.t (Go_callS bk_Md_slackBy 28 rfl nk_Md_has tw1367 tw1368 (as := [.int (σ.1 167 ((48 : Int32) + v2).toNatClampNeg), .int v5]) (S := []) rfl rfl rfl (Nat.le_of_ble_eq_true rfl) (Nat.le_of_ble_eq_true rfl) (ev_Md_has _ _ _ q8)) ?_
      refine Go_if_eq bk_Md_slackBy 29 rfl (fun c15 => ?_) (fun c15 => ?_)
      · have h := ifT c15 h
        exact Go.t (Go.fg (LSub.cs (LSub.cs (LSub.cs (LSub.cs (LSub.cs (LSub.cs (LSub.nil)))))))) (t_Md_slackBy_b70 v1 v2 v3 v4 v5 σ h)
      · have h := ifF c15 h
        refine Go.t (Go_sg bk_Md_slackBy 30 4 (c2 := (some 63, [some (.ref 166), some (.int v1), some (.int v2), some (.int v3), some (.int v4), some (.int v5)], [.int v5, .int v4, .ref 166, .int v3], σ)) (ps := []) rfl trivial) ?_
        obtain ⟨x9, q11, h⟩ := bdS h
        refine Go.t (Go_callV bk_Md_slackBy 34 rfl nk_Md_slackOf tw1543 tw1545 tw76 (ci := 11) rfl (as := [.int v4, .int v5]) (S := [.int v3]) rfl rfl rfl rfl (Nat.le_of_ble_eq_true rfl) (Nat.le_of_ble_eq_true rfl) (ev_Md_slackOf _ _ _ q11)) ?_
        obtain ⟨x12, q14, h⟩ := bdS h
        refine Go.t (Go_callS bk_Md_slackBy 35 rfl nk_Md_min tw1554 tw1555 (as := [.int v3, .int x9]) (S := []) rfl rfl rfl (Nat.le_of_ble_eq_true rfl) (Nat.le_of_ble_eq_true rfl) (ev_Md_min _ _ _ q14)) ?_
        refine Go.t (Go_sg bk_Md_slackBy 36 1 (c2 := (some 70, [some (.ref 166), some (.int v1), some (.int v2), some (.int x12), some (.int v4), some (.int v5)], [], σ)) (ps := []) rfl trivial) ?_
        exact Go.t (Go.fg (LSub.cs (LSub.cs (LSub.cs (LSub.cs (LSub.cs (LSub.cs (LSub.nil)))))))) (t_Md_slackBy_b70 v1 v2 x12 v4 v5 σ h)
def Md_slackBy_L16 (v1 : Int32) (v2 : Int32) (v4 : Int32) (σ : MH) (s : Int32 × Int32) : Option ((Int32)) := itr (fun s : Int32 × Int32 => Md_slackBy_l16 v1 v2 v4 s.1 s.2 σ) FU s
set_option maxRecDepth 20000 in
set_option maxHeartbeats 2000000 in
theorem t_Md_slackBy_L16 (v1 : Int32) (v2 : Int32) (v4 : Int32)  (σ : MH) (s : Int32 × Int32) {r} (h : Md_slackBy_L16 v1 v2 v4 σ s = some r) : Go m_Md_slackBy 3 (cH_Md_slackBy_16 v1 v2 v4 σ s) (cR_Md_slackBy_16 v1 v2 v4 σ r) := Go_itr (fun s o ho => t_Md_slackBy_l16 v1 v2 v4 s.1 s.2 σ ho) FU s r h
def Md_slackBy_l6 (v1 : Int32) (v2 : Int32) (v3 : Int32) (v4 : Int32) (σ : MH) : Option (((Int32 × Int32) ⊕ ((Int32)))) := if (12 : Int32) ≤ v4 then some (.inr (v3)) else ((Md_slackBy_L16 v1 v2 v4 σ (v3, (0 : Int32))).bind fun z18 => some (.inl (z18, v4 + (1 : Int32))))
set_option maxRecDepth 20000 in
set_option maxHeartbeats 2000000 in
theorem t_Md_slackBy_l6 (v1 : Int32) (v2 : Int32) (v3 : Int32) (v4 : Int32)  (σ : MH) {o} (h : Md_slackBy_l6 v1 v2 v3 v4 σ = some o) : Go m_Md_slackBy 3 (cH_Md_slackBy_6 v1 v2 σ (v3, v4)) (cS (cH_Md_slackBy_6 v1 v2 σ) (cR_Md_slackBy_6 v1 v2 σ) o) := by
  unfold Md_slackBy_l6 at h
  unfold cH_Md_slackBy_6
  refine Go.t (Go_sg bk_Md_slackBy 4 2 (c2 := (some 10, [some (.ref 166), some (.int v1), some (.int v2), some (.int v3), some (.int v4), none], [.int (12 : Int32), .int v4], σ)) (ps := []) rfl trivial) ?_
  refine Go_icmp_ge bk_Md_slackBy 6 rfl (fun c20 => ?_) (fun c20 => ?_)
  · have h := ifT c20 h
    have h := Option.some.inj h
    subst h
    exact Go.fg (LSub.cn (LSub.cn (LSub.cn (LSub.cs (LSub.cn (LSub.cn (LSub.nil)))))))
  · have h := ifF c20 h
    refine Go.t (Go_sg bk_Md_slackBy 7 2 (c2 := (some 16, [some (.ref 166), some (.int v1), some (.int v2), some (.int v3), some (.int v4), some (.int (0 : Int32))], [], σ)) (ps := []) rfl trivial) ?_
    obtain ⟨z18, q19, h⟩ := bdS h
    refine Go.t (Go.t (Go.fg (LSub.cs (LSub.cs (LSub.cs (LSub.cs (LSub.cs (LSub.cs (LSub.nil)))))))) (t_Md_slackBy_L16 v1 v2 v4 σ _ q19)) ?_
    refine Go.t (Go_sg bk_Md_slackBy 39 2 (c2 := (some 6, [some (.ref 166), some (.int v1), some (.int v2), some (.int z18), some (.int (v4 + (1 : Int32))), none], [], σ)) (ps := []) rfl trivial) ?_
    have h := Option.some.inj h
    subst h
    exact Go.fg (LSub.cs (LSub.cs (LSub.cs (LSub.cs (LSub.cs (LSub.cn (LSub.nil)))))))
def Md_slackBy_L6 (v1 : Int32) (v2 : Int32) (σ : MH) (s : Int32 × Int32) : Option ((Int32)) := itr (fun s : Int32 × Int32 => Md_slackBy_l6 v1 v2 s.1 s.2 σ) FU s
set_option maxRecDepth 20000 in
set_option maxHeartbeats 2000000 in
theorem t_Md_slackBy_L6 (v1 : Int32) (v2 : Int32)  (σ : MH) (s : Int32 × Int32) {r} (h : Md_slackBy_L6 v1 v2 σ s = some r) : Go m_Md_slackBy 3 (cH_Md_slackBy_6 v1 v2 σ s) (cR_Md_slackBy_6 v1 v2 σ r) := Go_itr (fun s o ho => t_Md_slackBy_l6 v1 v2 s.1 s.2 σ ho) FU s r h
def Md_slackBy0 (v1 : Int32) (v2 : Int32) (σ : MH) : Option (Int32) := (Md_slackBy_L6 v1 v2 σ ((1000000000 : Int32), (0 : Int32))).bind fun z21 => if z21 = (1000000000 : Int32) then some ((-1 : Int32)) else some (z21)
set_option maxRecDepth 20000 in
set_option maxHeartbeats 2000000 in
theorem t_Md_slackBy0 (v1 : Int32) (v2 : Int32)  (σ : MH) {o} (h : Md_slackBy0 v1 v2 σ = some o) : Go m_Md_slackBy 3 (some 0, [some (.ref 166), some (.int v1), some (.int v2), none, none, none], [], σ) ((none, [], [.int o], σ)) := by
  unfold Md_slackBy0 at h
  refine Go.t (Go_sg bk_Md_slackBy 0 4 (c2 := (some 6, [some (.ref 166), some (.int v1), some (.int v2), some (.int (1000000000 : Int32)), some (.int (0 : Int32)), none], [], σ)) (ps := []) rfl trivial) ?_
  obtain ⟨z21, q22, h⟩ := bdS h
  refine Go.t (Go.t (Go.fg (LSub.cs (LSub.cs (LSub.cs (LSub.cs (LSub.cs (LSub.cn (LSub.nil)))))))) (t_Md_slackBy_L6 v1 v2 σ _ q22)) ?_
  refine Go.t (Go_sg bk_Md_slackBy 41 2 (c2 := (some 85, [none, none, none, some (.int z21), none, none], [.int (1000000000 : Int32), .int z21], σ)) (ps := []) rfl trivial) ?_
  refine Go_icmp_ne bk_Md_slackBy 43 rfl (fun c23 => ?_) (fun c23 => ?_)
  · have h := ifF c23 h
    have h := Option.some.inj h
    subst h
    refine Go.t (Go_sg bk_Md_slackBy 46 1 (c2 := (some 93, [none, none, none, some (.int z21), none, none], [.int z21], σ)) (ps := []) rfl trivial) ?_
    exact Go_reti bk_Md_slackBy 47 rfl
  · have h := ifT c23 h
    refine Go.t (Go_sg bk_Md_slackBy 44 2 (c2 := (some 93, [none, none, none, some (.int z21), none, none], [.int (-1 : Int32)], σ)) (ps := []) rfl trivial) ?_
    have h := Option.some.inj h
    subst h
    exact Go_reti bk_Md_slackBy 47 rfl
def Md_slackBy (v1 : Int32) (v2 : Int32) (σ : MH) : Option (Int32) := Md_slackBy0 v1 v2 σ
set_option maxRecDepth 20000 in
set_option maxHeartbeats 2000000 in
theorem ev_Md_slackBy (v1 : Int32) (v2 : Int32)  (σ : MH) {o} (h : Md_slackBy v1 v2 σ = some o) : Ev m_Md_slackBy 3 [.ref 166, .int v1, .int v2] σ (some (.int o)) σ := Ev.of2 (by decide +kernel) rfl (Nat.le_of_ble_eq_true rfl) ⟨.int, rfl, rfl⟩ (t_Md_slackBy0 v1 v2 σ h)
def cH_Md_bits_4 (v0 : Int32) (σ : MH) (s : Int32 × Int32) : MC := (some 4, [some (.int v0), some (.int s.1), some (.int s.2)], [], σ)
def cR_Md_bits_4 (v0 : Int32) (σ : MH) : ((Int32)) → MC := (fun r : Int32 => ((none, [], [.int r], σ) : MC))
def Md_bits_l4 (v0 : Int32) (v1 : Int32) (v2 : Int32) (σ : MH) : Option (((Int32 × Int32) ⊕ ((Int32)))) := if (12 : Int32) ≤ v2 then some (.inr (v1)) else some (.inl (v1 + ((jshr v0 v2) &&& (1 : Int32)), v2 + (1 : Int32)))
set_option maxRecDepth 20000 in
set_option maxHeartbeats 2000000 in
theorem t_Md_bits_l4 (v0 : Int32) (v1 : Int32) (v2 : Int32)  (σ : MH) {o} (h : Md_bits_l4 v0 v1 v2 σ = some o) : Go m_Md_bits 1 (cH_Md_bits_4 v0 σ (v1, v2)) (cS (cH_Md_bits_4 v0 σ) (cR_Md_bits_4 v0 σ) o) := by
  unfold Md_bits_l4 at h
  unfold cH_Md_bits_4
  refine Go.t (Go_sg bk_Md_bits 4 2 (c2 := (some 7, [some (.int v0), some (.int v1), some (.int v2)], [.int (12 : Int32), .int v2], σ)) (ps := []) rfl trivial) ?_
  refine Go_icmp_ge bk_Md_bits 6 rfl (fun c1 => ?_) (fun c1 => ?_)
  · have h := ifT c1 h
    have h := Option.some.inj h
    subst h
    refine Go.t (Go_sg bk_Md_bits 17 1 (c2 := (some 25, [some (.int v0), some (.int v1), some (.int v2)], [.int v1], σ)) (ps := []) rfl trivial) ?_
    exact Go_reti bk_Md_bits 18 rfl
  · have h := ifF c1 h
    refine Go.t (Go_sg bk_Md_bits 7 10 (c2 := (some 4, [some (.int v0), some (.int (v1 + ((jshr v0 v2) &&& (1 : Int32)))), some (.int (v2 + (1 : Int32)))], [], σ)) (ps := []) rfl trivial) ?_
    have h := Option.some.inj h
    subst h
    exact Go.fg (LSub.cs (LSub.cs (LSub.cs (LSub.nil))))
def Md_bits_L4 (v0 : Int32) (σ : MH) (s : Int32 × Int32) : Option ((Int32)) := itr (fun s : Int32 × Int32 => Md_bits_l4 v0 s.1 s.2 σ) FU s
set_option maxRecDepth 20000 in
set_option maxHeartbeats 2000000 in
theorem t_Md_bits_L4 (v0 : Int32)  (σ : MH) (s : Int32 × Int32) {r} (h : Md_bits_L4 v0 σ s = some r) : Go m_Md_bits 1 (cH_Md_bits_4 v0 σ s) (cR_Md_bits_4 v0 σ r) := Go_itr (fun s o ho => t_Md_bits_l4 v0 s.1 s.2 σ ho) FU s r h
def Md_bits0 (v0 : Int32) (σ : MH) : Option (Int32) := (Md_bits_L4 v0 σ ((0 : Int32), (0 : Int32))).bind fun z2 => some (z2)
set_option maxRecDepth 20000 in
set_option maxHeartbeats 2000000 in
theorem t_Md_bits0 (v0 : Int32)  (σ : MH) {o} (h : Md_bits0 v0 σ = some o) : Go m_Md_bits 1 (some 0, [some (.int v0), none, none], [], σ) ((none, [], [.int o], σ)) := by
  unfold Md_bits0 at h
  refine Go.t (Go_sg bk_Md_bits 0 4 (c2 := (some 4, [some (.int v0), some (.int (0 : Int32)), some (.int (0 : Int32))], [], σ)) (ps := []) rfl trivial) ?_
  obtain ⟨z2, q3, h⟩ := bdS h
  refine Go.t (Go.t (Go.fg (LSub.cs (LSub.cs (LSub.cs (LSub.nil))))) (t_Md_bits_L4 v0 σ _ q3)) ?_
  have h := Option.some.inj h
  subst h
  exact Go.rf
def Md_bits (v0 : Int32) (σ : MH) : Option (Int32) := Md_bits0 v0 σ
set_option maxRecDepth 20000 in
set_option maxHeartbeats 2000000 in
theorem ev_Md_bits (v0 : Int32)  (σ : MH) {o} (h : Md_bits v0 σ = some o) : Ev m_Md_bits 1 [.int v0] σ (some (.int o)) σ := Ev.of2 (by decide +kernel) rfl (Nat.le_of_ble_eq_true rfl) ⟨.int, rfl, rfl⟩ (t_Md_bits0 v0 σ h)
def Md_feels0 (v1 : Int32) (v2 : Int32) (v3 : Int32) (σ : MH) : Option (MH) := if inb ((48 : Int32) + v1) 1936 = true then (Md_bits ((sI (sI (sI σ 183 0 v1) 183 1 v2) 183 2 v3).1 167 ((48 : Int32) + v1).toNatClampNeg) (sI (sI (sI σ 183 0 v1) 183 1 v2) 183 2 v3)).bind fun x2 => if inb ((48 : Int32) + v2) 1936 = true then (Md_bits ((sI (sI (sI (sI σ 183 0 v1) 183 1 v2) 183 2 v3) 183 3 x2).1 167 ((48 : Int32) + v2).toNatClampNeg) (sI (sI (sI (sI σ 183 0 v1) 183 1 v2) 183 2 v3) 183 3 x2)).bind fun x6 => if inb ((12 : Int32) + v1) 1936 = true then if inb ((12 : Int32) + v2) 1936 = true then if inb ((36 : Int32) + v1) 1936 = true then if inb ((0 : Int32) + v1) 1936 = true then if inb ((0 : Int32) + v2) 1936 = true then some (sI (sI (sI (sI (sI (sI (sI (sI (sI (sI (sI σ 183 0 v1) 183 1 v2) 183 2 v3) 183 3 x2) 183 4 x6) 183 5 ((sI (sI (sI (sI (sI σ 183 0 v1) 183 1 v2) 183 2 v3) 183 3 x2) 183 4 x6).1 167 ((12 : Int32) + v1).toNatClampNeg)) 183 6 ((sI (sI (sI (sI (sI (sI σ 183 0 v1) 183 1 v2) 183 2 v3) 183 3 x2) 183 4 x6) 183 5 ((sI (sI (sI (sI (sI σ 183 0 v1) 183 1 v2) 183 2 v3) 183 3 x2) 183 4 x6).1 167 ((12 : Int32) + v1).toNatClampNeg)).1 167 ((12 : Int32) + v2).toNatClampNeg)) 183 7 ((sI (sI (sI (sI (sI (sI (sI σ 183 0 v1) 183 1 v2) 183 2 v3) 183 3 x2) 183 4 x6) 183 5 ((sI (sI (sI (sI (sI σ 183 0 v1) 183 1 v2) 183 2 v3) 183 3 x2) 183 4 x6).1 167 ((12 : Int32) + v1).toNatClampNeg)) 183 6 ((sI (sI (sI (sI (sI (sI σ 183 0 v1) 183 1 v2) 183 2 v3) 183 3 x2) 183 4 x6) 183 5 ((sI (sI (sI (sI (sI σ 183 0 v1) 183 1 v2) 183 2 v3) 183 3 x2) 183 4 x6).1 167 ((12 : Int32) + v1).toNatClampNeg)).1 167 ((12 : Int32) + v2).toNatClampNeg)).1 167 110)) 183 8 ((sI (sI (sI (sI (sI (sI (sI (sI σ 183 0 v1) 183 1 v2) 183 2 v3) 183 3 x2) 183 4 x6) 183 5 ((sI (sI (sI (sI (sI σ 183 0 v1) 183 1 v2) 183 2 v3) 183 3 x2) 183 4 x6).1 167 ((12 : Int32) + v1).toNatClampNeg)) 183 6 ((sI (sI (sI (sI (sI (sI σ 183 0 v1) 183 1 v2) 183 2 v3) 183 3 x2) 183 4 x6) 183 5 ((sI (sI (sI (sI (sI σ 183 0 v1) 183 1 v2) 183 2 v3) 183 3 x2) 183 4 x6).1 167 ((12 : Int32) + v1).toNatClampNeg)).1 167 ((12 : Int32) + v2).toNatClampNeg)) 183 7 ((sI (sI (sI (sI (sI (sI (sI σ 183 0 v1) 183 1 v2) 183 2 v3) 183 3 x2) 183 4 x6) 183 5 ((sI (sI (sI (sI (sI σ 183 0 v1) 183 1 v2) 183 2 v3) 183 3 x2) 183 4 x6).1 167 ((12 : Int32) + v1).toNatClampNeg)) 183 6 ((sI (sI (sI (sI (sI (sI σ 183 0 v1) 183 1 v2) 183 2 v3) 183 3 x2) 183 4 x6) 183 5 ((sI (sI (sI (sI (sI σ 183 0 v1) 183 1 v2) 183 2 v3) 183 3 x2) 183 4 x6).1 167 ((12 : Int32) + v1).toNatClampNeg)).1 167 ((12 : Int32) + v2).toNatClampNeg)).1 167 110)).1 167 ((36 : Int32) + v1).toNatClampNeg)) 183 9 ((sI (sI (sI (sI (sI (sI (sI (sI (sI σ 183 0 v1) 183 1 v2) 183 2 v3) 183 3 x2) 183 4 x6) 183 5 ((sI (sI (sI (sI (sI σ 183 0 v1) 183 1 v2) 183 2 v3) 183 3 x2) 183 4 x6).1 167 ((12 : Int32) + v1).toNatClampNeg)) 183 6 ((sI (sI (sI (sI (sI (sI σ 183 0 v1) 183 1 v2) 183 2 v3) 183 3 x2) 183 4 x6) 183 5 ((sI (sI (sI (sI (sI σ 183 0 v1) 183 1 v2) 183 2 v3) 183 3 x2) 183 4 x6).1 167 ((12 : Int32) + v1).toNatClampNeg)).1 167 ((12 : Int32) + v2).toNatClampNeg)) 183 7 ((sI (sI (sI (sI (sI (sI (sI σ 183 0 v1) 183 1 v2) 183 2 v3) 183 3 x2) 183 4 x6) 183 5 ((sI (sI (sI (sI (sI σ 183 0 v1) 183 1 v2) 183 2 v3) 183 3 x2) 183 4 x6).1 167 ((12 : Int32) + v1).toNatClampNeg)) 183 6 ((sI (sI (sI (sI (sI (sI σ 183 0 v1) 183 1 v2) 183 2 v3) 183 3 x2) 183 4 x6) 183 5 ((sI (sI (sI (sI (sI σ 183 0 v1) 183 1 v2) 183 2 v3) 183 3 x2) 183 4 x6).1 167 ((12 : Int32) + v1).toNatClampNeg)).1 167 ((12 : Int32) + v2).toNatClampNeg)).1 167 110)) 183 8 ((sI (sI (sI (sI (sI (sI (sI (sI σ 183 0 v1) 183 1 v2) 183 2 v3) 183 3 x2) 183 4 x6) 183 5 ((sI (sI (sI (sI (sI σ 183 0 v1) 183 1 v2) 183 2 v3) 183 3 x2) 183 4 x6).1 167 ((12 : Int32) + v1).toNatClampNeg)) 183 6 ((sI (sI (sI (sI (sI (sI σ 183 0 v1) 183 1 v2) 183 2 v3) 183 3 x2) 183 4 x6) 183 5 ((sI (sI (sI (sI (sI σ 183 0 v1) 183 1 v2) 183 2 v3) 183 3 x2) 183 4 x6).1 167 ((12 : Int32) + v1).toNatClampNeg)).1 167 ((12 : Int32) + v2).toNatClampNeg)) 183 7 ((sI (sI (sI (sI (sI (sI (sI σ 183 0 v1) 183 1 v2) 183 2 v3) 183 3 x2) 183 4 x6) 183 5 ((sI (sI (sI (sI (sI σ 183 0 v1) 183 1 v2) 183 2 v3) 183 3 x2) 183 4 x6).1 167 ((12 : Int32) + v1).toNatClampNeg)) 183 6 ((sI (sI (sI (sI (sI (sI σ 183 0 v1) 183 1 v2) 183 2 v3) 183 3 x2) 183 4 x6) 183 5 ((sI (sI (sI (sI (sI σ 183 0 v1) 183 1 v2) 183 2 v3) 183 3 x2) 183 4 x6).1 167 ((12 : Int32) + v1).toNatClampNeg)).1 167 ((12 : Int32) + v2).toNatClampNeg)).1 167 110)).1 167 ((36 : Int32) + v1).toNatClampNeg)).1 167 ((0 : Int32) + v1).toNatClampNeg)) 183 10 ((sI (sI (sI (sI (sI (sI (sI (sI (sI (sI σ 183 0 v1) 183 1 v2) 183 2 v3) 183 3 x2) 183 4 x6) 183 5 ((sI (sI (sI (sI (sI σ 183 0 v1) 183 1 v2) 183 2 v3) 183 3 x2) 183 4 x6).1 167 ((12 : Int32) + v1).toNatClampNeg)) 183 6 ((sI (sI (sI (sI (sI (sI σ 183 0 v1) 183 1 v2) 183 2 v3) 183 3 x2) 183 4 x6) 183 5 ((sI (sI (sI (sI (sI σ 183 0 v1) 183 1 v2) 183 2 v3) 183 3 x2) 183 4 x6).1 167 ((12 : Int32) + v1).toNatClampNeg)).1 167 ((12 : Int32) + v2).toNatClampNeg)) 183 7 ((sI (sI (sI (sI (sI (sI (sI σ 183 0 v1) 183 1 v2) 183 2 v3) 183 3 x2) 183 4 x6) 183 5 ((sI (sI (sI (sI (sI σ 183 0 v1) 183 1 v2) 183 2 v3) 183 3 x2) 183 4 x6).1 167 ((12 : Int32) + v1).toNatClampNeg)) 183 6 ((sI (sI (sI (sI (sI (sI σ 183 0 v1) 183 1 v2) 183 2 v3) 183 3 x2) 183 4 x6) 183 5 ((sI (sI (sI (sI (sI σ 183 0 v1) 183 1 v2) 183 2 v3) 183 3 x2) 183 4 x6).1 167 ((12 : Int32) + v1).toNatClampNeg)).1 167 ((12 : Int32) + v2).toNatClampNeg)).1 167 110)) 183 8 ((sI (sI (sI (sI (sI (sI (sI (sI σ 183 0 v1) 183 1 v2) 183 2 v3) 183 3 x2) 183 4 x6) 183 5 ((sI (sI (sI (sI (sI σ 183 0 v1) 183 1 v2) 183 2 v3) 183 3 x2) 183 4 x6).1 167 ((12 : Int32) + v1).toNatClampNeg)) 183 6 ((sI (sI (sI (sI (sI (sI σ 183 0 v1) 183 1 v2) 183 2 v3) 183 3 x2) 183 4 x6) 183 5 ((sI (sI (sI (sI (sI σ 183 0 v1) 183 1 v2) 183 2 v3) 183 3 x2) 183 4 x6).1 167 ((12 : Int32) + v1).toNatClampNeg)).1 167 ((12 : Int32) + v2).toNatClampNeg)) 183 7 ((sI (sI (sI (sI (sI (sI (sI σ 183 0 v1) 183 1 v2) 183 2 v3) 183 3 x2) 183 4 x6) 183 5 ((sI (sI (sI (sI (sI σ 183 0 v1) 183 1 v2) 183 2 v3) 183 3 x2) 183 4 x6).1 167 ((12 : Int32) + v1).toNatClampNeg)) 183 6 ((sI (sI (sI (sI (sI (sI σ 183 0 v1) 183 1 v2) 183 2 v3) 183 3 x2) 183 4 x6) 183 5 ((sI (sI (sI (sI (sI σ 183 0 v1) 183 1 v2) 183 2 v3) 183 3 x2) 183 4 x6).1 167 ((12 : Int32) + v1).toNatClampNeg)).1 167 ((12 : Int32) + v2).toNatClampNeg)).1 167 110)).1 167 ((36 : Int32) + v1).toNatClampNeg)) 183 9 ((sI (sI (sI (sI (sI (sI (sI (sI (sI σ 183 0 v1) 183 1 v2) 183 2 v3) 183 3 x2) 183 4 x6) 183 5 ((sI (sI (sI (sI (sI σ 183 0 v1) 183 1 v2) 183 2 v3) 183 3 x2) 183 4 x6).1 167 ((12 : Int32) + v1).toNatClampNeg)) 183 6 ((sI (sI (sI (sI (sI (sI σ 183 0 v1) 183 1 v2) 183 2 v3) 183 3 x2) 183 4 x6) 183 5 ((sI (sI (sI (sI (sI σ 183 0 v1) 183 1 v2) 183 2 v3) 183 3 x2) 183 4 x6).1 167 ((12 : Int32) + v1).toNatClampNeg)).1 167 ((12 : Int32) + v2).toNatClampNeg)) 183 7 ((sI (sI (sI (sI (sI (sI (sI σ 183 0 v1) 183 1 v2) 183 2 v3) 183 3 x2) 183 4 x6) 183 5 ((sI (sI (sI (sI (sI σ 183 0 v1) 183 1 v2) 183 2 v3) 183 3 x2) 183 4 x6).1 167 ((12 : Int32) + v1).toNatClampNeg)) 183 6 ((sI (sI (sI (sI (sI (sI σ 183 0 v1) 183 1 v2) 183 2 v3) 183 3 x2) 183 4 x6) 183 5 ((sI (sI (sI (sI (sI σ 183 0 v1) 183 1 v2) 183 2 v3) 183 3 x2) 183 4 x6).1 167 ((12 : Int32) + v1).toNatClampNeg)).1 167 ((12 : Int32) + v2).toNatClampNeg)).1 167 110)) 183 8 ((sI (sI (sI (sI (sI (sI (sI (sI σ 183 0 v1) 183 1 v2) 183 2 v3) 183 3 x2) 183 4 x6) 183 5 ((sI (sI (sI (sI (sI σ 183 0 v1) 183 1 v2) 183 2 v3) 183 3 x2) 183 4 x6).1 167 ((12 : Int32) + v1).toNatClampNeg)) 183 6 ((sI (sI (sI (sI (sI (sI σ 183 0 v1) 183 1 v2) 183 2 v3) 183 3 x2) 183 4 x6) 183 5 ((sI (sI (sI (sI (sI σ 183 0 v1) 183 1 v2) 183 2 v3) 183 3 x2) 183 4 x6).1 167 ((12 : Int32) + v1).toNatClampNeg)).1 167 ((12 : Int32) + v2).toNatClampNeg)) 183 7 ((sI (sI (sI (sI (sI (sI (sI σ 183 0 v1) 183 1 v2) 183 2 v3) 183 3 x2) 183 4 x6) 183 5 ((sI (sI (sI (sI (sI σ 183 0 v1) 183 1 v2) 183 2 v3) 183 3 x2) 183 4 x6).1 167 ((12 : Int32) + v1).toNatClampNeg)) 183 6 ((sI (sI (sI (sI (sI (sI σ 183 0 v1) 183 1 v2) 183 2 v3) 183 3 x2) 183 4 x6) 183 5 ((sI (sI (sI (sI (sI σ 183 0 v1) 183 1 v2) 183 2 v3) 183 3 x2) 183 4 x6).1 167 ((12 : Int32) + v1).toNatClampNeg)).1 167 ((12 : Int32) + v2).toNatClampNeg)).1 167 110)).1 167 ((36 : Int32) + v1).toNatClampNeg)).1 167 ((0 : Int32) + v1).toNatClampNeg)).1 167 ((0 : Int32) + v2).toNatClampNeg)) else none else none else none else none else none else none else none
set_option maxRecDepth 20000 in
set_option maxHeartbeats 2000000 in
theorem t_Md_feels0 (v1 : Int32) (v2 : Int32) (v3 : Int32)  (σ : MH) {o} (h : Md_feels0 v1 v2 v3 σ = some o) : Go m_Md_feels 2 (some 0, [some (.ref 166), some (.int v1), some (.int v2), some (.int v3)], [], σ) ((none, [], [], o)) := by
  unfold Md_feels0 at h
  obtain ⟨g1, h⟩ := gdS h
  refine Go.t (Go_sg bk_Md_feels 0 24 (c2 := (some 35, [some (.ref 166), some (.int v1), some (.int v2), some (.int v3)], [.int ((sI (sI (sI σ 183 0 v1) 183 1 v2) 183 2 v3).1 167 ((48 : Int32) + v1).toNatClampNeg), .int (3 : Int32), .ref 183], sI (sI (sI σ 183 0 v1) 183 1 v2) 183 2 v3)) (ps := [shk 166 = 11, IA 183 11 ∧ inb (0 : Int32) 11 = true, shk 166 = 11, IA 183 11 ∧ inb (1 : Int32) 11 = true, shk 166 = 11, IA 183 11 ∧ inb (2 : Int32) 11 = true, shk 166 = 11, shk 166 = 11, IA 167 1936 ∧ inb ((48 : Int32) + v1) 1936 = true]) rfl ⟨rfl, ⟨⟨rfl, rfl⟩, (inbN 0 11 rfl)⟩, rfl, ⟨⟨rfl, rfl⟩, (inbN 1 11 rfl)⟩, rfl, ⟨⟨rfl, rfl⟩, (inbN 2 11 rfl)⟩, rfl, rfl, ⟨⟨rfl, rfl⟩, g1⟩, trivial⟩) ?_
  obtain ⟨x2, q4, h⟩ := bdS h
  refine Go.t (Go_callS bk_Md_feels 24 rfl nk_Md_bits tw1565 tw1566 (as := [.int ((sI (sI (sI σ 183 0 v1) 183 1 v2) 183 2 v3).1 167 ((48 : Int32) + v1).toNatClampNeg)]) (S := [.int (3 : Int32), .ref 183]) rfl rfl rfl (Nat.le_of_ble_eq_true rfl) (Nat.le_of_ble_eq_true rfl) (ev_Md_bits _ _ q4)) ?_
  obtain ⟨g5, h⟩ := gdS h
  refine Go.t (Go_sg bk_Md_feels 25 10 (c2 := (some 53, [some (.ref 166), some (.int v1), some (.int v2), some (.int v3)], [.int ((sI (sI (sI (sI σ 183 0 v1) 183 1 v2) 183 2 v3) 183 3 x2).1 167 ((48 : Int32) + v2).toNatClampNeg), .int (4 : Int32), .ref 183], sI (sI (sI (sI σ 183 0 v1) 183 1 v2) 183 2 v3) 183 3 x2)) (ps := [IA 183 11 ∧ inb (3 : Int32) 11 = true, shk 166 = 11, shk 166 = 11, IA 167 1936 ∧ inb ((48 : Int32) + v2) 1936 = true]) rfl ⟨⟨⟨rfl, rfl⟩, (inbN 3 11 rfl)⟩, rfl, rfl, ⟨⟨rfl, rfl⟩, g5⟩, trivial⟩) ?_
  obtain ⟨x6, q8, h⟩ := bdS h
  refine Go.t (Go_callS bk_Md_feels 35 rfl nk_Md_bits tw1565 tw1566 (as := [.int ((sI (sI (sI (sI σ 183 0 v1) 183 1 v2) 183 2 v3) 183 3 x2).1 167 ((48 : Int32) + v2).toNatClampNeg)]) (S := [.int (4 : Int32), .ref 183]) rfl rfl rfl (Nat.le_of_ble_eq_true rfl) (Nat.le_of_ble_eq_true rfl) (ev_Md_bits _ _ q8)) ?_
  obtain ⟨g9, h⟩ := gdS h
  obtain ⟨g10, h⟩ := gdS h
  obtain ⟨g11, h⟩ := gdS h
  obtain ⟨g12, h⟩ := gdS h
  obtain ⟨g13, h⟩ := gdS h
  have h := Option.some.inj h
  subst h
  refine Go.t (Go_sg bk_Md_feels 36 59 (c2 := (some 148, [some (.ref 166), some (.int v1), some (.int v2), some (.int v3)], [], sI (sI (sI (sI (sI (sI (sI (sI (sI (sI (sI σ 183 0 v1) 183 1 v2) 183 2 v3) 183 3 x2) 183 4 x6) 183 5 ((sI (sI (sI (sI (sI σ 183 0 v1) 183 1 v2) 183 2 v3) 183 3 x2) 183 4 x6).1 167 ((12 : Int32) + v1).toNatClampNeg)) 183 6 ((sI (sI (sI (sI (sI (sI σ 183 0 v1) 183 1 v2) 183 2 v3) 183 3 x2) 183 4 x6) 183 5 ((sI (sI (sI (sI (sI σ 183 0 v1) 183 1 v2) 183 2 v3) 183 3 x2) 183 4 x6).1 167 ((12 : Int32) + v1).toNatClampNeg)).1 167 ((12 : Int32) + v2).toNatClampNeg)) 183 7 ((sI (sI (sI (sI (sI (sI (sI σ 183 0 v1) 183 1 v2) 183 2 v3) 183 3 x2) 183 4 x6) 183 5 ((sI (sI (sI (sI (sI σ 183 0 v1) 183 1 v2) 183 2 v3) 183 3 x2) 183 4 x6).1 167 ((12 : Int32) + v1).toNatClampNeg)) 183 6 ((sI (sI (sI (sI (sI (sI σ 183 0 v1) 183 1 v2) 183 2 v3) 183 3 x2) 183 4 x6) 183 5 ((sI (sI (sI (sI (sI σ 183 0 v1) 183 1 v2) 183 2 v3) 183 3 x2) 183 4 x6).1 167 ((12 : Int32) + v1).toNatClampNeg)).1 167 ((12 : Int32) + v2).toNatClampNeg)).1 167 110)) 183 8 ((sI (sI (sI (sI (sI (sI (sI (sI σ 183 0 v1) 183 1 v2) 183 2 v3) 183 3 x2) 183 4 x6) 183 5 ((sI (sI (sI (sI (sI σ 183 0 v1) 183 1 v2) 183 2 v3) 183 3 x2) 183 4 x6).1 167 ((12 : Int32) + v1).toNatClampNeg)) 183 6 ((sI (sI (sI (sI (sI (sI σ 183 0 v1) 183 1 v2) 183 2 v3) 183 3 x2) 183 4 x6) 183 5 ((sI (sI (sI (sI (sI σ 183 0 v1) 183 1 v2) 183 2 v3) 183 3 x2) 183 4 x6).1 167 ((12 : Int32) + v1).toNatClampNeg)).1 167 ((12 : Int32) + v2).toNatClampNeg)) 183 7 ((sI (sI (sI (sI (sI (sI (sI σ 183 0 v1) 183 1 v2) 183 2 v3) 183 3 x2) 183 4 x6) 183 5 ((sI (sI (sI (sI (sI σ 183 0 v1) 183 1 v2) 183 2 v3) 183 3 x2) 183 4 x6).1 167 ((12 : Int32) + v1).toNatClampNeg)) 183 6 ((sI (sI (sI (sI (sI (sI σ 183 0 v1) 183 1 v2) 183 2 v3) 183 3 x2) 183 4 x6) 183 5 ((sI (sI (sI (sI (sI σ 183 0 v1) 183 1 v2) 183 2 v3) 183 3 x2) 183 4 x6).1 167 ((12 : Int32) + v1).toNatClampNeg)).1 167 ((12 : Int32) + v2).toNatClampNeg)).1 167 110)).1 167 ((36 : Int32) + v1).toNatClampNeg)) 183 9 ((sI (sI (sI (sI (sI (sI (sI (sI (sI σ 183 0 v1) 183 1 v2) 183 2 v3) 183 3 x2) 183 4 x6) 183 5 ((sI (sI (sI (sI (sI σ 183 0 v1) 183 1 v2) 183 2 v3) 183 3 x2) 183 4 x6).1 167 ((12 : Int32) + v1).toNatClampNeg)) 183 6 ((sI (sI (sI (sI (sI (sI σ 183 0 v1) 183 1 v2) 183 2 v3) 183 3 x2) 183 4 x6) 183 5 ((sI (sI (sI (sI (sI σ 183 0 v1) 183 1 v2) 183 2 v3) 183 3 x2) 183 4 x6).1 167 ((12 : Int32) + v1).toNatClampNeg)).1 167 ((12 : Int32) + v2).toNatClampNeg)) 183 7 ((sI (sI (sI (sI (sI (sI (sI σ 183 0 v1) 183 1 v2) 183 2 v3) 183 3 x2) 183 4 x6) 183 5 ((sI (sI (sI (sI (sI σ 183 0 v1) 183 1 v2) 183 2 v3) 183 3 x2) 183 4 x6).1 167 ((12 : Int32) + v1).toNatClampNeg)) 183 6 ((sI (sI (sI (sI (sI (sI σ 183 0 v1) 183 1 v2) 183 2 v3) 183 3 x2) 183 4 x6) 183 5 ((sI (sI (sI (sI (sI σ 183 0 v1) 183 1 v2) 183 2 v3) 183 3 x2) 183 4 x6).1 167 ((12 : Int32) + v1).toNatClampNeg)).1 167 ((12 : Int32) + v2).toNatClampNeg)).1 167 110)) 183 8 ((sI (sI (sI (sI (sI (sI (sI (sI σ 183 0 v1) 183 1 v2) 183 2 v3) 183 3 x2) 183 4 x6) 183 5 ((sI (sI (sI (sI (sI σ 183 0 v1) 183 1 v2) 183 2 v3) 183 3 x2) 183 4 x6).1 167 ((12 : Int32) + v1).toNatClampNeg)) 183 6 ((sI (sI (sI (sI (sI (sI σ 183 0 v1) 183 1 v2) 183 2 v3) 183 3 x2) 183 4 x6) 183 5 ((sI (sI (sI (sI (sI σ 183 0 v1) 183 1 v2) 183 2 v3) 183 3 x2) 183 4 x6).1 167 ((12 : Int32) + v1).toNatClampNeg)).1 167 ((12 : Int32) + v2).toNatClampNeg)) 183 7 ((sI (sI (sI (sI (sI (sI (sI σ 183 0 v1) 183 1 v2) 183 2 v3) 183 3 x2) 183 4 x6) 183 5 ((sI (sI (sI (sI (sI σ 183 0 v1) 183 1 v2) 183 2 v3) 183 3 x2) 183 4 x6).1 167 ((12 : Int32) + v1).toNatClampNeg)) 183 6 ((sI (sI (sI (sI (sI (sI σ 183 0 v1) 183 1 v2) 183 2 v3) 183 3 x2) 183 4 x6) 183 5 ((sI (sI (sI (sI (sI σ 183 0 v1) 183 1 v2) 183 2 v3) 183 3 x2) 183 4 x6).1 167 ((12 : Int32) + v1).toNatClampNeg)).1 167 ((12 : Int32) + v2).toNatClampNeg)).1 167 110)).1 167 ((36 : Int32) + v1).toNatClampNeg)).1 167 ((0 : Int32) + v1).toNatClampNeg)) 183 10 ((sI (sI (sI (sI (sI (sI (sI (sI (sI (sI σ 183 0 v1) 183 1 v2) 183 2 v3) 183 3 x2) 183 4 x6) 183 5 ((sI (sI (sI (sI (sI σ 183 0 v1) 183 1 v2) 183 2 v3) 183 3 x2) 183 4 x6).1 167 ((12 : Int32) + v1).toNatClampNeg)) 183 6 ((sI (sI (sI (sI (sI (sI σ 183 0 v1) 183 1 v2) 183 2 v3) 183 3 x2) 183 4 x6) 183 5 ((sI (sI (sI (sI (sI σ 183 0 v1) 183 1 v2) 183 2 v3) 183 3 x2) 183 4 x6).1 167 ((12 : Int32) + v1).toNatClampNeg)).1 167 ((12 : Int32) + v2).toNatClampNeg)) 183 7 ((sI (sI (sI (sI (sI (sI (sI σ 183 0 v1) 183 1 v2) 183 2 v3) 183 3 x2) 183 4 x6) 183 5 ((sI (sI (sI (sI (sI σ 183 0 v1) 183 1 v2) 183 2 v3) 183 3 x2) 183 4 x6).1 167 ((12 : Int32) + v1).toNatClampNeg)) 183 6 ((sI (sI (sI (sI (sI (sI σ 183 0 v1) 183 1 v2) 183 2 v3) 183 3 x2) 183 4 x6) 183 5 ((sI (sI (sI (sI (sI σ 183 0 v1) 183 1 v2) 183 2 v3) 183 3 x2) 183 4 x6).1 167 ((12 : Int32) + v1).toNatClampNeg)).1 167 ((12 : Int32) + v2).toNatClampNeg)).1 167 110)) 183 8 ((sI (sI (sI (sI (sI (sI (sI (sI σ 183 0 v1) 183 1 v2) 183 2 v3) 183 3 x2) 183 4 x6) 183 5 ((sI (sI (sI (sI (sI σ 183 0 v1) 183 1 v2) 183 2 v3) 183 3 x2) 183 4 x6).1 167 ((12 : Int32) + v1).toNatClampNeg)) 183 6 ((sI (sI (sI (sI (sI (sI σ 183 0 v1) 183 1 v2) 183 2 v3) 183 3 x2) 183 4 x6) 183 5 ((sI (sI (sI (sI (sI σ 183 0 v1) 183 1 v2) 183 2 v3) 183 3 x2) 183 4 x6).1 167 ((12 : Int32) + v1).toNatClampNeg)).1 167 ((12 : Int32) + v2).toNatClampNeg)) 183 7 ((sI (sI (sI (sI (sI (sI (sI σ 183 0 v1) 183 1 v2) 183 2 v3) 183 3 x2) 183 4 x6) 183 5 ((sI (sI (sI (sI (sI σ 183 0 v1) 183 1 v2) 183 2 v3) 183 3 x2) 183 4 x6).1 167 ((12 : Int32) + v1).toNatClampNeg)) 183 6 ((sI (sI (sI (sI (sI (sI σ 183 0 v1) 183 1 v2) 183 2 v3) 183 3 x2) 183 4 x6) 183 5 ((sI (sI (sI (sI (sI σ 183 0 v1) 183 1 v2) 183 2 v3) 183 3 x2) 183 4 x6).1 167 ((12 : Int32) + v1).toNatClampNeg)).1 167 ((12 : Int32) + v2).toNatClampNeg)).1 167 110)).1 167 ((36 : Int32) + v1).toNatClampNeg)) 183 9 ((sI (sI (sI (sI (sI (sI (sI (sI (sI σ 183 0 v1) 183 1 v2) 183 2 v3) 183 3 x2) 183 4 x6) 183 5 ((sI (sI (sI (sI (sI σ 183 0 v1) 183 1 v2) 183 2 v3) 183 3 x2) 183 4 x6).1 167 ((12 : Int32) + v1).toNatClampNeg)) 183 6 ((sI (sI (sI (sI (sI (sI σ 183 0 v1) 183 1 v2) 183 2 v3) 183 3 x2) 183 4 x6) 183 5 ((sI (sI (sI (sI (sI σ 183 0 v1) 183 1 v2) 183 2 v3) 183 3 x2) 183 4 x6).1 167 ((12 : Int32) + v1).toNatClampNeg)).1 167 ((12 : Int32) + v2).toNatClampNeg)) 183 7 ((sI (sI (sI (sI (sI (sI (sI σ 183 0 v1) 183 1 v2) 183 2 v3) 183 3 x2) 183 4 x6) 183 5 ((sI (sI (sI (sI (sI σ 183 0 v1) 183 1 v2) 183 2 v3) 183 3 x2) 183 4 x6).1 167 ((12 : Int32) + v1).toNatClampNeg)) 183 6 ((sI (sI (sI (sI (sI (sI σ 183 0 v1) 183 1 v2) 183 2 v3) 183 3 x2) 183 4 x6) 183 5 ((sI (sI (sI (sI (sI σ 183 0 v1) 183 1 v2) 183 2 v3) 183 3 x2) 183 4 x6).1 167 ((12 : Int32) + v1).toNatClampNeg)).1 167 ((12 : Int32) + v2).toNatClampNeg)).1 167 110)) 183 8 ((sI (sI (sI (sI (sI (sI (sI (sI σ 183 0 v1) 183 1 v2) 183 2 v3) 183 3 x2) 183 4 x6) 183 5 ((sI (sI (sI (sI (sI σ 183 0 v1) 183 1 v2) 183 2 v3) 183 3 x2) 183 4 x6).1 167 ((12 : Int32) + v1).toNatClampNeg)) 183 6 ((sI (sI (sI (sI (sI (sI σ 183 0 v1) 183 1 v2) 183 2 v3) 183 3 x2) 183 4 x6) 183 5 ((sI (sI (sI (sI (sI σ 183 0 v1) 183 1 v2) 183 2 v3) 183 3 x2) 183 4 x6).1 167 ((12 : Int32) + v1).toNatClampNeg)).1 167 ((12 : Int32) + v2).toNatClampNeg)) 183 7 ((sI (sI (sI (sI (sI (sI (sI σ 183 0 v1) 183 1 v2) 183 2 v3) 183 3 x2) 183 4 x6) 183 5 ((sI (sI (sI (sI (sI σ 183 0 v1) 183 1 v2) 183 2 v3) 183 3 x2) 183 4 x6).1 167 ((12 : Int32) + v1).toNatClampNeg)) 183 6 ((sI (sI (sI (sI (sI (sI σ 183 0 v1) 183 1 v2) 183 2 v3) 183 3 x2) 183 4 x6) 183 5 ((sI (sI (sI (sI (sI σ 183 0 v1) 183 1 v2) 183 2 v3) 183 3 x2) 183 4 x6).1 167 ((12 : Int32) + v1).toNatClampNeg)).1 167 ((12 : Int32) + v2).toNatClampNeg)).1 167 110)).1 167 ((36 : Int32) + v1).toNatClampNeg)).1 167 ((0 : Int32) + v1).toNatClampNeg)).1 167 ((0 : Int32) + v2).toNatClampNeg))) (ps := [IA 183 11 ∧ inb (4 : Int32) 11 = true, shk 166 = 11, shk 166 = 11, IA 167 1936 ∧ inb ((12 : Int32) + v1) 1936 = true, IA 183 11 ∧ inb (5 : Int32) 11 = true, shk 166 = 11, shk 166 = 11, IA 167 1936 ∧ inb ((12 : Int32) + v2) 1936 = true, IA 183 11 ∧ inb (6 : Int32) 11 = true, shk 166 = 11, shk 166 = 11, IA 167 1936 ∧ inb (110 : Int32) 1936 = true, IA 183 11 ∧ inb (7 : Int32) 11 = true, shk 166 = 11, shk 166 = 11, IA 167 1936 ∧ inb ((36 : Int32) + v1) 1936 = true, IA 183 11 ∧ inb (8 : Int32) 11 = true, shk 166 = 11, shk 166 = 11, IA 167 1936 ∧ inb ((0 : Int32) + v1) 1936 = true, IA 183 11 ∧ inb (9 : Int32) 11 = true, shk 166 = 11, shk 166 = 11, IA 167 1936 ∧ inb ((0 : Int32) + v2) 1936 = true, IA 183 11 ∧ inb (10 : Int32) 11 = true]) rfl ⟨⟨⟨rfl, rfl⟩, (inbN 4 11 rfl)⟩, rfl, rfl, ⟨⟨rfl, rfl⟩, g9⟩, ⟨⟨rfl, rfl⟩, (inbN 5 11 rfl)⟩, rfl, rfl, ⟨⟨rfl, rfl⟩, g10⟩, ⟨⟨rfl, rfl⟩, (inbN 6 11 rfl)⟩, rfl, rfl, ⟨⟨rfl, rfl⟩, (inbN 110 1936 rfl)⟩, ⟨⟨rfl, rfl⟩, (inbN 7 11 rfl)⟩, rfl, rfl, ⟨⟨rfl, rfl⟩, g11⟩, ⟨⟨rfl, rfl⟩, (inbN 8 11 rfl)⟩, rfl, rfl, ⟨⟨rfl, rfl⟩, g12⟩, ⟨⟨rfl, rfl⟩, (inbN 9 11 rfl)⟩, rfl, rfl, ⟨⟨rfl, rfl⟩, g13⟩, ⟨⟨rfl, rfl⟩, (inbN 10 11 rfl)⟩, trivial⟩) ?_
  exact Go_ret0 bk_Md_feels 95 rfl
def Md_feels (v1 : Int32) (v2 : Int32) (v3 : Int32) (σ : MH) : Option (MH) := Md_feels0 v1 v2 v3 σ
set_option maxRecDepth 20000 in
set_option maxHeartbeats 2000000 in
theorem ev_Md_feels (v1 : Int32) (v2 : Int32) (v3 : Int32)  (σ : MH) {o} (h : Md_feels v1 v2 v3 σ = some o) : Ev m_Md_feels 2 [.ref 166, .int v1, .int v2, .int v3] σ none o := Ev.of2 (by decide +kernel) rfl (Nat.le_of_ble_eq_true rfl) rfl (t_Md_feels0 v1 v2 v3 σ h)
set_option maxRecDepth 20000 in
set_option maxHeartbeats 2000000 in
theorem dt_Md_reckon_1 : decode m_Md_reckon.2.1 1 = .ok (.tableswitch 85 2 8 #[43, 47, 51, 55, 59, 63, 74], 43) := by decide +kernel
def Md_reckon0 (v0 : Int32) (v1 : Int32) (v2 : Int32) (σ : MH) : Option (Int32) := if v0 = (2 : Int32) then some (v1 + v2) else if v0 = (3 : Int32) then some (v1 - v2) else if v0 = (4 : Int32) then some (v1 * v2) else if v0 = (5 : Int32) then (if (v2 != 0) = true then some (v1 / v2) else none) else if v0 = (6 : Int32) then (if (v2 != 0) = true then some (jrem v1 v2) else none) else if v0 = (7 : Int32) then (if v2 ≤ v1 then some ((0 : Int32)) else some ((1 : Int32))) else if v0 = (8 : Int32) then (if v1 ≤ v2 then some ((0 : Int32)) else some ((1 : Int32))) else (if v1 = v2 then some ((1 : Int32)) else some ((0 : Int32)))
set_option maxRecDepth 20000 in
set_option maxHeartbeats 2000000 in
theorem t_Md_reckon0 (v0 : Int32) (v1 : Int32) (v2 : Int32)  (σ : MH) {o} (h : Md_reckon0 v0 v1 v2 σ = some o) : Go m_Md_reckon 1 (some 0, [some (.int v0), some (.int v1), some (.int v2)], [], σ) ((none, [], [.int o], σ)) := by
  unfold Md_reckon0 at h
  refine Go.t (Go_sg bk_Md_reckon 0 1 (c2 := (some 1, [some (.int v0), some (.int v1), some (.int v2)], [.int v0], σ)) (ps := []) rfl trivial) ?_
  by_cases c1 : v0 = (2 : Int32)
  · have h := ifT c1 h
    refine Go.t (Go_tsi dt_Md_reckon_1 (tsw_in c1 2 8 rfl).1 (tsw_in c1 2 8 rfl).2 (by rw [c1]; rfl) (tgt := 44) (by decide)) ?_
    have h := Option.some.inj h
    subst h
    refine Go.t (Go_sg bk_Md_reckon 1 3 (c2 := (some 47, [some (.int v0), some (.int v1), some (.int v2)], [.int (v1 + v2)], σ)) (ps := []) rfl trivial) ?_
    exact Go_reti bk_Md_reckon 4 rfl
  have h := ifF c1 h
  by_cases c2 : v0 = (3 : Int32)
  · have h := ifT c2 h
    refine Go.t (Go_tsi dt_Md_reckon_1 (tsw_in c2 2 8 rfl).1 (tsw_in c2 2 8 rfl).2 (by rw [c2]; rfl) (tgt := 48) (by decide)) ?_
    have h := Option.some.inj h
    subst h
    refine Go.t (Go_sg bk_Md_reckon 5 3 (c2 := (some 51, [some (.int v0), some (.int v1), some (.int v2)], [.int (v1 - v2)], σ)) (ps := []) rfl trivial) ?_
    exact Go_reti bk_Md_reckon 8 rfl
  have h := ifF c2 h
  by_cases c3 : v0 = (4 : Int32)
  · have h := ifT c3 h
    refine Go.t (Go_tsi dt_Md_reckon_1 (tsw_in c3 2 8 rfl).1 (tsw_in c3 2 8 rfl).2 (by rw [c3]; rfl) (tgt := 52) (by decide)) ?_
    have h := Option.some.inj h
    subst h
    refine Go.t (Go_sg bk_Md_reckon 9 3 (c2 := (some 55, [some (.int v0), some (.int v1), some (.int v2)], [.int (v1 * v2)], σ)) (ps := []) rfl trivial) ?_
    exact Go_reti bk_Md_reckon 12 rfl
  have h := ifF c3 h
  by_cases c5 : v0 = (5 : Int32)
  · have h := ifT c5 h
    refine Go.t (Go_tsi dt_Md_reckon_1 (tsw_in c5 2 8 rfl).1 (tsw_in c5 2 8 rfl).2 (by rw [c5]; rfl) (tgt := 56) (by decide)) ?_
    obtain ⟨g4, h⟩ := gdS h
    have h := Option.some.inj h
    subst h
    refine Go.t (Go_sg bk_Md_reckon 13 3 (c2 := (some 59, [some (.int v0), some (.int v1), some (.int v2)], [.int (v1 / v2)], σ)) (ps := [v2 ≠ 0]) rfl ⟨(nzB g4), trivial⟩) ?_
    exact Go_reti bk_Md_reckon 16 rfl
  have h := ifF c5 h
  by_cases c7 : v0 = (6 : Int32)
  · have h := ifT c7 h
    refine Go.t (Go_tsi dt_Md_reckon_1 (tsw_in c7 2 8 rfl).1 (tsw_in c7 2 8 rfl).2 (by rw [c7]; rfl) (tgt := 60) (by decide)) ?_
    obtain ⟨g6, h⟩ := gdS h
    have h := Option.some.inj h
    subst h
    refine Go.t (Go_sg bk_Md_reckon 17 3 (c2 := (some 63, [some (.int v0), some (.int v1), some (.int v2)], [.int (jrem v1 v2)], σ)) (ps := [v2 ≠ 0]) rfl ⟨(nzB g6), trivial⟩) ?_
    exact Go_reti bk_Md_reckon 20 rfl
  have h := ifF c7 h
  by_cases c9 : v0 = (7 : Int32)
  · have h := ifT c9 h
    refine Go.t (Go_tsi dt_Md_reckon_1 (tsw_in c9 2 8 rfl).1 (tsw_in c9 2 8 rfl).2 (by rw [c9]; rfl) (tgt := 64) (by decide)) ?_
    refine Go.t (Go_sg bk_Md_reckon 21 2 (c2 := (some 66, [some (.int v0), some (.int v1), some (.int v2)], [.int v2, .int v1], σ)) (ps := []) rfl trivial) ?_
    refine Go_icmp_ge bk_Md_reckon 23 rfl (fun c8 => ?_) (fun c8 => ?_)
    · have h := ifT c8 h
      have h := Option.some.inj h
      subst h
      refine Go.t (Go_sg bk_Md_reckon 26 1 (c2 := (some 74, [some (.int v0), some (.int v1), some (.int v2)], [.int (0 : Int32)], σ)) (ps := []) rfl trivial) ?_
      exact Go_reti bk_Md_reckon 27 rfl
    · have h := ifF c8 h
      refine Go.t (Go_sg bk_Md_reckon 24 2 (c2 := (some 74, [some (.int v0), some (.int v1), some (.int v2)], [.int (1 : Int32)], σ)) (ps := []) rfl trivial) ?_
      have h := Option.some.inj h
      subst h
      exact Go_reti bk_Md_reckon 27 rfl
  have h := ifF c9 h
  by_cases c11 : v0 = (8 : Int32)
  · have h := ifT c11 h
    refine Go.t (Go_tsi dt_Md_reckon_1 (tsw_in c11 2 8 rfl).1 (tsw_in c11 2 8 rfl).2 (by rw [c11]; rfl) (tgt := 75) (by decide)) ?_
    refine Go.t (Go_sg bk_Md_reckon 28 2 (c2 := (some 77, [some (.int v0), some (.int v1), some (.int v2)], [.int v2, .int v1], σ)) (ps := []) rfl trivial) ?_
    refine Go_icmp_le bk_Md_reckon 30 rfl (fun c10 => ?_) (fun c10 => ?_)
    · have h := ifT c10 h
      have h := Option.some.inj h
      subst h
      refine Go.t (Go_sg bk_Md_reckon 33 1 (c2 := (some 85, [some (.int v0), some (.int v1), some (.int v2)], [.int (0 : Int32)], σ)) (ps := []) rfl trivial) ?_
      exact Go_reti bk_Md_reckon 34 rfl
    · have h := ifF c10 h
      refine Go.t (Go_sg bk_Md_reckon 31 2 (c2 := (some 85, [some (.int v0), some (.int v1), some (.int v2)], [.int (1 : Int32)], σ)) (ps := []) rfl trivial) ?_
      have h := Option.some.inj h
      subst h
      exact Go_reti bk_Md_reckon 34 rfl
  have h := ifF c11 h
  have hdf : Go m_Md_reckon 1 (some 1, [some (.int v0), some (.int v1), some (.int v2)], [.int v0], σ) (some 86, [some (.int v0), some (.int v1), some (.int v2)], [], σ) := by
    by_cases hlo : v0.toInt < 2
    · exact Go_tso dt_Md_reckon_1 (Or.inl hlo) (by decide)
    · by_cases hhi : 8 < v0.toInt
      · exact Go_tso dt_Md_reckon_1 (Or.inr hhi) (by decide)
      · exact absurd (tsw_all v0 2 8 [2, 3, 4, 5, 6, 7, 8] (by decide) hlo hhi) (fun q => by simp only [List.mem_cons, List.not_mem_nil, or_false] at q; rcases q with q | q | q | q | q | q | q <;> contradiction)
  refine Go.t hdf ?_
  refine Go.t (Go_sg bk_Md_reckon 35 2 (c2 := (some 88, [some (.int v0), some (.int v1), some (.int v2)], [.int v2, .int v1], σ)) (ps := []) rfl trivial) ?_
  refine Go_icmp_ne bk_Md_reckon 37 rfl (fun c12 => ?_) (fun c12 => ?_)
  · have h := ifF c12 h
    have h := Option.some.inj h
    subst h
    refine Go.t (Go_sg bk_Md_reckon 40 1 (c2 := (some 96, [some (.int v0), some (.int v1), some (.int v2)], [.int (0 : Int32)], σ)) (ps := []) rfl trivial) ?_
    exact Go_reti bk_Md_reckon 41 rfl
  · have h := ifT c12 h
    refine Go.t (Go_sg bk_Md_reckon 38 2 (c2 := (some 96, [some (.int v0), some (.int v1), some (.int v2)], [.int (1 : Int32)], σ)) (ps := []) rfl trivial) ?_
    have h := Option.some.inj h
    subst h
    exact Go_reti bk_Md_reckon 41 rfl
def Md_reckon (v0 : Int32) (v1 : Int32) (v2 : Int32) (σ : MH) : Option (Int32) := Md_reckon0 v0 v1 v2 σ
set_option maxRecDepth 20000 in
set_option maxHeartbeats 2000000 in
theorem ev_Md_reckon (v0 : Int32) (v1 : Int32) (v2 : Int32)  (σ : MH) {o} (h : Md_reckon v0 v1 v2 σ = some o) : Ev m_Md_reckon 1 [.int v0, .int v1, .int v2] σ (some (.int o)) σ := Ev.of2 (by decide +kernel) rfl (Nat.le_of_ble_eq_true rfl) ⟨.int, rfl, rfl⟩ (t_Md_reckon0 v0 v1 v2 σ h)
def cH_Md_comesTo_16 (v2 : Int32) (v4 : Int32) (s : Int32 × Int32 × MH) : MC := (some 16, [some (.ref 166), none, some (.int v2), some (.int s.1), some (.int v4), some (.int s.2.1), none, none], [], s.2.2)
def cR_Md_comesTo_16 (v2 : Int32) (v4 : Int32) : ((MH) ⊕ (Int32 × MH)) → MC := (cS (fun r : MH => ((some 233, [some (.ref 166), none, none, none, none, none, none, none], [], r) : MC)) (fun r : Int32 × MH => ((none, [], [.int r.1], r.2) : MC)))
def Md_comesTo_b230 (v2 : Int32) (v3 : Int32) (v4 : Int32) (v5 : Int32) (σ : MH) : Option (((Int32 × Int32 × MH) ⊕ ((MH) ⊕ (Int32 × MH)))) := some (.inl (v3, v5, σ))
set_option maxRecDepth 20000 in
set_option maxHeartbeats 2000000 in
theorem t_Md_comesTo_b230 (v2 : Int32) (v3 : Int32) (v4 : Int32) (v5 : Int32)   (σ : MH) {o} (h : Md_comesTo_b230 v2 v3 v4 v5 σ = some o) : Go m_Md_comesTo 2 (some 230, [some (.ref 166), none, some (.int v2), some (.int v3), some (.int v4), some (.int v5), none, none], [], σ) (cS (cH_Md_comesTo_16 v2 v4) (cR_Md_comesTo_16 v2 v4) o) := by
  unfold Md_comesTo_b230 at h
  refine Go.t (Go_sg bk_Md_comesTo 135 1 (c2 := (some 16, [some (.ref 166), none, some (.int v2), some (.int v3), some (.int v4), some (.int v5), none, none], [], σ)) (ps := []) rfl trivial) ?_
  have h := Option.some.inj h
  subst h
  exact Go.fg (LSub.cs (LSub.cn (LSub.cs (LSub.cs (LSub.cs (LSub.cs (LSub.cn (LSub.cn (LSub.nil)))))))))
def Md_comesTo_b85 (v2 : Int32) (v3 : Int32) (v4 : Int32) (v5 : Int32) (s0 : Int32) (s1 : Int32) (σ : MH) : Option (((Int32 × Int32 × MH) ⊕ ((MH) ⊕ (Int32 × MH)))) := if inb s1 260 = true then Md_comesTo_b230 v2 (v3 + (1 : Int32)) v4 v5 (sI σ 182 s1.toNatClampNeg s0) else none
set_option maxRecDepth 20000 in
set_option maxHeartbeats 2000000 in
theorem t_Md_comesTo_b85 (v2 : Int32) (v3 : Int32) (v4 : Int32) (v5 : Int32) (s0 : Int32) (s1 : Int32)   (σ : MH) {o} (h : Md_comesTo_b85 v2 v3 v4 v5 s0 s1 σ = some o) : Go m_Md_comesTo 2 (some 85, [some (.ref 166), none, some (.int v2), some (.int v3), some (.int v4), some (.int v5), none, none], [.int s0, .int s1, .ref 182], σ) (cS (cH_Md_comesTo_16 v2 v4) (cR_Md_comesTo_16 v2 v4) o) := by
  unfold Md_comesTo_b85 at h
  obtain ⟨g3, h⟩ := gdS h
  refine Go.t (Go_sg bk_Md_comesTo 47 6 (c2 := (some 230, [some (.ref 166), none, some (.int v2), some (.int (v3 + (1 : Int32))), some (.int v4), some (.int v5), none, none], [], sI σ 182 s1.toNatClampNeg s0)) (ps := [IA 182 260 ∧ inb s1 260 = true]) rfl ⟨⟨⟨rfl, rfl⟩, g3⟩, trivial⟩) ?_
  exact Go.t (Go.fg (LSub.cs (LSub.cn (LSub.cs (LSub.cs (LSub.cs (LSub.cs (LSub.cn (LSub.cn (LSub.nil)))))))))) (t_Md_comesTo_b230 v2 (v3 + (1 : Int32)) v4 v5 (sI σ 182 s1.toNatClampNeg s0) h)
def Md_comesTo_b63 (v2 : Int32) (v3 : Int32) (v4 : Int32) (v5 : Int32) (v6 : Int32) (v7 : Int32) (σ : MH) : Option (((Int32 × Int32 × MH) ⊕ ((MH) ⊕ (Int32 × MH)))) := if v6 = (0 : Int32) then (Md_comesTo_b85 v2 v3 v4 v5 v7 v3 σ) else (if inb v7 11 = true then Md_comesTo_b85 v2 v3 v4 v5 (σ.1 183 v7.toNatClampNeg) v3 σ else none)
set_option maxRecDepth 20000 in
set_option maxHeartbeats 2000000 in
theorem t_Md_comesTo_b63 (v2 : Int32) (v3 : Int32) (v4 : Int32) (v5 : Int32) (v6 : Int32) (v7 : Int32)   (σ : MH) {o} (h : Md_comesTo_b63 v2 v3 v4 v5 v6 v7 σ = some o) : Go m_Md_comesTo 2 (some 63, [some (.ref 166), none, some (.int v2), some (.int v3), some (.int v4), some (.int v5), some (.int v6), some (.int v7)], [], σ) (cS (cH_Md_comesTo_16 v2 v4) (cR_Md_comesTo_16 v2 v4) o) := by
  unfold Md_comesTo_b63 at h
  refine Go.t (Go_sg bk_Md_comesTo 36 4 (c2 := (some 70, [some (.ref 166), none, some (.int v2), some (.int v3), some (.int v4), some (.int v5), some (.int v6), some (.int v7)], [.int v6, .int v3, .ref 182], σ)) (ps := [shk 166 = 11]) rfl ⟨rfl, trivial⟩) ?_
  refine Go_if_ne bk_Md_comesTo 40 rfl (fun c4 => ?_) (fun c4 => ?_)
  · have h := ifF c4 h
    obtain ⟨g2, h⟩ := gdS h
    refine Go.t (Go_sg bk_Md_comesTo 43 4 (c2 := (some 85, [some (.ref 166), none, some (.int v2), some (.int v3), some (.int v4), some (.int v5), some (.int v6), some (.int v7)], [.int (σ.1 183 v7.toNatClampNeg), .int v3, .ref 182], σ)) (ps := [shk 166 = 11, IA 183 11 ∧ inb v7 11 = true]) rfl ⟨rfl, ⟨⟨rfl, rfl⟩, g2⟩, trivial⟩) ?_
    exact Go.t (Go.fg (LSub.cs (LSub.cn (LSub.cs (LSub.cs (LSub.cs (LSub.cs (LSub.cn (LSub.cn (LSub.nil)))))))))) (t_Md_comesTo_b85 v2 v3 v4 v5 (σ.1 183 v7.toNatClampNeg) v3 σ h)
  · have h := ifT c4 h
    refine Go.t (Go_sg bk_Md_comesTo 41 2 (c2 := (some 85, [some (.ref 166), none, some (.int v2), some (.int v3), some (.int v4), some (.int v5), some (.int v6), some (.int v7)], [.int v7, .int v3, .ref 182], σ)) (ps := []) rfl trivial) ?_
    exact Go.t (Go.fg (LSub.cs (LSub.cn (LSub.cs (LSub.cs (LSub.cs (LSub.cs (LSub.cn (LSub.cn (LSub.nil)))))))))) (t_Md_comesTo_b85 v2 v3 v4 v5 v7 v3 σ h)
def Md_comesTo_b155 (v2 : Int32) (v3 : Int32) (v4 : Int32) (v5 : Int32) (v7 : Int32) (s0 : Int32) (s1 : Int32) (σ : MH) : Option (((Int32 × Int32 × MH) ⊕ ((MH) ⊕ (Int32 × MH)))) := if s1 = s0 then (Md_comesTo_b230 v2 v3 v4 (v4 + v7) σ) else (Md_comesTo_b230 v2 (v3 - (1 : Int32)) v4 v5 σ)
set_option maxRecDepth 20000 in
set_option maxHeartbeats 2000000 in
theorem t_Md_comesTo_b155 (v2 : Int32) (v3 : Int32) (v4 : Int32) (v5 : Int32) (v7 : Int32) (s0 : Int32) (s1 : Int32)   (σ : MH) {o} (h : Md_comesTo_b155 v2 v3 v4 v5 v7 s0 s1 σ = some o) : Go m_Md_comesTo 2 (some 155, [some (.ref 166), none, some (.int v2), some (.int v3), some (.int v4), some (.int v5), none, some (.int v7)], [.int s0, .int s1], σ) (cS (cH_Md_comesTo_16 v2 v4) (cR_Md_comesTo_16 v2 v4) o) := by
  unfold Md_comesTo_b155 at h
  refine Go_icmp_ne bk_Md_comesTo 89 rfl (fun c6 => ?_) (fun c6 => ?_)
  · have h := ifF c6 h
    refine Go.t (Go_sg bk_Md_comesTo 95 5 (c2 := (some 230, [some (.ref 166), none, some (.int v2), some (.int (v3 - (1 : Int32))), some (.int v4), some (.int v5), none, some (.int v7)], [], σ)) (ps := []) rfl trivial) ?_
    exact Go.t (Go.fg (LSub.cs (LSub.cn (LSub.cs (LSub.cs (LSub.cs (LSub.cs (LSub.cn (LSub.cn (LSub.nil)))))))))) (t_Md_comesTo_b230 v2 (v3 - (1 : Int32)) v4 v5 σ h)
  · have h := ifT c6 h
    refine Go.t (Go_sg bk_Md_comesTo 90 5 (c2 := (some 230, [some (.ref 166), none, some (.int v2), some (.int v3), some (.int v4), some (.int (v4 + v7)), none, some (.int v7)], [], σ)) (ps := []) rfl trivial) ?_
    exact Go.t (Go.fg (LSub.cs (LSub.cn (LSub.cs (LSub.cs (LSub.cs (LSub.cs (LSub.cn (LSub.cn (LSub.nil)))))))))) (t_Md_comesTo_b230 v2 v3 v4 (v4 + v7) σ h)
def Md_comesTo_b135 (v2 : Int32) (v3 : Int32) (v4 : Int32) (v5 : Int32) (v6 : Int32) (v7 : Int32) (σ : MH) : Option (((Int32 × Int32 × MH) ⊕ ((MH) ⊕ (Int32 × MH)))) := if inb (v3 - (1 : Int32)) 260 = true then if v6 = (12 : Int32) then (Md_comesTo_b155 v2 v3 v4 v5 v7 (1 : Int32) (σ.1 182 (v3 - (1 : Int32)).toNatClampNeg) σ) else (Md_comesTo_b155 v2 v3 v4 v5 v7 (0 : Int32) (σ.1 182 (v3 - (1 : Int32)).toNatClampNeg) σ) else none
set_option maxRecDepth 20000 in
set_option maxHeartbeats 2000000 in
theorem t_Md_comesTo_b135 (v2 : Int32) (v3 : Int32) (v4 : Int32) (v5 : Int32) (v6 : Int32) (v7 : Int32)   (σ : MH) {o} (h : Md_comesTo_b135 v2 v3 v4 v5 v6 v7 σ = some o) : Go m_Md_comesTo 2 (some 135, [some (.ref 166), none, some (.int v2), some (.int v3), some (.int v4), some (.int v5), some (.int v6), some (.int v7)], [], σ) (cS (cH_Md_comesTo_16 v2 v4) (cR_Md_comesTo_16 v2 v4) o) := by
  unfold Md_comesTo_b135 at h
  obtain ⟨g5, h⟩ := gdS h
  refine Go.t (Go_sg bk_Md_comesTo 77 8 (c2 := (some 147, [some (.ref 166), none, some (.int v2), some (.int v3), some (.int v4), some (.int v5), some (.int v6), some (.int v7)], [.int (12 : Int32), .int v6, .int (σ.1 182 (v3 - (1 : Int32)).toNatClampNeg)], σ)) (ps := [shk 166 = 11, IA 182 260 ∧ inb (v3 - (1 : Int32)) 260 = true]) rfl ⟨rfl, ⟨⟨rfl, rfl⟩, g5⟩, trivial⟩) ?_
  refine Go_icmp_ne bk_Md_comesTo 85 rfl (fun c7 => ?_) (fun c7 => ?_)
  · have h := ifF c7 h
    refine Go.t (Go_sg bk_Md_comesTo 88 1 (c2 := (some 155, [some (.ref 166), none, some (.int v2), some (.int v3), some (.int v4), some (.int v5), some (.int v6), some (.int v7)], [.int (0 : Int32), .int (σ.1 182 (v3 - (1 : Int32)).toNatClampNeg)], σ)) (ps := []) rfl trivial) ?_
    exact Go.t (Go.fg (LSub.cs (LSub.cn (LSub.cs (LSub.cs (LSub.cs (LSub.cs (LSub.cn (LSub.cs (LSub.nil)))))))))) (t_Md_comesTo_b155 v2 v3 v4 v5 v7 (0 : Int32) (σ.1 182 (v3 - (1 : Int32)).toNatClampNeg) σ h)
  · have h := ifT c7 h
    refine Go.t (Go_sg bk_Md_comesTo 86 2 (c2 := (some 155, [some (.ref 166), none, some (.int v2), some (.int v3), some (.int v4), some (.int v5), some (.int v6), some (.int v7)], [.int (1 : Int32), .int (σ.1 182 (v3 - (1 : Int32)).toNatClampNeg)], σ)) (ps := []) rfl trivial) ?_
    exact Go.t (Go.fg (LSub.cs (LSub.cn (LSub.cs (LSub.cs (LSub.cs (LSub.cs (LSub.cn (LSub.cs (LSub.nil)))))))))) (t_Md_comesTo_b155 v2 v3 v4 v5 v7 (1 : Int32) (σ.1 182 (v3 - (1 : Int32)).toNatClampNeg) σ h)
def Md_comesTo_b203 (v2 : Int32) (v3 : Int32) (v4 : Int32) (v5 : Int32) (v6 : Int32) (σ : MH) : Option (((Int32 × Int32 × MH) ⊕ ((MH) ⊕ (Int32 × MH)))) := if inb (v3 - (1 : Int32)) 260 = true then if inb v3 260 = true then (Md_reckon v6 (σ.1 182 (v3 - (1 : Int32)).toNatClampNeg) (σ.1 182 v3.toNatClampNeg) σ).bind fun x11 => Md_comesTo_b230 v2 v3 v4 v5 (sI σ 182 (v3 - (1 : Int32)).toNatClampNeg x11) else none else none
set_option maxRecDepth 20000 in
set_option maxHeartbeats 2000000 in
theorem t_Md_comesTo_b203 (v2 : Int32) (v3 : Int32) (v4 : Int32) (v5 : Int32) (v6 : Int32)   (σ : MH) {o} (h : Md_comesTo_b203 v2 v3 v4 v5 v6 σ = some o) : Go m_Md_comesTo 2 (some 203, [some (.ref 166), none, some (.int v2), some (.int v3), some (.int v4), some (.int v5), some (.int v6), none], [], σ) (cS (cH_Md_comesTo_16 v2 v4) (cR_Md_comesTo_16 v2 v4) o) := by
  unfold Md_comesTo_b203 at h
  obtain ⟨g9, h⟩ := gdS h
  obtain ⟨g10, h⟩ := gdS h
  refine Go.t (Go_sg bk_Md_comesTo 117 16 (c2 := (some 226, [some (.ref 166), none, some (.int v2), some (.int v3), some (.int v4), some (.int v5), some (.int v6), none], [.int (σ.1 182 v3.toNatClampNeg), .int (σ.1 182 (v3 - (1 : Int32)).toNatClampNeg), .int v6, .int (v3 - (1 : Int32)), .ref 182], σ)) (ps := [shk 166 = 11, shk 166 = 11, IA 182 260 ∧ inb (v3 - (1 : Int32)) 260 = true, shk 166 = 11, IA 182 260 ∧ inb v3 260 = true]) rfl ⟨rfl, rfl, ⟨⟨rfl, rfl⟩, g9⟩, rfl, ⟨⟨rfl, rfl⟩, g10⟩, trivial⟩) ?_
  obtain ⟨x11, q13, h⟩ := bdS h
  refine Go.t (Go_callS bk_Md_comesTo 133 rfl nk_Md_reckon tw1576 tw1577 (as := [.int v6, .int (σ.1 182 (v3 - (1 : Int32)).toNatClampNeg), .int (σ.1 182 v3.toNatClampNeg)]) (S := [.int (v3 - (1 : Int32)), .ref 182]) rfl rfl rfl (Nat.le_of_ble_eq_true rfl) (Nat.le_of_ble_eq_true rfl) (ev_Md_reckon _ _ _ _ q13)) ?_
  refine Go.t (Go_sg bk_Md_comesTo 134 1 (c2 := (some 230, [some (.ref 166), none, some (.int v2), some (.int v3), some (.int v4), some (.int v5), some (.int v6), none], [], sI σ 182 (v3 - (1 : Int32)).toNatClampNeg x11)) (ps := [IA 182 260 ∧ inb (v3 - (1 : Int32)) 260 = true]) rfl ⟨⟨⟨rfl, rfl⟩, g9⟩, trivial⟩) ?_
  exact Go.t (Go.fg (LSub.cs (LSub.cn (LSub.cs (LSub.cs (LSub.cs (LSub.cs (LSub.cn (LSub.cn (LSub.nil)))))))))) (t_Md_comesTo_b230 v2 v3 v4 v5 (sI σ 182 (v3 - (1 : Int32)).toNatClampNeg x11) h)
def Md_comesTo_b192 (v2 : Int32) (v3 : Int32) (v4 : Int32) (v5 : Int32) (v6 : Int32) (σ : MH) : Option (((Int32 × Int32 × MH) ⊕ ((MH) ⊕ (Int32 × MH)))) := if inb v3 260 = true then if σ.1 182 v3.toNatClampNeg = (0 : Int32) then some (.inr (.inr ((0 : Int32), σ))) else (Md_comesTo_b203 v2 v3 v4 v5 v6 σ) else none
set_option maxRecDepth 20000 in
set_option maxHeartbeats 2000000 in
theorem t_Md_comesTo_b192 (v2 : Int32) (v3 : Int32) (v4 : Int32) (v5 : Int32) (v6 : Int32)   (σ : MH) {o} (h : Md_comesTo_b192 v2 v3 v4 v5 v6 σ = some o) : Go m_Md_comesTo 2 (some 192, [some (.ref 166), none, some (.int v2), some (.int v3), some (.int v4), some (.int v5), some (.int v6), none], [], σ) (cS (cH_Md_comesTo_16 v2 v4) (cR_Md_comesTo_16 v2 v4) o) := by
  unfold Md_comesTo_b192 at h
  obtain ⟨g8, h⟩ := gdS h
  refine Go.t (Go_sg bk_Md_comesTo 110 4 (c2 := (some 198, [some (.ref 166), none, some (.int v2), some (.int v3), some (.int v4), some (.int v5), some (.int v6), none], [.int (σ.1 182 v3.toNatClampNeg)], σ)) (ps := [shk 166 = 11, IA 182 260 ∧ inb v3 260 = true]) rfl ⟨rfl, ⟨⟨rfl, rfl⟩, g8⟩, trivial⟩) ?_
  refine Go_if_ne bk_Md_comesTo 114 rfl (fun c14 => ?_) (fun c14 => ?_)
  · have h := ifF c14 h
    exact Go.t (Go.fg (LSub.cs (LSub.cn (LSub.cs (LSub.cs (LSub.cs (LSub.cs (LSub.cs (LSub.cn (LSub.nil)))))))))) (t_Md_comesTo_b203 v2 v3 v4 v5 v6 σ h)
  · have h := ifT c14 h
    have h := Option.some.inj h
    subst h
    refine Go.t (Go_sg bk_Md_comesTo 115 1 (c2 := (some 202, [some (.ref 166), none, some (.int v2), some (.int v3), some (.int v4), some (.int v5), some (.int v6), none], [.int (0 : Int32)], σ)) (ps := []) rfl trivial) ?_
    exact Go_reti bk_Md_comesTo 116 rfl
def Md_comesTo_l16 (v2 : Int32) (v4 : Int32) (v3 : Int32) (v5 : Int32) (σ : MH) : Option (((Int32 × Int32 × MH) ⊕ ((MH) ⊕ (Int32 × MH)))) := if v2 ≤ v5 then some (.inr (.inl (σ))) else (if inb v5 260 = true then if (σ.1 177 v5.toNatClampNeg) / (1048576 : Int32) = (0 : Int32) then (Md_comesTo_b63 v2 v3 v4 (v5 + (1 : Int32)) ((σ.1 177 v5.toNatClampNeg) / (1048576 : Int32)) (jrem (σ.1 177 v5.toNatClampNeg) (1048576 : Int32)) σ) else (if (σ.1 177 v5.toNatClampNeg) / (1048576 : Int32) = (1 : Int32) then (Md_comesTo_b63 v2 v3 v4 (v5 + (1 : Int32)) ((σ.1 177 v5.toNatClampNeg) / (1048576 : Int32)) (jrem (σ.1 177 v5.toNatClampNeg) (1048576 : Int32)) σ) else (if (σ.1 177 v5.toNatClampNeg) / (1048576 : Int32) = (10 : Int32) then (if inb (v3 - (1 : Int32)) 260 = true then Md_comesTo_b230 v2 v3 v4 (v5 + (1 : Int32)) (sI σ 182 (v3 - (1 : Int32)).toNatClampNeg ((1 : Int32) - (σ.1 182 (v3 - (1 : Int32)).toNatClampNeg))) else none) else (if (σ.1 177 v5.toNatClampNeg) / (1048576 : Int32) = (11 : Int32) then (Md_comesTo_b135 v2 v3 v4 (v5 + (1 : Int32)) ((σ.1 177 v5.toNatClampNeg) / (1048576 : Int32)) (jrem (σ.1 177 v5.toNatClampNeg) (1048576 : Int32)) σ) else (if (σ.1 177 v5.toNatClampNeg) / (1048576 : Int32) = (12 : Int32) then (Md_comesTo_b135 v2 v3 v4 (v5 + (1 : Int32)) ((σ.1 177 v5.toNatClampNeg) / (1048576 : Int32)) (jrem (σ.1 177 v5.toNatClampNeg) (1048576 : Int32)) σ) else (if (σ.1 177 v5.toNatClampNeg) / (1048576 : Int32) = (5 : Int32) then (Md_comesTo_b192 v2 (v3 - (1 : Int32)) v4 (v5 + (1 : Int32)) ((σ.1 177 v5.toNatClampNeg) / (1048576 : Int32)) σ) else (if (σ.1 177 v5.toNatClampNeg) / (1048576 : Int32) = (6 : Int32) then (Md_comesTo_b192 v2 (v3 - (1 : Int32)) v4 (v5 + (1 : Int32)) ((σ.1 177 v5.toNatClampNeg) / (1048576 : Int32)) σ) else (Md_comesTo_b203 v2 (v3 - (1 : Int32)) v4 (v5 + (1 : Int32)) ((σ.1 177 v5.toNatClampNeg) / (1048576 : Int32)) σ))))))) else none)
set_option maxRecDepth 20000 in
set_option maxHeartbeats 2000000 in
theorem t_Md_comesTo_l16 (v2 : Int32) (v4 : Int32) (v3 : Int32) (v5 : Int32)  (σ : MH) {o} (h : Md_comesTo_l16 v2 v4 v3 v5 σ = some o) : Go m_Md_comesTo 2 (cH_Md_comesTo_16 v2 v4 (v3, v5, σ)) (cS (cH_Md_comesTo_16 v2 v4) (cR_Md_comesTo_16 v2 v4) o) := by
  unfold Md_comesTo_l16 at h
  unfold cH_Md_comesTo_16
  refine Go.t (Go_sg bk_Md_comesTo 10 2 (c2 := (some 19, [some (.ref 166), none, some (.int v2), some (.int v3), some (.int v4), some (.int v5), none, none], [.int v2, .int v5], σ)) (ps := []) rfl trivial) ?_
  refine Go_icmp_ge bk_Md_comesTo 12 rfl (fun c23 => ?_) (fun c23 => ?_)
  · have h := ifT c23 h
    have h := Option.some.inj h
    subst h
    exact Go.fg (LSub.cs (LSub.cn (LSub.cn (LSub.cn (LSub.cn (LSub.cn (LSub.cn (LSub.cn (LSub.nil)))))))))
  · have h := ifF c23 h
    obtain ⟨g1, h⟩ := gdS h
    refine Go.t (Go_sg bk_Md_comesTo 13 19 (c2 := (some 54, [some (.ref 166), none, some (.int v2), some (.int v3), some (.int v4), some (.int (v5 + (1 : Int32))), some (.int ((σ.1 177 v5.toNatClampNeg) / (1048576 : Int32))), some (.int (jrem (σ.1 177 v5.toNatClampNeg) (1048576 : Int32)))], [.int ((σ.1 177 v5.toNatClampNeg) / (1048576 : Int32))], σ)) (ps := [shk 166 = 11, IA 177 260 ∧ inb v5 260 = true, (1048576 : Int32) ≠ 0, shk 166 = 11, IA 177 260 ∧ inb v5 260 = true, (1048576 : Int32) ≠ 0]) rfl ⟨rfl, ⟨⟨rfl, rfl⟩, g1⟩, (by decide), rfl, ⟨⟨rfl, rfl⟩, g1⟩, (by decide), trivial⟩) ?_
    refine Go_if_eq bk_Md_comesTo 32 rfl (fun c22 => ?_) (fun c22 => ?_)
    · have h := ifT c22 h
      exact Go.t (Go.fg (LSub.cs (LSub.cn (LSub.cs (LSub.cs (LSub.cs (LSub.cs (LSub.cs (LSub.cs (LSub.nil)))))))))) (t_Md_comesTo_b63 v2 v3 v4 (v5 + (1 : Int32)) ((σ.1 177 v5.toNatClampNeg) / (1048576 : Int32)) (jrem (σ.1 177 v5.toNatClampNeg) (1048576 : Int32)) σ h)
    · have h := ifF c22 h
      refine Go.t (Go_sg bk_Md_comesTo 33 2 (c2 := (some 60, [some (.ref 166), none, some (.int v2), some (.int v3), some (.int v4), some (.int (v5 + (1 : Int32))), some (.int ((σ.1 177 v5.toNatClampNeg) / (1048576 : Int32))), some (.int (jrem (σ.1 177 v5.toNatClampNeg) (1048576 : Int32)))], [.int (1 : Int32), .int ((σ.1 177 v5.toNatClampNeg) / (1048576 : Int32))], σ)) (ps := []) rfl trivial) ?_
      refine Go_icmp_ne bk_Md_comesTo 35 rfl (fun c21 => ?_) (fun c21 => ?_)
      · have h := ifF c21 h
        refine Go.t (Go_sg bk_Md_comesTo 53 2 (c2 := (some 97, [some (.ref 166), none, some (.int v2), some (.int v3), some (.int v4), some (.int (v5 + (1 : Int32))), some (.int ((σ.1 177 v5.toNatClampNeg) / (1048576 : Int32))), some (.int (jrem (σ.1 177 v5.toNatClampNeg) (1048576 : Int32)))], [.int (10 : Int32), .int ((σ.1 177 v5.toNatClampNeg) / (1048576 : Int32))], σ)) (ps := []) rfl trivial) ?_
        refine Go_icmp_ne bk_Md_comesTo 55 rfl (fun c20 => ?_) (fun c20 => ?_)
        · have h := ifF c20 h
          refine Go.t (Go_sg bk_Md_comesTo 71 2 (c2 := (some 125, [some (.ref 166), none, some (.int v2), some (.int v3), some (.int v4), some (.int (v5 + (1 : Int32))), some (.int ((σ.1 177 v5.toNatClampNeg) / (1048576 : Int32))), some (.int (jrem (σ.1 177 v5.toNatClampNeg) (1048576 : Int32)))], [.int (11 : Int32), .int ((σ.1 177 v5.toNatClampNeg) / (1048576 : Int32))], σ)) (ps := []) rfl trivial) ?_
          refine Go_icmp_eq bk_Md_comesTo 73 rfl (fun c18 => ?_) (fun c18 => ?_)
          · have h := ifT c18 h
            exact Go.t (Go.fg (LSub.cs (LSub.cn (LSub.cs (LSub.cs (LSub.cs (LSub.cs (LSub.cs (LSub.cs (LSub.nil)))))))))) (t_Md_comesTo_b135 v2 v3 v4 (v5 + (1 : Int32)) ((σ.1 177 v5.toNatClampNeg) / (1048576 : Int32)) (jrem (σ.1 177 v5.toNatClampNeg) (1048576 : Int32)) σ h)
          · have h := ifF c18 h
            refine Go.t (Go_sg bk_Md_comesTo 74 2 (c2 := (some 132, [some (.ref 166), none, some (.int v2), some (.int v3), some (.int v4), some (.int (v5 + (1 : Int32))), some (.int ((σ.1 177 v5.toNatClampNeg) / (1048576 : Int32))), some (.int (jrem (σ.1 177 v5.toNatClampNeg) (1048576 : Int32)))], [.int (12 : Int32), .int ((σ.1 177 v5.toNatClampNeg) / (1048576 : Int32))], σ)) (ps := []) rfl trivial) ?_
            refine Go_icmp_ne bk_Md_comesTo 76 rfl (fun c17 => ?_) (fun c17 => ?_)
            · have h := ifF c17 h
              refine Go.t (Go_sg bk_Md_comesTo 100 6 (c2 := (some 182, [some (.ref 166), none, some (.int v2), some (.int (v3 - (1 : Int32))), some (.int v4), some (.int (v5 + (1 : Int32))), some (.int ((σ.1 177 v5.toNatClampNeg) / (1048576 : Int32))), some (.int (jrem (σ.1 177 v5.toNatClampNeg) (1048576 : Int32)))], [.int (5 : Int32), .int ((σ.1 177 v5.toNatClampNeg) / (1048576 : Int32))], σ)) (ps := []) rfl trivial) ?_
              refine Go_icmp_eq bk_Md_comesTo 106 rfl (fun c16 => ?_) (fun c16 => ?_)
              · have h := ifT c16 h
                exact Go.t (Go.fg (LSub.cs (LSub.cn (LSub.cs (LSub.cs (LSub.cs (LSub.cs (LSub.cs (LSub.cn (LSub.nil)))))))))) (t_Md_comesTo_b192 v2 (v3 - (1 : Int32)) v4 (v5 + (1 : Int32)) ((σ.1 177 v5.toNatClampNeg) / (1048576 : Int32)) σ h)
              · have h := ifF c16 h
                refine Go.t (Go_sg bk_Md_comesTo 107 2 (c2 := (some 189, [some (.ref 166), none, some (.int v2), some (.int (v3 - (1 : Int32))), some (.int v4), some (.int (v5 + (1 : Int32))), some (.int ((σ.1 177 v5.toNatClampNeg) / (1048576 : Int32))), some (.int (jrem (σ.1 177 v5.toNatClampNeg) (1048576 : Int32)))], [.int (6 : Int32), .int ((σ.1 177 v5.toNatClampNeg) / (1048576 : Int32))], σ)) (ps := []) rfl trivial) ?_
                refine Go_icmp_ne bk_Md_comesTo 109 rfl (fun c15 => ?_) (fun c15 => ?_)
                · have h := ifF c15 h
                  exact Go.t (Go.fg (LSub.cs (LSub.cn (LSub.cs (LSub.cs (LSub.cs (LSub.cs (LSub.cs (LSub.cn (LSub.nil)))))))))) (t_Md_comesTo_b203 v2 (v3 - (1 : Int32)) v4 (v5 + (1 : Int32)) ((σ.1 177 v5.toNatClampNeg) / (1048576 : Int32)) σ h)
                · have h := ifT c15 h
                  exact Go.t (Go.fg (LSub.cs (LSub.cn (LSub.cs (LSub.cs (LSub.cs (LSub.cs (LSub.cs (LSub.cn (LSub.nil)))))))))) (t_Md_comesTo_b192 v2 (v3 - (1 : Int32)) v4 (v5 + (1 : Int32)) ((σ.1 177 v5.toNatClampNeg) / (1048576 : Int32)) σ h)
            · have h := ifT c17 h
              exact Go.t (Go.fg (LSub.cs (LSub.cn (LSub.cs (LSub.cs (LSub.cs (LSub.cs (LSub.cs (LSub.cs (LSub.nil)))))))))) (t_Md_comesTo_b135 v2 v3 v4 (v5 + (1 : Int32)) ((σ.1 177 v5.toNatClampNeg) / (1048576 : Int32)) (jrem (σ.1 177 v5.toNatClampNeg) (1048576 : Int32)) σ h)
        · have h := ifT c20 h
          obtain ⟨g19, h⟩ := gdS h
          refine Go.t (Go_sg bk_Md_comesTo 56 15 (c2 := (some 230, [some (.ref 166), none, some (.int v2), some (.int v3), some (.int v4), some (.int (v5 + (1 : Int32))), some (.int ((σ.1 177 v5.toNatClampNeg) / (1048576 : Int32))), some (.int (jrem (σ.1 177 v5.toNatClampNeg) (1048576 : Int32)))], [], sI σ 182 (v3 - (1 : Int32)).toNatClampNeg ((1 : Int32) - (σ.1 182 (v3 - (1 : Int32)).toNatClampNeg)))) (ps := [shk 166 = 11, shk 166 = 11, IA 182 260 ∧ inb (v3 - (1 : Int32)) 260 = true, IA 182 260 ∧ inb (v3 - (1 : Int32)) 260 = true]) rfl ⟨rfl, rfl, ⟨⟨rfl, rfl⟩, g19⟩, ⟨⟨rfl, rfl⟩, g19⟩, trivial⟩) ?_
          exact Go.t (Go.fg (LSub.cs (LSub.cn (LSub.cs (LSub.cs (LSub.cs (LSub.cs (LSub.cn (LSub.cn (LSub.nil)))))))))) (t_Md_comesTo_b230 v2 v3 v4 (v5 + (1 : Int32)) (sI σ 182 (v3 - (1 : Int32)).toNatClampNeg ((1 : Int32) - (σ.1 182 (v3 - (1 : Int32)).toNatClampNeg))) h)
      · have h := ifT c21 h
        exact Go.t (Go.fg (LSub.cs (LSub.cn (LSub.cs (LSub.cs (LSub.cs (LSub.cs (LSub.cs (LSub.cs (LSub.nil)))))))))) (t_Md_comesTo_b63 v2 v3 v4 (v5 + (1 : Int32)) ((σ.1 177 v5.toNatClampNeg) / (1048576 : Int32)) (jrem (σ.1 177 v5.toNatClampNeg) (1048576 : Int32)) σ h)
def Md_comesTo_L16 (v2 : Int32) (v4 : Int32) (s : Int32 × Int32 × MH) : Option ((MH) ⊕ (Int32 × MH)) := itr (fun s : Int32 × Int32 × MH => Md_comesTo_l16 v2 v4 s.1 s.2.1 s.2.2) FU s
set_option maxRecDepth 20000 in
set_option maxHeartbeats 2000000 in
theorem t_Md_comesTo_L16 (v2 : Int32) (v4 : Int32)  (s : Int32 × Int32 × MH) {r} (h : Md_comesTo_L16 v2 v4 s = some r) : Go m_Md_comesTo 2 (cH_Md_comesTo_16 v2 v4 s) (cR_Md_comesTo_16 v2 v4 r) := Go_itr (fun s o ho => t_Md_comesTo_l16 v2 v4 s.1 s.2.1 s.2.2 ho) FU s r h
def Md_comesTo0 (v1 : Int32) (v2 : Int32) (σ : MH) : Option (Int32 × MH) := (Md_comesTo_L16 v2 ((260 : Int32) * (v1 / (260 : Int32))) ((0 : Int32), v1, σ)).bind fun z24 => (match z24 with | .inl z24a => some (z24a.1 182 0, z24a) | .inr z24b => some (z24b.1, z24b.2))
set_option maxRecDepth 20000 in
set_option maxHeartbeats 2000000 in
theorem t_Md_comesTo0 (v1 : Int32) (v2 : Int32)  (σ : MH) {o} (h : Md_comesTo0 v1 v2 σ = some o) : Go m_Md_comesTo 2 (some 0, [some (.ref 166), some (.int v1), some (.int v2), none, none, none, none, none], [], σ) ((none, [], [.int o.1], o.2)) := by
  unfold Md_comesTo0 at h
  refine Go.t (Go_sg bk_Md_comesTo 0 10 (c2 := (some 16, [some (.ref 166), some (.int v1), some (.int v2), some (.int (0 : Int32)), some (.int ((260 : Int32) * (v1 / (260 : Int32)))), some (.int v1), none, none], [], σ)) (ps := [(260 : Int32) ≠ 0]) rfl ⟨(by decide), trivial⟩) ?_
  obtain ⟨z24, q25, h⟩ := bdS h
  refine Go.t (Go.t (Go.fg (LSub.cs (LSub.cn (LSub.cs (LSub.cs (LSub.cs (LSub.cs (LSub.cn (LSub.cn (LSub.nil)))))))))) (t_Md_comesTo_L16 v2 ((260 : Int32) * (v1 / (260 : Int32))) _ q25)) ?_
  rcases z24 with z24a | z24b
  · dsimp only at h
    have h := Option.some.inj h
    subst h
    refine Go.t (Go_sg bk_Md_comesTo 136 4 (c2 := (some 239, [some (.ref 166), none, none, none, none, none, none, none], [.int (z24a.1 182 0)], z24a)) (ps := [shk 166 = 11, IA 182 260 ∧ inb (0 : Int32) 260 = true]) rfl ⟨rfl, ⟨⟨rfl, rfl⟩, (inbN 0 260 rfl)⟩, trivial⟩) ?_
    exact Go_reti bk_Md_comesTo 140 rfl
  · dsimp only at h
    have h := Option.some.inj h
    subst h
    exact Go.rf
def Md_comesTo (v1 : Int32) (v2 : Int32) (σ : MH) : Option (Int32 × MH) := Md_comesTo0 v1 v2 σ
set_option maxRecDepth 20000 in
set_option maxHeartbeats 2000000 in
theorem ev_Md_comesTo (v1 : Int32) (v2 : Int32)  (σ : MH) {o} (h : Md_comesTo v1 v2 σ = some o) : Ev m_Md_comesTo 2 [.ref 166, .int v1, .int v2] σ (some (.int o.1)) o.2 := Ev.of2 (by decide +kernel) rfl (Nat.le_of_ble_eq_true rfl) ⟨.int, rfl, rfl⟩ (t_Md_comesTo0 v1 v2 σ h)
