/-! FUNCTIONS: Pz_journey Course_travel Land_hasTried Course_nextFor Land_markTried Judge_gap Judge_slackOf Judge_isFirst Land_piecesOf Integer_bitCount Arrays_fill_ii Judge_fill Law_reckon Law_valueOf Law_run Judge_rule Judge_allowance Judge_fit Judge_wearOf Land_wearDown -/
def Pz_journey0 (v1 : Int32) (v2 : Int32) (σ : MH) : Option (Int32 × MH) := (Land_isTold 1 v1 σ).bind fun x1 => if x1 = (0 : Int32) then some ((-1 : Int32), σ) else (if v2 < (1 : Int32) then some ((-1 : Int32), σ) else (if (40 : Int32) < v2 then some ((-1 : Int32), σ) else (if v2 ≤ σ.1 109 1 then ((ListReader_readWay v2 σ).bind fun (x4, σ5) => if x4 = (0 : Int32) then some ((sI σ5 109 1 (0 : Int32)).1 124 3, sI σ5 109 1 (0 : Int32)) else (if inb v1 12 = true then some ((sI (sI (cpI (sI σ5 109 1 (0 : Int32)) 125 (rfv 22 v1.toNatClampNeg) 144) 35 v1.toNatClampNeg ((cpI (sI σ5 109 1 (0 : Int32)) 125 (rfv 22 v1.toNatClampNeg) 144).1 124 5)) 36 v1.toNatClampNeg (0 : Int32)).1 124 5, sI (sI (cpI (sI σ5 109 1 (0 : Int32)) 125 (rfv 22 v1.toNatClampNeg) 144) 35 v1.toNatClampNeg ((cpI (sI σ5 109 1 (0 : Int32)) 125 (rfv 22 v1.toNatClampNeg) 144).1 124 5)) 36 v1.toNatClampNeg (0 : Int32)) else none)) else some ((-1 : Int32), σ))))
set_option maxRecDepth 20000 in
set_option maxHeartbeats 2000000 in
theorem t_Pz_journey0 (v1 : Int32) (v2 : Int32)  (σ : MH) {o} (h : Pz_journey0 v1 v2 σ = some o) : Go m_Pz_journey 5 (some 0, [some (.ref 0), some (.int v1), some (.int v2), none], [], σ) ((none, [], [.int o.1], o.2)) := by
  unfold Pz_journey0 at h
  refine Go.t (Go_sg bk_Pz_journey 0 3 (c2 := (some 5, [some (.ref 0), some (.int v1), some (.int v2), none], [.int v1, .ref 1], σ)) (ps := [shk 0 = 10]) rfl ⟨rfl, trivial⟩) ?_
  obtain ⟨x1, q3, h⟩ := bdS h
  refine Go.t (Go_callV bk_Pz_journey 3 rfl nk_Land_isTold tw555 tw556 tw557 (ci := 3) rfl (as := [.int v1]) (S := []) rfl rfl rfl rfl (Nat.le_of_ble_eq_true rfl) (Nat.le_of_ble_eq_true rfl) (ev_Land_isTold _ _ (Or.inl rfl) _ q3)) ?_
  refine Go_if_eq bk_Pz_journey 4 rfl (fun c12 => ?_) (fun c12 => ?_)
  · have h := ifT c12 h
    have h := Option.some.inj h
    subst h
    refine Go.t (Go_sg bk_Pz_journey 16 1 (c2 := (some 34, [some (.ref 0), some (.int v1), some (.int v2), none], [.int (-1 : Int32)], σ)) (ps := []) rfl trivial) ?_
    exact Go_reti bk_Pz_journey 17 rfl
  · have h := ifF c12 h
    refine Go.t (Go_sg bk_Pz_journey 5 2 (c2 := (some 13, [some (.ref 0), some (.int v1), some (.int v2), none], [.int (1 : Int32), .int v2], σ)) (ps := []) rfl trivial) ?_
    refine Go_icmp_lt bk_Pz_journey 7 rfl (fun c11 => ?_) (fun c11 => ?_)
    · have h := ifT c11 h
      have h := Option.some.inj h
      subst h
      refine Go.t (Go_sg bk_Pz_journey 16 1 (c2 := (some 34, [some (.ref 0), some (.int v1), some (.int v2), none], [.int (-1 : Int32)], σ)) (ps := []) rfl trivial) ?_
      exact Go_reti bk_Pz_journey 17 rfl
    · have h := ifF c11 h
      refine Go.t (Go_sg bk_Pz_journey 8 2 (c2 := (some 19, [some (.ref 0), some (.int v1), some (.int v2), none], [.int (40 : Int32), .int v2], σ)) (ps := []) rfl trivial) ?_
      refine Go_icmp_gt bk_Pz_journey 10 rfl (fun c10 => ?_) (fun c10 => ?_)
      · have h := ifT c10 h
        have h := Option.some.inj h
        subst h
        refine Go.t (Go_sg bk_Pz_journey 16 1 (c2 := (some 34, [some (.ref 0), some (.int v1), some (.int v2), none], [.int (-1 : Int32)], σ)) (ps := []) rfl trivial) ?_
        exact Go_reti bk_Pz_journey 17 rfl
      · have h := ifF c10 h
        refine Go.t (Go_sg bk_Pz_journey 11 4 (c2 := (some 30, [some (.ref 0), some (.int v1), some (.int v2), none], [.int (σ.1 109 1), .int v2], σ)) (ps := [shk 0 = 10, shk 109 = 9]) rfl ⟨rfl, rfl, trivial⟩) ?_
        refine Go_icmp_le bk_Pz_journey 15 rfl (fun c9 => ?_) (fun c9 => ?_)
        · have h := ifT c9 h
          refine Go.t (Go_sg bk_Pz_journey 18 3 (c2 := (some 40, [some (.ref 0), some (.int v1), some (.int v2), none], [.int v2, .ref 124], σ)) (ps := [shk 0 = 10]) rfl ⟨rfl, trivial⟩) ?_
          obtain ⟨⟨x4, σ5⟩, q6, h⟩ := bdS h
          dsimp only at h
          refine Go.t (Go_callV bk_Pz_journey 21 rfl nk_ListReader_readWay tw830 tw831 tw832 (ci := 6) rfl (as := [.int v2]) (S := []) rfl rfl rfl rfl (Nat.le_of_ble_eq_true rfl) (Nat.le_of_ble_eq_true rfl) (ev_ListReader_readWay _ _ q6)) ?_
          refine Go.t (Go_sg bk_Pz_journey 22 6 (c2 := (some 53, [some (.ref 0), some (.int v1), some (.int v2), some (.int x4)], [.int x4], sI σ5 109 1 (0 : Int32))) (ps := [shk 0 = 10, shk 109 = 9]) rfl ⟨rfl, rfl, trivial⟩) ?_
          refine Go_if_ne bk_Pz_journey 28 rfl (fun c8 => ?_) (fun c8 => ?_)
          · have h := ifF c8 h
            obtain ⟨g7, h⟩ := gdS h
            refine Go.t (Go_sg bk_Pz_journey 33 11 (c2 := (some 85, [some (.ref 0), some (.int v1), some (.int v2), some (.int x4)], [.int (144 : Int32), .int (0 : Int32), .ref (rfv 22 v1.toNatClampNeg), .int (0 : Int32), .ref 125], sI σ5 109 1 (0 : Int32))) (ps := [shk 0 = 10, shk 124 = 6, shk 0 = 10, shk 1 = 3, IR 22 12 ∧ inb v1 12 = true]) rfl ⟨rfl, rfl, rfl, rfl, ⟨⟨rfl, rfl⟩, g7⟩, trivial⟩) ?_
            refine Go.t (Go_copy bk_Pz_journey 44 rfl tw834 ⟨rfl, rfl⟩ (rw_22 g7) (Nat.le_of_ble_eq_true rfl) 144 rfl rfl (Nat.le_of_ble_eq_true rfl) (Nat.le_of_ble_eq_true rfl) (Nat.le_of_ble_eq_true rfl)) ?_
            have h := Option.some.inj h
            subst h
            refine Go.t (Go_sg bk_Pz_journey 45 17 (c2 := (some 121, [some (.ref 0), some (.int v1), some (.int v2), some (.int x4)], [.int ((sI (sI (cpI (sI σ5 109 1 (0 : Int32)) 125 (rfv 22 v1.toNatClampNeg) 144) 35 v1.toNatClampNeg ((cpI (sI σ5 109 1 (0 : Int32)) 125 (rfv 22 v1.toNatClampNeg) 144).1 124 5)) 36 v1.toNatClampNeg (0 : Int32)).1 124 5)], sI (sI (cpI (sI σ5 109 1 (0 : Int32)) 125 (rfv 22 v1.toNatClampNeg) 144) 35 v1.toNatClampNeg ((cpI (sI σ5 109 1 (0 : Int32)) 125 (rfv 22 v1.toNatClampNeg) 144).1 124 5)) 36 v1.toNatClampNeg (0 : Int32))) (ps := [shk 0 = 10, shk 1 = 3, shk 0 = 10, shk 124 = 6, IA 35 12 ∧ inb v1 12 = true, shk 0 = 10, shk 1 = 3, IA 36 12 ∧ inb v1 12 = true, shk 0 = 10, shk 124 = 6]) rfl ⟨rfl, rfl, rfl, rfl, ⟨⟨rfl, rfl⟩, g7⟩, rfl, rfl, ⟨⟨rfl, rfl⟩, g7⟩, rfl, rfl, trivial⟩) ?_
            exact Go_reti bk_Pz_journey 62 rfl
          · have h := ifT c8 h
            have h := Option.some.inj h
            subst h
            refine Go.t (Go_sg bk_Pz_journey 29 3 (c2 := (some 63, [some (.ref 0), some (.int v1), some (.int v2), some (.int x4)], [.int ((sI σ5 109 1 (0 : Int32)).1 124 3)], sI σ5 109 1 (0 : Int32))) (ps := [shk 0 = 10, shk 124 = 6]) rfl ⟨rfl, rfl, trivial⟩) ?_
            exact Go_reti bk_Pz_journey 32 rfl
        · have h := ifF c9 h
          have h := Option.some.inj h
          subst h
          refine Go.t (Go_sg bk_Pz_journey 16 1 (c2 := (some 34, [some (.ref 0), some (.int v1), some (.int v2), none], [.int (-1 : Int32)], σ)) (ps := []) rfl trivial) ?_
          exact Go_reti bk_Pz_journey 17 rfl
def Pz_journey (v1 : Int32) (v2 : Int32) (σ : MH) : Option (Int32 × MH) := Pz_journey0 v1 v2 σ
set_option maxRecDepth 20000 in
set_option maxHeartbeats 2000000 in
theorem ev_Pz_journey (v1 : Int32) (v2 : Int32)  (σ : MH) {o} (h : Pz_journey v1 v2 σ = some o) : Ev m_Pz_journey 5 [.ref 0, .int v1, .int v2] σ (some (.int o.1)) o.2 := Ev.of2 (by decide +kernel) rfl (Nat.le_of_ble_eq_true rfl) ⟨.int, rfl, rfl⟩ (t_Pz_journey0 v1 v2 σ h)
def cH_Course_travel_2 (v1 : Nat) (s : Int32 × MH) : MC := (some 2, [none, some (.ref v1), some (.int s.1), none], [], s.2)
def cR_Course_travel_2 (v1 : Nat) : ((MH)) → MC := (fun r : MH => ((none, [], [], r) : MC))
def Course_travel_b67 (v1 : Nat) (v2 : Int32) (σ : MH) : Option (((Int32 × MH) ⊕ ((MH)))) := some (.inl (v2 + (1 : Int32), σ))
set_option maxRecDepth 20000 in
set_option maxHeartbeats 2000000 in
theorem t_Course_travel_b67 (v1 : Nat) (v2 : Int32) (hv1 : isLd v1)  (σ : MH) {o} (h : Course_travel_b67 v1 v2 σ = some o) : Go m_Course_travel 4 (some 67, [none, some (.ref v1), some (.int v2), none], [], σ) (cS (cH_Course_travel_2 v1) (cR_Course_travel_2 v1) o) := by
  unfold Course_travel_b67 at h
  refine Go.t (Go_sg bk_Course_travel 42 2 (c2 := (some 2, [none, some (.ref v1), some (.int (v2 + (1 : Int32))), none], [], σ)) (ps := []) rfl trivial) ?_
  have h := Option.some.inj h
  subst h
  exact Go.fg (LSub.cn (LSub.cs (LSub.cs (LSub.cn (LSub.nil)))))
def Course_travel_l2 (v1 : Nat) (v2 : Int32) (σ : MH) : Option (((Int32 × MH) ⊕ ((MH)))) := if (12 : Int32) ≤ v2 then some (.inr (σ)) else (if inb v2 12 = true then (Land_isFree v1 v2 σ).bind fun x2 => if x2 = (0 : Int32) then (Course_travel_b67 v1 v2 σ) else (if σ.1 (rfv v1 12) v2.toNatClampNeg < (0 : Int32) then (Course_travel_b67 v1 v2 σ) else (if σ.1 (rfv v1 11) v2.toNatClampNeg ≤ σ.1 (rfv v1 12) v2.toNatClampNeg then (Course_travel_b67 v1 v2 σ) else (if (144 : Int32) ≤ σ.1 (rfv v1 12) v2.toNatClampNeg then (Course_travel_b67 v1 v2 σ) else (if inb (σ.1 (rfv v1 12) v2.toNatClampNeg) 144 = true then Course_travel_b67 v1 v2 (sI (sI σ (rfv v1 3) v2.toNatClampNeg (σ.1 (rfv (rfv v1 10) v2.toNatClampNeg) (σ.1 (rfv v1 12) v2.toNatClampNeg).toNatClampNeg)) (rfv v1 12) v2.toNatClampNeg ((σ.1 (rfv v1 12) v2.toNatClampNeg) + (1 : Int32))) else none)))) else none)
set_option maxRecDepth 20000 in
set_option maxHeartbeats 2000000 in
theorem t_Course_travel_l2 (v1 : Nat) (v2 : Int32) (hv1 : isLd v1) (σ : MH) {o} (h : Course_travel_l2 v1 v2 σ = some o) : Go m_Course_travel 4 (cH_Course_travel_2 v1 (v2, σ)) (cS (cH_Course_travel_2 v1) (cR_Course_travel_2 v1) o) := by
  unfold Course_travel_l2 at h
  unfold cH_Course_travel_2
  refine Go.t (Go_sg bk_Course_travel 2 2 (c2 := (some 5, [none, some (.ref v1), some (.int v2), none], [.int (12 : Int32), .int v2], σ)) (ps := []) rfl trivial) ?_
  refine Go_icmp_ge bk_Course_travel 4 rfl (fun c10 => ?_) (fun c10 => ?_)
  · have h := ifT c10 h
    have h := Option.some.inj h
    subst h
    exact Go_ret0 bk_Course_travel 44 rfl
  · have h := ifF c10 h
    obtain ⟨g1, h⟩ := gdS h
    refine Go.t (Go_sg bk_Course_travel 5 7 (c2 := (some 17, [none, some (.ref v1), some (.int v2), some (.int (σ.1 (rfv v1 12) v2.toNatClampNeg))], [.int v2, .ref v1], σ)) (ps := [shk v1 = 3, IA (rfv v1 12) 12 ∧ inb v2 12 = true]) rfl ⟨(ldk hv1), ⟨(ldA hv1 12 rfl), g1⟩, trivial⟩) ?_
    obtain ⟨x2, q4, h⟩ := bdS h
    refine Go.t (Go_callV bk_Course_travel 12 rfl nk_Land_isFree tw847 tw585 tw586 (ci := 3) rfl (as := [.int v2]) (S := []) (ldk hv1) rfl rfl rfl (Nat.le_of_ble_eq_true rfl) (Nat.le_of_ble_eq_true rfl) (ev_Land_isFree _ _ hv1 _ q4)) ?_
    refine Go_if_eq bk_Course_travel 13 rfl (fun c9 => ?_) (fun c9 => ?_)
    · have h := ifT c9 h
      exact Go.t (Go.fg (LSub.cn (LSub.cs (LSub.cs (LSub.cn (LSub.nil)))))) (t_Course_travel_b67 v1 v2 hv1 σ h)
    · have h := ifF c9 h
      refine Go.t (Go_sg bk_Course_travel 14 1 (c2 := (some 24, [none, some (.ref v1), some (.int v2), some (.int (σ.1 (rfv v1 12) v2.toNatClampNeg))], [.int (σ.1 (rfv v1 12) v2.toNatClampNeg)], σ)) (ps := []) rfl trivial) ?_
      refine Go_if_lt bk_Course_travel 15 rfl (fun c8 => ?_) (fun c8 => ?_)
      · have h := ifT c8 h
        exact Go.t (Go.fg (LSub.cn (LSub.cs (LSub.cs (LSub.cn (LSub.nil)))))) (t_Course_travel_b67 v1 v2 hv1 σ h)
      · have h := ifF c8 h
        refine Go.t (Go_sg bk_Course_travel 16 5 (c2 := (some 34, [none, some (.ref v1), some (.int v2), some (.int (σ.1 (rfv v1 12) v2.toNatClampNeg))], [.int (σ.1 (rfv v1 11) v2.toNatClampNeg), .int (σ.1 (rfv v1 12) v2.toNatClampNeg)], σ)) (ps := [shk v1 = 3, IA (rfv v1 11) 12 ∧ inb v2 12 = true]) rfl ⟨(ldk hv1), ⟨(ldA hv1 11 rfl), g1⟩, trivial⟩) ?_
        refine Go_icmp_ge bk_Course_travel 21 rfl (fun c7 => ?_) (fun c7 => ?_)
        · have h := ifT c7 h
          exact Go.t (Go.fg (LSub.cn (LSub.cs (LSub.cs (LSub.cn (LSub.nil)))))) (t_Course_travel_b67 v1 v2 hv1 σ h)
        · have h := ifF c7 h
          refine Go.t (Go_sg bk_Course_travel 22 2 (c2 := (some 41, [none, some (.ref v1), some (.int v2), some (.int (σ.1 (rfv v1 12) v2.toNatClampNeg))], [.int (144 : Int32), .int (σ.1 (rfv v1 12) v2.toNatClampNeg)], σ)) (ps := []) rfl trivial) ?_
          refine Go_icmp_ge bk_Course_travel 24 rfl (fun c6 => ?_) (fun c6 => ?_)
          · have h := ifT c6 h
            exact Go.t (Go.fg (LSub.cn (LSub.cs (LSub.cs (LSub.cn (LSub.nil)))))) (t_Course_travel_b67 v1 v2 hv1 σ h)
          · have h := ifF c6 h
            obtain ⟨g5, h⟩ := gdS h
            refine Go.t (Go_sg bk_Course_travel 25 17 (c2 := (some 67, [none, some (.ref v1), some (.int v2), some (.int (σ.1 (rfv v1 12) v2.toNatClampNeg))], [], sI (sI σ (rfv v1 3) v2.toNatClampNeg (σ.1 (rfv (rfv v1 10) v2.toNatClampNeg) (σ.1 (rfv v1 12) v2.toNatClampNeg).toNatClampNeg)) (rfv v1 12) v2.toNatClampNeg ((σ.1 (rfv v1 12) v2.toNatClampNeg) + (1 : Int32)))) (ps := [shk v1 = 3, shk v1 = 3, IR (rfv v1 10) 12 ∧ inb v2 12 = true, IA (rfv (rfv v1 10) v2.toNatClampNeg) 144 ∧ inb (σ.1 (rfv v1 12) v2.toNatClampNeg) 144 = true, IA (rfv v1 3) 12 ∧ inb v2 12 = true, shk v1 = 3, IA (rfv v1 12) 12 ∧ inb v2 12 = true]) rfl ⟨(ldk hv1), (ldk hv1), ⟨(ldR hv1 10 rfl), g1⟩, ⟨(ldW hv1 g1), g5⟩, ⟨(ldA hv1 3 rfl), g1⟩, (ldk hv1), ⟨(ldA hv1 12 rfl), g1⟩, trivial⟩) ?_
            exact Go.t (Go.fg (LSub.cn (LSub.cs (LSub.cs (LSub.cn (LSub.nil)))))) (t_Course_travel_b67 v1 v2 hv1 (sI (sI σ (rfv v1 3) v2.toNatClampNeg (σ.1 (rfv (rfv v1 10) v2.toNatClampNeg) (σ.1 (rfv v1 12) v2.toNatClampNeg).toNatClampNeg)) (rfv v1 12) v2.toNatClampNeg ((σ.1 (rfv v1 12) v2.toNatClampNeg) + (1 : Int32))) h)
def Course_travel_L2 (v1 : Nat) (s : Int32 × MH) : Option ((MH)) := itr (fun s : Int32 × MH => Course_travel_l2 v1 s.1 s.2) FU s
set_option maxRecDepth 20000 in
set_option maxHeartbeats 2000000 in
theorem t_Course_travel_L2 (v1 : Nat) (hv1 : isLd v1) (s : Int32 × MH) {r} (h : Course_travel_L2 v1 s = some r) : Go m_Course_travel 4 (cH_Course_travel_2 v1 s) (cR_Course_travel_2 v1 r) := Go_itr (fun s o ho => t_Course_travel_l2 v1 s.1 hv1 s.2 ho) FU s r h
def Course_travel0 (v1 : Nat) (σ : MH) : Option (MH) := (Course_travel_L2 v1 ((0 : Int32), σ)).bind fun z11 => some (z11)
set_option maxRecDepth 20000 in
set_option maxHeartbeats 2000000 in
theorem t_Course_travel0 (v1 : Nat) (hv1 : isLd v1) (σ : MH) {o} (h : Course_travel0 v1 σ = some o) : Go m_Course_travel 4 (some 0, [some (.ref 128), some (.ref v1), none, none], [], σ) ((none, [], [], o)) := by
  unfold Course_travel0 at h
  refine Go.t (Go_sg bk_Course_travel 0 2 (c2 := (some 2, [some (.ref 128), some (.ref v1), some (.int (0 : Int32)), none], [], σ)) (ps := []) rfl trivial) ?_
  obtain ⟨z11, q12, h⟩ := bdS h
  refine Go.t (Go.t (Go.fg (LSub.cn (LSub.cs (LSub.cs (LSub.cn (LSub.nil)))))) (t_Course_travel_L2 v1 hv1 _ q12)) ?_
  have h := Option.some.inj h
  subst h
  exact Go.rf
def Course_travel (v1 : Nat) (σ : MH) : Option (MH) := Course_travel0 v1 σ
set_option maxRecDepth 20000 in
set_option maxHeartbeats 2000000 in
theorem ev_Course_travel (v1 : Nat) (hv1 : isLd v1) (σ : MH) {o} (h : Course_travel v1 σ = some o) : Ev m_Course_travel 4 [.ref 128, .ref v1] σ none o := Ev.of2 (by decide +kernel) rfl (Nat.le_of_ble_eq_true rfl) rfl (t_Course_travel0 v1 hv1 σ h)
def Land_hasTried0 (v0 : Nat) (v1 : Int32) (v2 : Int32) (σ : MH) : Option (Int32) := (Pz_isNumber v1 σ).bind fun x1 => if x1 = (0 : Int32) then some ((0 : Int32)) else ((Pz_isNumber v2 σ).bind fun x4 => if x4 = (0 : Int32) then some ((0 : Int32)) else (if inb v1 12 = true then if (jshr (σ.1 (rfv v0 6) v1.toNatClampNeg) v2) &&& (1 : Int32) = (1 : Int32) then some ((1 : Int32)) else some ((0 : Int32)) else none))
set_option maxRecDepth 20000 in
set_option maxHeartbeats 2000000 in
theorem t_Land_hasTried0 (v0 : Nat) (v1 : Int32) (v2 : Int32) (hv0 : isLd v0) (σ : MH) {o} (h : Land_hasTried0 v0 v1 v2 σ = some o) : Go m_Land_hasTried 2 (some 0, [some (.ref v0), some (.int v1), some (.int v2)], [], σ) ((none, [], [.int o], σ)) := by
  unfold Land_hasTried0 at h
  refine Go.t (Go_sg bk_Land_hasTried 0 1 (c2 := (some 1, [some (.ref v0), some (.int v1), some (.int v2)], [.int v1], σ)) (ps := []) rfl trivial) ?_
  obtain ⟨x1, q3, h⟩ := bdS h
  refine Go.t (Go_callN bk_Land_hasTried 1 rfl nk_Pz_isNumber (host := RX11) (by decide +kernel) tw553 (as := [.int v1]) (S := []) rfl rfl rfl (Nat.le_of_ble_eq_true rfl) (Nat.le_of_ble_eq_true rfl) (ev_Pz_isNumber _ _ q3)) ?_
  refine Go_if_eq bk_Land_hasTried 2 rfl (fun c10 => ?_) (fun c10 => ?_)
  · have h := ifT c10 h
    have h := Option.some.inj h
    subst h
    refine Go.t (Go_sg bk_Land_hasTried 18 1 (c2 := (some 33, [some (.ref v0), some (.int v1), some (.int v2)], [.int (0 : Int32)], σ)) (ps := []) rfl trivial) ?_
    exact Go_reti bk_Land_hasTried 19 rfl
  · have h := ifF c10 h
    refine Go.t (Go_sg bk_Land_hasTried 3 1 (c2 := (some 8, [some (.ref v0), some (.int v1), some (.int v2)], [.int v2], σ)) (ps := []) rfl trivial) ?_
    obtain ⟨x4, q6, h⟩ := bdS h
    refine Go.t (Go_callN bk_Land_hasTried 4 rfl nk_Pz_isNumber (host := RX11) (by decide +kernel) tw553 (as := [.int v2]) (S := []) rfl rfl rfl (Nat.le_of_ble_eq_true rfl) (Nat.le_of_ble_eq_true rfl) (ev_Pz_isNumber _ _ q6)) ?_
    refine Go_if_eq bk_Land_hasTried 5 rfl (fun c9 => ?_) (fun c9 => ?_)
    · have h := ifT c9 h
      have h := Option.some.inj h
      subst h
      refine Go.t (Go_sg bk_Land_hasTried 18 1 (c2 := (some 33, [some (.ref v0), some (.int v1), some (.int v2)], [.int (0 : Int32)], σ)) (ps := []) rfl trivial) ?_
      exact Go_reti bk_Land_hasTried 19 rfl
    · have h := ifF c9 h
      obtain ⟨g7, h⟩ := gdS h
      refine Go.t (Go_sg bk_Land_hasTried 6 9 (c2 := (some 25, [some (.ref v0), some (.int v1), some (.int v2)], [.int (1 : Int32), .int ((jshr (σ.1 (rfv v0 6) v1.toNatClampNeg) v2) &&& (1 : Int32))], σ)) (ps := [shk v0 = 3, IA (rfv v0 6) 12 ∧ inb v1 12 = true]) rfl ⟨(ldk hv0), ⟨(ldA hv0 6 rfl), g7⟩, trivial⟩) ?_
      refine Go_icmp_ne bk_Land_hasTried 15 rfl (fun c8 => ?_) (fun c8 => ?_)
      · have h := ifF c8 h
        have h := Option.some.inj h
        subst h
        refine Go.t (Go_sg bk_Land_hasTried 18 1 (c2 := (some 33, [some (.ref v0), some (.int v1), some (.int v2)], [.int (0 : Int32)], σ)) (ps := []) rfl trivial) ?_
        exact Go_reti bk_Land_hasTried 19 rfl
      · have h := ifT c8 h
        refine Go.t (Go_sg bk_Land_hasTried 16 2 (c2 := (some 33, [some (.ref v0), some (.int v1), some (.int v2)], [.int (1 : Int32)], σ)) (ps := []) rfl trivial) ?_
        have h := Option.some.inj h
        subst h
        exact Go_reti bk_Land_hasTried 19 rfl
def Land_hasTried (v0 : Nat) (v1 : Int32) (v2 : Int32) (σ : MH) : Option (Int32) := bzp (Land_hasTried0 v0 v1 v2 σ)
set_option maxRecDepth 20000 in
set_option maxHeartbeats 2000000 in
theorem ev_Land_hasTried (v0 : Nat) (v1 : Int32) (v2 : Int32) (hv0 : isLd v0) (σ : MH) {o} (h : Land_hasTried v0 v1 v2 σ = some o) : Ev m_Land_hasTried 2 [.ref v0, .int v1, .int v2] σ (some (.int o)) σ := Ev.of2 (by decide +kernel) rfl (Nat.le_of_ble_eq_true rfl) ⟨.boolean, rfl, nrB (bzp2 h)⟩ (t_Land_hasTried0 v0 v1 v2 hv0 σ (bzp1 h))
def cH_Course_nextFor_31 (v0 : Nat) (v1 : Int32) (v2 : Int32) (σ : MH) (s : Int32) : MC := (some 31, [some (.ref v0), some (.int v1), some (.int v2), some (.int s)], [], σ)
def cR_Course_nextFor_31 (v0 : Nat) (v1 : Int32) (v2 : Int32) (σ : MH) : ((Int32)) → MC := (fun r : Int32 => ((none, [], [.int r], σ) : MC))
def Course_nextFor_b76 (v0 : Nat) (v1 : Int32) (v2 : Int32) (v3 : Int32) (σ : MH) : Option (((Int32) ⊕ ((Int32)))) := some (.inl (v3 + (1 : Int32)))
set_option maxRecDepth 20000 in
set_option maxHeartbeats 2000000 in
theorem t_Course_nextFor_b76 (v0 : Nat) (v1 : Int32) (v2 : Int32) (v3 : Int32) (hv0 : isLd v0)  (σ : MH) {o} (h : Course_nextFor_b76 v0 v1 v2 v3 σ = some o) : Go m_Course_nextFor 4 (some 76, [some (.ref v0), some (.int v1), some (.int v2), some (.int v3)], [], σ) (cS (cH_Course_nextFor_31 v0 v1 v2 σ) (cR_Course_nextFor_31 v0 v1 v2 σ) o) := by
  unfold Course_nextFor_b76 at h
  refine Go.t (Go_sg bk_Course_nextFor 45 2 (c2 := (some 31, [some (.ref v0), some (.int v1), some (.int v2), some (.int (v3 + (1 : Int32)))], [], σ)) (ps := []) rfl trivial) ?_
  have h := Option.some.inj h
  subst h
  exact Go.fg (LSub.cs (LSub.cs (LSub.cs (LSub.cs (LSub.nil)))))
def Course_nextFor_l31 (v0 : Nat) (v1 : Int32) (v2 : Int32) (v3 : Int32) (σ : MH) : Option (((Int32) ⊕ ((Int32)))) := if (12 : Int32) ≤ v3 then some (.inr ((-1 : Int32))) else ((Land_isFree v0 v3 σ).bind fun x5 => if x5 = (0 : Int32) then (Course_nextFor_b76 v0 v1 v2 v3 σ) else (if inb v3 12 = true then if σ.1 (rfv v0 2) v3.toNatClampNeg = (1 : Int32) then (if σ.1 (rfv v0 3) v3.toNatClampNeg = v2 then ((Land_hasTried v0 v1 v3 σ).bind fun x9 => if x9 = (0 : Int32) then some (.inr (v3)) else (Course_nextFor_b76 v0 v1 v2 v3 σ)) else (Course_nextFor_b76 v0 v1 v2 v3 σ)) else (Course_nextFor_b76 v0 v1 v2 v3 σ) else none))
set_option maxRecDepth 20000 in
set_option maxHeartbeats 2000000 in
theorem t_Course_nextFor_l31 (v0 : Nat) (v1 : Int32) (v2 : Int32) (v3 : Int32) (hv0 : isLd v0) (σ : MH) {o} (h : Course_nextFor_l31 v0 v1 v2 v3 σ = some o) : Go m_Course_nextFor 4 (cH_Course_nextFor_31 v0 v1 v2 σ (v3)) (cS (cH_Course_nextFor_31 v0 v1 v2 σ) (cR_Course_nextFor_31 v0 v1 v2 σ) o) := by
  unfold Course_nextFor_l31 at h
  unfold cH_Course_nextFor_31
  refine Go.t (Go_sg bk_Course_nextFor 19 2 (c2 := (some 34, [some (.ref v0), some (.int v1), some (.int v2), some (.int v3)], [.int (12 : Int32), .int v3], σ)) (ps := []) rfl trivial) ?_
  refine Go_icmp_ge bk_Course_nextFor 21 rfl (fun c16 => ?_) (fun c16 => ?_)
  · have h := ifT c16 h
    have h := Option.some.inj h
    subst h
    refine Go.t (Go_sg bk_Course_nextFor 47 1 (c2 := (some 83, [some (.ref v0), some (.int v1), some (.int v2), some (.int v3)], [.int (-1 : Int32)], σ)) (ps := []) rfl trivial) ?_
    exact Go_reti bk_Course_nextFor 48 rfl
  · have h := ifF c16 h
    refine Go.t (Go_sg bk_Course_nextFor 22 2 (c2 := (some 39, [some (.ref v0), some (.int v1), some (.int v2), some (.int v3)], [.int v3, .ref v0], σ)) (ps := []) rfl trivial) ?_
    obtain ⟨x5, q7, h⟩ := bdS h
    refine Go.t (Go_callV bk_Course_nextFor 24 rfl nk_Land_isFree tw847 tw585 tw586 (ci := 3) rfl (as := [.int v3]) (S := []) (ldk hv0) rfl rfl rfl (Nat.le_of_ble_eq_true rfl) (Nat.le_of_ble_eq_true rfl) (ev_Land_isFree _ _ hv0 _ q7)) ?_
    refine Go_if_eq bk_Course_nextFor 25 rfl (fun c15 => ?_) (fun c15 => ?_)
    · have h := ifT c15 h
      exact Go.t (Go.fg (LSub.cs (LSub.cs (LSub.cs (LSub.cs (LSub.nil)))))) (t_Course_nextFor_b76 v0 v1 v2 v3 hv0 σ h)
    · have h := ifF c15 h
      obtain ⟨g8, h⟩ := gdS h
      refine Go.t (Go_sg bk_Course_nextFor 26 5 (c2 := (some 52, [some (.ref v0), some (.int v1), some (.int v2), some (.int v3)], [.int (1 : Int32), .int (σ.1 (rfv v0 2) v3.toNatClampNeg)], σ)) (ps := [shk v0 = 3, IA (rfv v0 2) 12 ∧ inb v3 12 = true]) rfl ⟨(ldk hv0), ⟨(ldA hv0 2 rfl), g8⟩, trivial⟩) ?_
      refine Go_icmp_ne bk_Course_nextFor 31 rfl (fun c14 => ?_) (fun c14 => ?_)
      · have h := ifF c14 h
        exact Go.t (Go.fg (LSub.cs (LSub.cs (LSub.cs (LSub.cs (LSub.nil)))))) (t_Course_nextFor_b76 v0 v1 v2 v3 hv0 σ h)
      · have h := ifT c14 h
        refine Go.t (Go_sg bk_Course_nextFor 32 5 (c2 := (some 62, [some (.ref v0), some (.int v1), some (.int v2), some (.int v3)], [.int v2, .int (σ.1 (rfv v0 3) v3.toNatClampNeg)], σ)) (ps := [shk v0 = 3, IA (rfv v0 3) 12 ∧ inb v3 12 = true]) rfl ⟨(ldk hv0), ⟨(ldA hv0 3 rfl), g8⟩, trivial⟩) ?_
        refine Go_icmp_ne bk_Course_nextFor 37 rfl (fun c13 => ?_) (fun c13 => ?_)
        · have h := ifF c13 h
          exact Go.t (Go.fg (LSub.cs (LSub.cs (LSub.cs (LSub.cs (LSub.nil)))))) (t_Course_nextFor_b76 v0 v1 v2 v3 hv0 σ h)
        · have h := ifT c13 h
          refine Go.t (Go_sg bk_Course_nextFor 38 3 (c2 := (some 68, [some (.ref v0), some (.int v1), some (.int v2), some (.int v3)], [.int v3, .int v1, .ref v0], σ)) (ps := []) rfl trivial) ?_
          obtain ⟨x9, q11, h⟩ := bdS h
          refine Go.t (Go_callV bk_Course_nextFor 41 rfl nk_Land_hasTried tw855 tw856 tw857 (ci := 3) rfl (as := [.int v1, .int v3]) (S := []) (ldk hv0) rfl rfl rfl (Nat.le_of_ble_eq_true rfl) (Nat.le_of_ble_eq_true rfl) (ev_Land_hasTried _ _ _ hv0 _ q11)) ?_
          refine Go_if_ne bk_Course_nextFor 42 rfl (fun c12 => ?_) (fun c12 => ?_)
          · have h := ifF c12 h
            exact Go.t (Go.fg (LSub.cs (LSub.cs (LSub.cs (LSub.cs (LSub.nil)))))) (t_Course_nextFor_b76 v0 v1 v2 v3 hv0 σ h)
          · have h := ifT c12 h
            have h := Option.some.inj h
            subst h
            refine Go.t (Go_sg bk_Course_nextFor 43 1 (c2 := (some 75, [some (.ref v0), some (.int v1), some (.int v2), some (.int v3)], [.int v3], σ)) (ps := []) rfl trivial) ?_
            exact Go_reti bk_Course_nextFor 44 rfl
def Course_nextFor_L31 (v0 : Nat) (v1 : Int32) (v2 : Int32) (σ : MH) (s : Int32) : Option ((Int32)) := itr (fun s : Int32 => Course_nextFor_l31 v0 v1 v2 s σ) FU s
set_option maxRecDepth 20000 in
set_option maxHeartbeats 2000000 in
theorem t_Course_nextFor_L31 (v0 : Nat) (v1 : Int32) (v2 : Int32) (hv0 : isLd v0) (σ : MH) (s : Int32) {r} (h : Course_nextFor_L31 v0 v1 v2 σ s = some r) : Go m_Course_nextFor 4 (cH_Course_nextFor_31 v0 v1 v2 σ s) (cR_Course_nextFor_31 v0 v1 v2 σ r) := Go_itr (fun s o ho => t_Course_nextFor_l31 v0 v1 v2 s hv0 σ ho) FU s r h
def Course_nextFor0 (v0 : Nat) (v1 : Int32) (v2 : Int32) (σ : MH) : Option (Int32) := (Land_isFree v0 v1 σ).bind fun x1 => if x1 = (0 : Int32) then some ((-1 : Int32)) else (if inb v1 12 = true then if σ.1 (rfv v0 2) v1.toNatClampNeg = (0 : Int32) then (if σ.1 (rfv v0 3) v1.toNatClampNeg = v2 then ((Course_nextFor_L31 v0 v1 v2 σ ((0 : Int32))).bind fun z17 => some (z17)) else some ((-1 : Int32))) else some ((-1 : Int32)) else none)
set_option maxRecDepth 20000 in
set_option maxHeartbeats 2000000 in
theorem t_Course_nextFor0 (v0 : Nat) (v1 : Int32) (v2 : Int32) (hv0 : isLd v0) (σ : MH) {o} (h : Course_nextFor0 v0 v1 v2 σ = some o) : Go m_Course_nextFor 4 (some 0, [some (.ref v0), some (.int v1), some (.int v2), none], [], σ) ((none, [], [.int o], σ)) := by
  unfold Course_nextFor0 at h
  refine Go.t (Go_sg bk_Course_nextFor 0 2 (c2 := (some 2, [some (.ref v0), some (.int v1), some (.int v2), none], [.int v1, .ref v0], σ)) (ps := []) rfl trivial) ?_
  obtain ⟨x1, q3, h⟩ := bdS h
  refine Go.t (Go_callV bk_Course_nextFor 2 rfl nk_Land_isFree tw847 tw585 tw586 (ci := 3) rfl (as := [.int v1]) (S := []) (ldk hv0) rfl rfl rfl (Nat.le_of_ble_eq_true rfl) (Nat.le_of_ble_eq_true rfl) (ev_Land_isFree _ _ hv0 _ q3)) ?_
  refine Go_if_eq bk_Course_nextFor 3 rfl (fun c21 => ?_) (fun c21 => ?_)
  · have h := ifT c21 h
    have h := Option.some.inj h
    subst h
    refine Go.t (Go_sg bk_Course_nextFor 15 1 (c2 := (some 28, [some (.ref v0), some (.int v1), some (.int v2), none], [.int (-1 : Int32)], σ)) (ps := []) rfl trivial) ?_
    exact Go_reti bk_Course_nextFor 16 rfl
  · have h := ifF c21 h
    obtain ⟨g4, h⟩ := gdS h
    refine Go.t (Go_sg bk_Course_nextFor 4 4 (c2 := (some 14, [some (.ref v0), some (.int v1), some (.int v2), none], [.int (σ.1 (rfv v0 2) v1.toNatClampNeg)], σ)) (ps := [shk v0 = 3, IA (rfv v0 2) 12 ∧ inb v1 12 = true]) rfl ⟨(ldk hv0), ⟨(ldA hv0 2 rfl), g4⟩, trivial⟩) ?_
    refine Go_if_ne bk_Course_nextFor 8 rfl (fun c20 => ?_) (fun c20 => ?_)
    · have h := ifF c20 h
      have h := Option.some.inj h
      subst h
      refine Go.t (Go_sg bk_Course_nextFor 15 1 (c2 := (some 28, [some (.ref v0), some (.int v1), some (.int v2), none], [.int (-1 : Int32)], σ)) (ps := []) rfl trivial) ?_
      exact Go_reti bk_Course_nextFor 16 rfl
    · have h := ifT c20 h
      refine Go.t (Go_sg bk_Course_nextFor 9 5 (c2 := (some 24, [some (.ref v0), some (.int v1), some (.int v2), none], [.int v2, .int (σ.1 (rfv v0 3) v1.toNatClampNeg)], σ)) (ps := [shk v0 = 3, IA (rfv v0 3) 12 ∧ inb v1 12 = true]) rfl ⟨(ldk hv0), ⟨(ldA hv0 3 rfl), g4⟩, trivial⟩) ?_
      refine Go_icmp_eq bk_Course_nextFor 14 rfl (fun c19 => ?_) (fun c19 => ?_)
      · have h := ifT c19 h
        refine Go.t (Go_sg bk_Course_nextFor 17 2 (c2 := (some 31, [some (.ref v0), some (.int v1), some (.int v2), some (.int (0 : Int32))], [], σ)) (ps := []) rfl trivial) ?_
        obtain ⟨z17, q18, h⟩ := bdS h
        refine Go.t (Go.t (Go.fg (LSub.cs (LSub.cs (LSub.cs (LSub.cs (LSub.nil)))))) (t_Course_nextFor_L31 v0 v1 v2 hv0 σ _ q18)) ?_
        have h := Option.some.inj h
        subst h
        exact Go.rf
      · have h := ifF c19 h
        have h := Option.some.inj h
        subst h
        refine Go.t (Go_sg bk_Course_nextFor 15 1 (c2 := (some 28, [some (.ref v0), some (.int v1), some (.int v2), none], [.int (-1 : Int32)], σ)) (ps := []) rfl trivial) ?_
        exact Go_reti bk_Course_nextFor 16 rfl
def Course_nextFor (v0 : Nat) (v1 : Int32) (v2 : Int32) (σ : MH) : Option (Int32) := Course_nextFor0 v0 v1 v2 σ
set_option maxRecDepth 20000 in
set_option maxHeartbeats 2000000 in
theorem ev_Course_nextFor (v0 : Nat) (v1 : Int32) (v2 : Int32) (hv0 : isLd v0) (σ : MH) {o} (h : Course_nextFor v0 v1 v2 σ = some o) : Ev m_Course_nextFor 4 [.ref v0, .int v1, .int v2] σ (some (.int o)) σ := Ev.of2 (by decide +kernel) rfl (Nat.le_of_ble_eq_true rfl) ⟨.int, rfl, rfl⟩ (t_Course_nextFor0 v0 v1 v2 hv0 σ h)
def Land_markTried0 (v0 : Nat) (v1 : Int32) (v2 : Int32) (σ : MH) : Option (MH) := (Pz_isNumber v1 σ).bind fun x1 => if x1 = (0 : Int32) then some (σ) else ((Pz_isNumber v2 σ).bind fun x4 => if x4 = (0 : Int32) then some (σ) else (if inb v1 12 = true then if inb v2 12 = true then some (sI (sI σ (rfv v0 6) v1.toNatClampNeg ((σ.1 (rfv v0 6) v1.toNatClampNeg) ||| (jshl (1 : Int32) v2))) (rfv v0 6) v2.toNatClampNeg (((sI σ (rfv v0 6) v1.toNatClampNeg ((σ.1 (rfv v0 6) v1.toNatClampNeg) ||| (jshl (1 : Int32) v2))).1 (rfv v0 6) v2.toNatClampNeg) ||| (jshl (1 : Int32) v1))) else none else none))
set_option maxRecDepth 20000 in
set_option maxHeartbeats 2000000 in
theorem t_Land_markTried0 (v0 : Nat) (v1 : Int32) (v2 : Int32) (hv0 : isLd v0) (σ : MH) {o} (h : Land_markTried0 v0 v1 v2 σ = some o) : Go m_Land_markTried 2 (some 0, [some (.ref v0), some (.int v1), some (.int v2)], [], σ) ((none, [], [], o)) := by
  unfold Land_markTried0 at h
  refine Go.t (Go_sg bk_Land_markTried 0 1 (c2 := (some 1, [some (.ref v0), some (.int v1), some (.int v2)], [.int v1], σ)) (ps := []) rfl trivial) ?_
  obtain ⟨x1, q3, h⟩ := bdS h
  refine Go.t (Go_callN bk_Land_markTried 1 rfl nk_Pz_isNumber (host := RX11) (by decide +kernel) tw553 (as := [.int v1]) (S := []) rfl rfl rfl (Nat.le_of_ble_eq_true rfl) (Nat.le_of_ble_eq_true rfl) (ev_Pz_isNumber _ _ q3)) ?_
  refine Go_if_eq bk_Land_markTried 2 rfl (fun c10 => ?_) (fun c10 => ?_)
  · have h := ifT c10 h
    have h := Option.some.inj h
    subst h
    exact Go_ret0 bk_Land_markTried 26 rfl
  · have h := ifF c10 h
    refine Go.t (Go_sg bk_Land_markTried 3 1 (c2 := (some 8, [some (.ref v0), some (.int v1), some (.int v2)], [.int v2], σ)) (ps := []) rfl trivial) ?_
    obtain ⟨x4, q6, h⟩ := bdS h
    refine Go.t (Go_callN bk_Land_markTried 4 rfl nk_Pz_isNumber (host := RX11) (by decide +kernel) tw553 (as := [.int v2]) (S := []) rfl rfl rfl (Nat.le_of_ble_eq_true rfl) (Nat.le_of_ble_eq_true rfl) (ev_Pz_isNumber _ _ q6)) ?_
    refine Go_if_eq bk_Land_markTried 5 rfl (fun c9 => ?_) (fun c9 => ?_)
    · have h := ifT c9 h
      have h := Option.some.inj h
      subst h
      exact Go_ret0 bk_Land_markTried 26 rfl
    · have h := ifF c9 h
      obtain ⟨g7, h⟩ := gdS h
      obtain ⟨g8, h⟩ := gdS h
      have h := Option.some.inj h
      subst h
      refine Go.t (Go_sg bk_Land_markTried 6 20 (c2 := (some 38, [some (.ref v0), some (.int v1), some (.int v2)], [], sI (sI σ (rfv v0 6) v1.toNatClampNeg ((σ.1 (rfv v0 6) v1.toNatClampNeg) ||| (jshl (1 : Int32) v2))) (rfv v0 6) v2.toNatClampNeg (((sI σ (rfv v0 6) v1.toNatClampNeg ((σ.1 (rfv v0 6) v1.toNatClampNeg) ||| (jshl (1 : Int32) v2))).1 (rfv v0 6) v2.toNatClampNeg) ||| (jshl (1 : Int32) v1)))) (ps := [shk v0 = 3, IA (rfv v0 6) 12 ∧ inb v1 12 = true, IA (rfv v0 6) 12 ∧ inb v1 12 = true, shk v0 = 3, IA (rfv v0 6) 12 ∧ inb v2 12 = true, IA (rfv v0 6) 12 ∧ inb v2 12 = true]) rfl ⟨(ldk hv0), ⟨(ldA hv0 6 rfl), g7⟩, ⟨(ldA hv0 6 rfl), g7⟩, (ldk hv0), ⟨(ldA hv0 6 rfl), g8⟩, ⟨(ldA hv0 6 rfl), g8⟩, trivial⟩) ?_
      exact Go_ret0 bk_Land_markTried 26 rfl
def Land_markTried (v0 : Nat) (v1 : Int32) (v2 : Int32) (σ : MH) : Option (MH) := Land_markTried0 v0 v1 v2 σ
set_option maxRecDepth 20000 in
set_option maxHeartbeats 2000000 in
theorem ev_Land_markTried (v0 : Nat) (v1 : Int32) (v2 : Int32) (hv0 : isLd v0) (σ : MH) {o} (h : Land_markTried v0 v1 v2 σ = some o) : Ev m_Land_markTried 2 [.ref v0, .int v1, .int v2] σ none o := Ev.of2 (by decide +kernel) rfl (Nat.le_of_ble_eq_true rfl) rfl (t_Land_markTried0 v0 v1 v2 hv0 σ h)
def cH_Judge_gap_4 (v0 : Nat) (v1 : Nat) (σ : MH) (s : Int32 × Int32) : MC := (some 4, [some (.ref v0), some (.ref v1), some (.int s.1), some (.int s.2)], [], σ)
def cR_Judge_gap_4 (v0 : Nat) (v1 : Nat) (σ : MH) : ((Int32)) → MC := (fun r : Int32 => ((none, [], [.int r], σ) : MC))
def Judge_gap_l4 (v0 : Nat) (v1 : Nat) (v2 : Int32) (v3 : Int32) (σ : MH) : Option (((Int32 × Int32) ⊕ ((Int32)))) := if (8 : Int32) ≤ v3 then some (.inr (v2)) else (if inb v3 8 = true then if inb ((7 : Int32) - v3) 8 = true then some (.inl (v2 + (jabs ((σ.1 v0 v3.toNatClampNeg) + (σ.1 v1 ((7 : Int32) - v3).toNatClampNeg))), v3 + (1 : Int32))) else none else none)
set_option maxRecDepth 20000 in
set_option maxHeartbeats 2000000 in
theorem t_Judge_gap_l4 (v0 : Nat) (v1 : Nat) (v2 : Int32) (v3 : Int32) (hv0 : IA v0 8) (hv1 : IA v1 8) (σ : MH) {o} (h : Judge_gap_l4 v0 v1 v2 v3 σ = some o) : Go m_Judge_gap 2 (cH_Judge_gap_4 v0 v1 σ (v2, v3)) (cS (cH_Judge_gap_4 v0 v1 σ) (cR_Judge_gap_4 v0 v1 σ) o) := by
  unfold Judge_gap_l4 at h
  unfold cH_Judge_gap_4
  refine Go.t (Go_sg bk_Judge_gap 4 2 (c2 := (some 7, [some (.ref v0), some (.ref v1), some (.int v2), some (.int v3)], [.int (8 : Int32), .int v3], σ)) (ps := []) rfl trivial) ?_
  refine Go_icmp_ge bk_Judge_gap 6 rfl (fun c3 => ?_) (fun c3 => ?_)
  · have h := ifT c3 h
    have h := Option.some.inj h
    subst h
    refine Go.t (Go_sg bk_Judge_gap 22 1 (c2 := (some 33, [some (.ref v0), some (.ref v1), some (.int v2), some (.int v3)], [.int v2], σ)) (ps := []) rfl trivial) ?_
    exact Go_reti bk_Judge_gap 23 rfl
  · have h := ifF c3 h
    obtain ⟨g1, h⟩ := gdS h
    obtain ⟨g2, h⟩ := gdS h
    refine Go.t (Go_sg bk_Judge_gap 7 10 (c2 := (some 21, [some (.ref v0), some (.ref v1), some (.int v2), some (.int v3)], [.int ((σ.1 v0 v3.toNatClampNeg) + (σ.1 v1 ((7 : Int32) - v3).toNatClampNeg)), .int v2], σ)) (ps := [IA v0 8 ∧ inb v3 8 = true, IA v1 8 ∧ inb ((7 : Int32) - v3) 8 = true]) rfl ⟨⟨hv0, g1⟩, ⟨hv1, g2⟩, trivial⟩) ?_
    refine Go.t (Go_mabs bk_Judge_gap 17 rfl tw874 (Nat.le_of_ble_eq_true rfl) (Nat.le_of_ble_eq_true rfl)) ?_
    refine Go.t (Go_sg bk_Judge_gap 18 4 (c2 := (some 4, [some (.ref v0), some (.ref v1), some (.int (v2 + (jabs ((σ.1 v0 v3.toNatClampNeg) + (σ.1 v1 ((7 : Int32) - v3).toNatClampNeg))))), some (.int (v3 + (1 : Int32)))], [], σ)) (ps := []) rfl trivial) ?_
    have h := Option.some.inj h
    subst h
    exact Go.fg (LSub.cs (LSub.cs (LSub.cs (LSub.cs (LSub.nil)))))
def Judge_gap_L4 (v0 : Nat) (v1 : Nat) (σ : MH) (s : Int32 × Int32) : Option ((Int32)) := itr (fun s : Int32 × Int32 => Judge_gap_l4 v0 v1 s.1 s.2 σ) FU s
set_option maxRecDepth 20000 in
set_option maxHeartbeats 2000000 in
theorem t_Judge_gap_L4 (v0 : Nat) (v1 : Nat) (hv0 : IA v0 8) (hv1 : IA v1 8) (σ : MH) (s : Int32 × Int32) {r} (h : Judge_gap_L4 v0 v1 σ s = some r) : Go m_Judge_gap 2 (cH_Judge_gap_4 v0 v1 σ s) (cR_Judge_gap_4 v0 v1 σ r) := Go_itr (fun s o ho => t_Judge_gap_l4 v0 v1 s.1 s.2 hv0 hv1 σ ho) FU s r h
def Judge_gap0 (v0 : Nat) (v1 : Nat) (σ : MH) : Option (Int32) := (Judge_gap_L4 v0 v1 σ ((0 : Int32), (0 : Int32))).bind fun z4 => some (z4)
set_option maxRecDepth 20000 in
set_option maxHeartbeats 2000000 in
theorem t_Judge_gap0 (v0 : Nat) (v1 : Nat) (hv0 : IA v0 8) (hv1 : IA v1 8) (σ : MH) {o} (h : Judge_gap0 v0 v1 σ = some o) : Go m_Judge_gap 2 (some 0, [some (.ref v0), some (.ref v1), none, none], [], σ) ((none, [], [.int o], σ)) := by
  unfold Judge_gap0 at h
  refine Go.t (Go_sg bk_Judge_gap 0 4 (c2 := (some 4, [some (.ref v0), some (.ref v1), some (.int (0 : Int32)), some (.int (0 : Int32))], [], σ)) (ps := []) rfl trivial) ?_
  obtain ⟨z4, q5, h⟩ := bdS h
  refine Go.t (Go.t (Go.fg (LSub.cs (LSub.cs (LSub.cs (LSub.cs (LSub.nil)))))) (t_Judge_gap_L4 v0 v1 hv0 hv1 σ _ q5)) ?_
  have h := Option.some.inj h
  subst h
  exact Go.rf
def Judge_gap (v0 : Nat) (v1 : Nat) (σ : MH) : Option (Int32) := Judge_gap0 v0 v1 σ
set_option maxRecDepth 20000 in
set_option maxHeartbeats 2000000 in
theorem ev_Judge_gap (v0 : Nat) (v1 : Nat) (hv0 : IA v0 8) (hv1 : IA v1 8) (σ : MH) {o} (h : Judge_gap v0 v1 σ = some o) : Ev m_Judge_gap 2 [.ref v0, .ref v1] σ (some (.int o)) σ := Ev.of2 (by decide +kernel) rfl (Nat.le_of_ble_eq_true rfl) ⟨.int, rfl, rfl⟩ (t_Judge_gap0 v0 v1 hv0 hv1 σ h)
def cH_Judge_slackOf_6 (v1 : Nat) (v2 : Int32) (v3 : Int32) (σ : MH) (s : Int32 × Int32) : MC := (some 6, [none, some (.ref v1), some (.int v2), some (.int v3), some (.int s.1), some (.int s.2), none, none, none], [], σ)
def cR_Judge_slackOf_6 (v1 : Nat) (v2 : Int32) (v3 : Int32) (σ : MH) : ((Int32)) → MC := (fun r : Int32 => ((none, [], [.int r], σ) : MC))
def cH_Judge_slackOf_16 (v1 : Nat) (v2 : Int32) (v3 : Int32) (v5 : Int32) (σ : MH) (s : Int32 × Int32) : MC := (some 16, [none, some (.ref v1), some (.int v2), some (.int v3), some (.int s.1), some (.int v5), some (.int s.2), none, none], [], σ)
def cR_Judge_slackOf_16 (v1 : Nat) (v2 : Int32) (v3 : Int32) (v5 : Int32) (σ : MH) : ((Int32)) → MC := (fun r : Int32 => ((some 113, [none, some (.ref v1), some (.int v2), some (.int v3), some (.int r), some (.int v5), none, none, none], [], σ) : MC))
def Judge_slackOf_b107 (v1 : Nat) (v2 : Int32) (v3 : Int32) (v4 : Int32) (v5 : Int32) (v6 : Int32) (σ : MH) : Option (((Int32 × Int32) ⊕ ((Int32)))) := some (.inl (v4, v6 + (1 : Int32)))
set_option maxRecDepth 20000 in
set_option maxHeartbeats 2000000 in
theorem t_Judge_slackOf_b107 (v1 : Nat) (v2 : Int32) (v3 : Int32) (v4 : Int32) (v5 : Int32) (v6 : Int32) (hv1 : isLd v1)  (σ : MH) {o} (h : Judge_slackOf_b107 v1 v2 v3 v4 v5 v6 σ = some o) : Go m_Judge_slackOf 3 (some 107, [none, some (.ref v1), some (.int v2), some (.int v3), some (.int v4), some (.int v5), some (.int v6), none, none], [], σ) (cS (cH_Judge_slackOf_16 v1 v2 v3 v5 σ) (cR_Judge_slackOf_16 v1 v2 v3 v5 σ) o) := by
  unfold Judge_slackOf_b107 at h
  refine Go.t (Go_sg bk_Judge_slackOf 56 2 (c2 := (some 16, [none, some (.ref v1), some (.int v2), some (.int v3), some (.int v4), some (.int v5), some (.int (v6 + (1 : Int32))), none, none], [], σ)) (ps := []) rfl trivial) ?_
  have h := Option.some.inj h
  subst h
  exact Go.fg (LSub.cn (LSub.cs (LSub.cs (LSub.cs (LSub.cs (LSub.cs (LSub.cs (LSub.cn (LSub.cn (LSub.nil))))))))))
def Judge_slackOf_b105 (v1 : Nat) (v2 : Int32) (v3 : Int32) (v5 : Int32) (v6 : Int32) (s0 : Int32) (σ : MH) : Option (((Int32 × Int32) ⊕ ((Int32)))) := Judge_slackOf_b107 v1 v2 v3 s0 v5 v6 σ
set_option maxRecDepth 20000 in
set_option maxHeartbeats 2000000 in
theorem t_Judge_slackOf_b105 (v1 : Nat) (v2 : Int32) (v3 : Int32) (v5 : Int32) (v6 : Int32) (s0 : Int32) (hv1 : isLd v1)  (σ : MH) {o} (h : Judge_slackOf_b105 v1 v2 v3 v5 v6 s0 σ = some o) : Go m_Judge_slackOf 3 (some 105, [none, some (.ref v1), some (.int v2), some (.int v3), none, some (.int v5), some (.int v6), none, none], [.int s0], σ) (cS (cH_Judge_slackOf_16 v1 v2 v3 v5 σ) (cR_Judge_slackOf_16 v1 v2 v3 v5 σ) o) := by
  unfold Judge_slackOf_b105 at h
  refine Go.t (Go_sg bk_Judge_slackOf 55 1 (c2 := (some 107, [none, some (.ref v1), some (.int v2), some (.int v3), some (.int s0), some (.int v5), some (.int v6), none, none], [], σ)) (ps := []) rfl trivial) ?_
  exact Go.t (Go.fg (LSub.cn (LSub.cs (LSub.cs (LSub.cs (LSub.cs (LSub.cs (LSub.cs (LSub.cn (LSub.cn (LSub.nil))))))))))) (t_Judge_slackOf_b107 v1 v2 v3 s0 v5 v6 hv1 σ h)
def Judge_slackOf_l16 (v1 : Nat) (v2 : Int32) (v3 : Int32) (v5 : Int32) (v4 : Int32) (v6 : Int32) (σ : MH) : Option (((Int32 × Int32) ⊕ ((Int32)))) := if inb v5 12 = true then if σ.1 (rfv v1 7) v5.toNatClampNeg = v2 then (if (12 : Int32) ≤ v6 then some (.inr (v4)) else (if inb v6 12 = true then if σ.1 (rfv v1 7) v6.toNatClampNeg = v3 then ((Judge_gap (rfv (rfv v1 9) v5.toNatClampNeg) (rfv (rfv v1 9) v6.toNatClampNeg) σ).bind fun x3 => if (0 : Int32) ≤ v4 then (Judge_slackOf_b105 v1 v2 v3 v5 v6 (jmin v4 (jmax (0 : Int32) ((x3 - (σ.1 (rfv v1 8) v5.toNatClampNeg)) - (σ.1 (rfv v1 8) v6.toNatClampNeg)))) σ) else (Judge_slackOf_b105 v1 v2 v3 v5 v6 (jmax (0 : Int32) ((x3 - (σ.1 (rfv v1 8) v5.toNatClampNeg)) - (σ.1 (rfv v1 8) v6.toNatClampNeg))) σ)) else (Judge_slackOf_b107 v1 v2 v3 v4 v5 v6 σ) else none)) else some (.inr (v4)) else none
set_option maxRecDepth 20000 in
set_option maxHeartbeats 2000000 in
theorem t_Judge_slackOf_l16 (v1 : Nat) (v2 : Int32) (v3 : Int32) (v5 : Int32) (v4 : Int32) (v6 : Int32) (hv1 : isLd v1) (σ : MH) {o} (h : Judge_slackOf_l16 v1 v2 v3 v5 v4 v6 σ = some o) : Go m_Judge_slackOf 3 (cH_Judge_slackOf_16 v1 v2 v3 v5 σ (v4, v6)) (cS (cH_Judge_slackOf_16 v1 v2 v3 v5 σ) (cR_Judge_slackOf_16 v1 v2 v3 v5 σ) o) := by
  unfold Judge_slackOf_l16 at h
  unfold cH_Judge_slackOf_16
  obtain ⟨g1, h⟩ := gdS h
  refine Go.t (Go_sg bk_Judge_slackOf 9 5 (c2 := (some 24, [none, some (.ref v1), some (.int v2), some (.int v3), some (.int v4), some (.int v5), some (.int v6), none, none], [.int v2, .int (σ.1 (rfv v1 7) v5.toNatClampNeg)], σ)) (ps := [shk v1 = 3, IA (rfv v1 7) 12 ∧ inb v5 12 = true]) rfl ⟨(ldk hv1), ⟨(ldA hv1 7 rfl), g1⟩, trivial⟩) ?_
  refine Go_icmp_ne bk_Judge_slackOf 14 rfl (fun c9 => ?_) (fun c9 => ?_)
  · have h := ifF c9 h
    have h := Option.some.inj h
    subst h
    exact Go.fg (LSub.cn (LSub.cs (LSub.cs (LSub.cs (LSub.cs (LSub.cs (LSub.cn (LSub.cn (LSub.cn (LSub.nil))))))))))
  · have h := ifT c9 h
    refine Go.t (Go_sg bk_Judge_slackOf 15 2 (c2 := (some 31, [none, some (.ref v1), some (.int v2), some (.int v3), some (.int v4), some (.int v5), some (.int v6), none, none], [.int (12 : Int32), .int v6], σ)) (ps := []) rfl trivial) ?_
    refine Go_icmp_ge bk_Judge_slackOf 17 rfl (fun c8 => ?_) (fun c8 => ?_)
    · have h := ifT c8 h
      have h := Option.some.inj h
      subst h
      exact Go.fg (LSub.cn (LSub.cs (LSub.cs (LSub.cs (LSub.cs (LSub.cs (LSub.cn (LSub.cn (LSub.cn (LSub.nil))))))))))
    · have h := ifF c8 h
      obtain ⟨g2, h⟩ := gdS h
      refine Go.t (Go_sg bk_Judge_slackOf 18 5 (c2 := (some 42, [none, some (.ref v1), some (.int v2), some (.int v3), some (.int v4), some (.int v5), some (.int v6), none, none], [.int v3, .int (σ.1 (rfv v1 7) v6.toNatClampNeg)], σ)) (ps := [shk v1 = 3, IA (rfv v1 7) 12 ∧ inb v6 12 = true]) rfl ⟨(ldk hv1), ⟨(ldA hv1 7 rfl), g2⟩, trivial⟩) ?_
      refine Go_icmp_ne bk_Judge_slackOf 23 rfl (fun c7 => ?_) (fun c7 => ?_)
      · have h := ifF c7 h
        exact Go.t (Go.fg (LSub.cn (LSub.cs (LSub.cs (LSub.cs (LSub.cs (LSub.cs (LSub.cs (LSub.cn (LSub.cn (LSub.nil))))))))))) (t_Judge_slackOf_b107 v1 v2 v3 v4 v5 v6 hv1 σ h)
      · have h := ifT c7 h
        refine Go.t (Go_sg bk_Judge_slackOf 24 8 (c2 := (some 59, [none, some (.ref v1), some (.int v2), some (.int v3), some (.int v4), some (.int v5), some (.int v6), none, none], [.ref (rfv (rfv v1 9) v6.toNatClampNeg), .ref (rfv (rfv v1 9) v5.toNatClampNeg)], σ)) (ps := [shk v1 = 3, IR (rfv v1 9) 12 ∧ inb v5 12 = true, shk v1 = 3, IR (rfv v1 9) 12 ∧ inb v6 12 = true]) rfl ⟨(ldk hv1), ⟨(ldR hv1 9 rfl), g1⟩, (ldk hv1), ⟨(ldR hv1 9 rfl), g2⟩, trivial⟩) ?_
        obtain ⟨x3, q5, h⟩ := bdS h
        refine Go.t (Go_callS bk_Judge_slackOf 32 rfl nk_Judge_gap tw871 tw872 (as := [.ref (rfv (rfv v1 9) v5.toNatClampNeg), .ref (rfv (rfv v1 9) v6.toNatClampNeg)]) (S := []) rfl rfl rfl (Nat.le_of_ble_eq_true rfl) (Nat.le_of_ble_eq_true rfl) (ev_Judge_gap _ _ (ldH hv1 g1) (ldH hv1 g2) _ q5)) ?_
        refine Go.t (Go_sg bk_Judge_slackOf 33 13 (c2 := (some 83, [none, some (.ref v1), some (.int v2), some (.int v3), some (.int v4), some (.int v5), some (.int v6), some (.int ((x3 - (σ.1 (rfv v1 8) v5.toNatClampNeg)) - (σ.1 (rfv v1 8) v6.toNatClampNeg))), none], [.int ((x3 - (σ.1 (rfv v1 8) v5.toNatClampNeg)) - (σ.1 (rfv v1 8) v6.toNatClampNeg)), .int (0 : Int32)], σ)) (ps := [shk v1 = 3, IA (rfv v1 8) 12 ∧ inb v5 12 = true, shk v1 = 3, IA (rfv v1 8) 12 ∧ inb v6 12 = true]) rfl ⟨(ldk hv1), ⟨(ldA hv1 8 rfl), g1⟩, (ldk hv1), ⟨(ldA hv1 8 rfl), g2⟩, trivial⟩) ?_
        refine Go.t (Go_mmax bk_Judge_slackOf 46 rfl tw875 (Nat.le_of_ble_eq_true rfl) (Nat.le_of_ble_eq_true rfl)) ?_
        refine Go.t (Go_sg bk_Judge_slackOf 47 2 (c2 := (some 90, [none, some (.ref v1), some (.int v2), some (.int v3), some (.int v4), some (.int v5), some (.int v6), some (.int ((x3 - (σ.1 (rfv v1 8) v5.toNatClampNeg)) - (σ.1 (rfv v1 8) v6.toNatClampNeg))), some (.int (jmax (0 : Int32) ((x3 - (σ.1 (rfv v1 8) v5.toNatClampNeg)) - (σ.1 (rfv v1 8) v6.toNatClampNeg))))], [.int v4], σ)) (ps := []) rfl trivial) ?_
        refine Go_if_ge bk_Judge_slackOf 49 rfl (fun c6 => ?_) (fun c6 => ?_)
        · have h := ifT c6 h
          refine Go.t (Go_sg bk_Judge_slackOf 52 2 (c2 := (some 102, [none, some (.ref v1), some (.int v2), some (.int v3), some (.int v4), some (.int v5), some (.int v6), some (.int ((x3 - (σ.1 (rfv v1 8) v5.toNatClampNeg)) - (σ.1 (rfv v1 8) v6.toNatClampNeg))), some (.int (jmax (0 : Int32) ((x3 - (σ.1 (rfv v1 8) v5.toNatClampNeg)) - (σ.1 (rfv v1 8) v6.toNatClampNeg))))], [.int (jmax (0 : Int32) ((x3 - (σ.1 (rfv v1 8) v5.toNatClampNeg)) - (σ.1 (rfv v1 8) v6.toNatClampNeg))), .int v4], σ)) (ps := []) rfl trivial) ?_
          refine Go.t (Go_mmin bk_Judge_slackOf 54 rfl tw876 (Nat.le_of_ble_eq_true rfl) (Nat.le_of_ble_eq_true rfl)) ?_
          exact Go.t (Go.fg (LSub.cn (LSub.cs (LSub.cs (LSub.cs (LSub.cn (LSub.cs (LSub.cs (LSub.cn (LSub.cn (LSub.nil))))))))))) (t_Judge_slackOf_b105 v1 v2 v3 v5 v6 (jmin v4 (jmax (0 : Int32) ((x3 - (σ.1 (rfv v1 8) v5.toNatClampNeg)) - (σ.1 (rfv v1 8) v6.toNatClampNeg)))) hv1 σ h)
        · have h := ifF c6 h
          refine Go.t (Go_sg bk_Judge_slackOf 50 2 (c2 := (some 105, [none, some (.ref v1), some (.int v2), some (.int v3), some (.int v4), some (.int v5), some (.int v6), some (.int ((x3 - (σ.1 (rfv v1 8) v5.toNatClampNeg)) - (σ.1 (rfv v1 8) v6.toNatClampNeg))), some (.int (jmax (0 : Int32) ((x3 - (σ.1 (rfv v1 8) v5.toNatClampNeg)) - (σ.1 (rfv v1 8) v6.toNatClampNeg))))], [.int (jmax (0 : Int32) ((x3 - (σ.1 (rfv v1 8) v5.toNatClampNeg)) - (σ.1 (rfv v1 8) v6.toNatClampNeg)))], σ)) (ps := []) rfl trivial) ?_
          exact Go.t (Go.fg (LSub.cn (LSub.cs (LSub.cs (LSub.cs (LSub.cn (LSub.cs (LSub.cs (LSub.cn (LSub.cn (LSub.nil))))))))))) (t_Judge_slackOf_b105 v1 v2 v3 v5 v6 (jmax (0 : Int32) ((x3 - (σ.1 (rfv v1 8) v5.toNatClampNeg)) - (σ.1 (rfv v1 8) v6.toNatClampNeg))) hv1 σ h)
def Judge_slackOf_L16 (v1 : Nat) (v2 : Int32) (v3 : Int32) (v5 : Int32) (σ : MH) (s : Int32 × Int32) : Option ((Int32)) := itr (fun s : Int32 × Int32 => Judge_slackOf_l16 v1 v2 v3 v5 s.1 s.2 σ) FU s
set_option maxRecDepth 20000 in
set_option maxHeartbeats 2000000 in
theorem t_Judge_slackOf_L16 (v1 : Nat) (v2 : Int32) (v3 : Int32) (v5 : Int32) (hv1 : isLd v1) (σ : MH) (s : Int32 × Int32) {r} (h : Judge_slackOf_L16 v1 v2 v3 v5 σ s = some r) : Go m_Judge_slackOf 3 (cH_Judge_slackOf_16 v1 v2 v3 v5 σ s) (cR_Judge_slackOf_16 v1 v2 v3 v5 σ r) := Go_itr (fun s o ho => t_Judge_slackOf_l16 v1 v2 v3 v5 s.1 s.2 hv1 σ ho) FU s r h
def Judge_slackOf_b113 (v1 : Nat) (v2 : Int32) (v3 : Int32) (v4 : Int32) (v5 : Int32) (σ : MH) : Option (((Int32 × Int32) ⊕ ((Int32)))) := some (.inl (v4, v5 + (1 : Int32)))
set_option maxRecDepth 20000 in
set_option maxHeartbeats 2000000 in
theorem t_Judge_slackOf_b113 (v1 : Nat) (v2 : Int32) (v3 : Int32) (v4 : Int32) (v5 : Int32) (hv1 : isLd v1)  (σ : MH) {o} (h : Judge_slackOf_b113 v1 v2 v3 v4 v5 σ = some o) : Go m_Judge_slackOf 3 (some 113, [none, some (.ref v1), some (.int v2), some (.int v3), some (.int v4), some (.int v5), none, none, none], [], σ) (cS (cH_Judge_slackOf_6 v1 v2 v3 σ) (cR_Judge_slackOf_6 v1 v2 v3 σ) o) := by
  unfold Judge_slackOf_b113 at h
  refine Go.t (Go_sg bk_Judge_slackOf 58 2 (c2 := (some 6, [none, some (.ref v1), some (.int v2), some (.int v3), some (.int v4), some (.int (v5 + (1 : Int32))), none, none, none], [], σ)) (ps := []) rfl trivial) ?_
  have h := Option.some.inj h
  subst h
  exact Go.fg (LSub.cn (LSub.cs (LSub.cs (LSub.cs (LSub.cs (LSub.cs (LSub.cn (LSub.cn (LSub.cn (LSub.nil))))))))))
def Judge_slackOf_l6 (v1 : Nat) (v2 : Int32) (v3 : Int32) (v4 : Int32) (v5 : Int32) (σ : MH) : Option (((Int32 × Int32) ⊕ ((Int32)))) := if (12 : Int32) ≤ v5 then some (.inr (v4)) else ((Judge_slackOf_L16 v1 v2 v3 v5 σ (v4, (0 : Int32))).bind fun z10 => Judge_slackOf_b113 v1 v2 v3 z10 v5 σ)
set_option maxRecDepth 20000 in
set_option maxHeartbeats 2000000 in
theorem t_Judge_slackOf_l6 (v1 : Nat) (v2 : Int32) (v3 : Int32) (v4 : Int32) (v5 : Int32) (hv1 : isLd v1) (σ : MH) {o} (h : Judge_slackOf_l6 v1 v2 v3 v4 v5 σ = some o) : Go m_Judge_slackOf 3 (cH_Judge_slackOf_6 v1 v2 v3 σ (v4, v5)) (cS (cH_Judge_slackOf_6 v1 v2 v3 σ) (cR_Judge_slackOf_6 v1 v2 v3 σ) o) := by
  unfold Judge_slackOf_l6 at h
  unfold cH_Judge_slackOf_6
  refine Go.t (Go_sg bk_Judge_slackOf 4 2 (c2 := (some 10, [none, some (.ref v1), some (.int v2), some (.int v3), some (.int v4), some (.int v5), none, none, none], [.int (12 : Int32), .int v5], σ)) (ps := []) rfl trivial) ?_
  refine Go_icmp_ge bk_Judge_slackOf 6 rfl (fun c12 => ?_) (fun c12 => ?_)
  · have h := ifT c12 h
    have h := Option.some.inj h
    subst h
    refine Go.t (Go_sg bk_Judge_slackOf 60 1 (c2 := (some 121, [none, some (.ref v1), some (.int v2), some (.int v3), some (.int v4), some (.int v5), none, none, none], [.int v4], σ)) (ps := []) rfl trivial) ?_
    exact Go_reti bk_Judge_slackOf 61 rfl
  · have h := ifF c12 h
    refine Go.t (Go_sg bk_Judge_slackOf 7 2 (c2 := (some 16, [none, some (.ref v1), some (.int v2), some (.int v3), some (.int v4), some (.int v5), some (.int (0 : Int32)), none, none], [], σ)) (ps := []) rfl trivial) ?_
    obtain ⟨z10, q11, h⟩ := bdS h
    refine Go.t (Go.t (Go.fg (LSub.cn (LSub.cs (LSub.cs (LSub.cs (LSub.cs (LSub.cs (LSub.cs (LSub.cn (LSub.cn (LSub.nil))))))))))) (t_Judge_slackOf_L16 v1 v2 v3 v5 hv1 σ _ q11)) ?_
    exact Go.t (Go.fg (LSub.cn (LSub.cs (LSub.cs (LSub.cs (LSub.cs (LSub.cs (LSub.cn (LSub.cn (LSub.cn (LSub.nil))))))))))) (t_Judge_slackOf_b113 v1 v2 v3 z10 v5 hv1 σ h)
def Judge_slackOf_L6 (v1 : Nat) (v2 : Int32) (v3 : Int32) (σ : MH) (s : Int32 × Int32) : Option ((Int32)) := itr (fun s : Int32 × Int32 => Judge_slackOf_l6 v1 v2 v3 s.1 s.2 σ) FU s
set_option maxRecDepth 20000 in
set_option maxHeartbeats 2000000 in
theorem t_Judge_slackOf_L6 (v1 : Nat) (v2 : Int32) (v3 : Int32) (hv1 : isLd v1) (σ : MH) (s : Int32 × Int32) {r} (h : Judge_slackOf_L6 v1 v2 v3 σ s = some r) : Go m_Judge_slackOf 3 (cH_Judge_slackOf_6 v1 v2 v3 σ s) (cR_Judge_slackOf_6 v1 v2 v3 σ r) := Go_itr (fun s o ho => t_Judge_slackOf_l6 v1 v2 v3 s.1 s.2 hv1 σ ho) FU s r h
def Judge_slackOf0 (v1 : Nat) (v2 : Int32) (v3 : Int32) (σ : MH) : Option (Int32) := (Judge_slackOf_L6 v1 v2 v3 σ ((-1 : Int32), (0 : Int32))).bind fun z13 => some (z13)
set_option maxRecDepth 20000 in
set_option maxHeartbeats 2000000 in
theorem t_Judge_slackOf0 (v1 : Nat) (v2 : Int32) (v3 : Int32) (hv1 : isLd v1) (σ : MH) {o} (h : Judge_slackOf0 v1 v2 v3 σ = some o) : Go m_Judge_slackOf 3 (some 0, [some (.ref 126), some (.ref v1), some (.int v2), some (.int v3), none, none, none, none, none], [], σ) ((none, [], [.int o], σ)) := by
  unfold Judge_slackOf0 at h
  refine Go.t (Go_sg bk_Judge_slackOf 0 4 (c2 := (some 6, [some (.ref 126), some (.ref v1), some (.int v2), some (.int v3), some (.int (-1 : Int32)), some (.int (0 : Int32)), none, none, none], [], σ)) (ps := []) rfl trivial) ?_
  obtain ⟨z13, q14, h⟩ := bdS h
  refine Go.t (Go.t (Go.fg (LSub.cn (LSub.cs (LSub.cs (LSub.cs (LSub.cs (LSub.cs (LSub.cn (LSub.cn (LSub.cn (LSub.nil))))))))))) (t_Judge_slackOf_L6 v1 v2 v3 hv1 σ _ q14)) ?_
  have h := Option.some.inj h
  subst h
  exact Go.rf
def Judge_slackOf (v1 : Nat) (v2 : Int32) (v3 : Int32) (σ : MH) : Option (Int32) := Judge_slackOf0 v1 v2 v3 σ
set_option maxRecDepth 20000 in
set_option maxHeartbeats 2000000 in
theorem ev_Judge_slackOf (v1 : Nat) (v2 : Int32) (v3 : Int32) (hv1 : isLd v1) (σ : MH) {o} (h : Judge_slackOf v1 v2 v3 σ = some o) : Ev m_Judge_slackOf 3 [.ref 126, .ref v1, .int v2, .int v3] σ (some (.int o)) σ := Ev.of2 (by decide +kernel) rfl (Nat.le_of_ble_eq_true rfl) ⟨.int, rfl, rfl⟩ (t_Judge_slackOf0 v1 v2 v3 hv1 σ h)
def Judge_isFirst_b51  (σ : MH) : Option (Int32) := some ((1 : Int32))
set_option maxRecDepth 20000 in
set_option maxHeartbeats 2000000 in
theorem t_Judge_isFirst_b51    (σ : MH) {o} (h : Judge_isFirst_b51 σ = some o) : Go m_Judge_isFirst 2 (some 51, [none, none, none], [], σ) ((none, [], [.int o], σ)) := by
  unfold Judge_isFirst_b51 at h
  refine Go.t (Go_sg bk_Judge_isFirst 29 2 (c2 := (some 56, [none, none, none], [.int (1 : Int32)], σ)) (ps := []) rfl trivial) ?_
  have h := Option.some.inj h
  subst h
  exact Go_reti bk_Judge_isFirst 32 rfl
def Judge_isFirst0 (v0 : Nat) (v1 : Int32) (v2 : Int32) (σ : MH) : Option (Int32) := (Pz_isNumber v1 σ).bind fun x1 => if x1 = (0 : Int32) then some ((1 : Int32)) else ((Pz_isNumber v2 σ).bind fun x4 => if x4 = (0 : Int32) then some ((1 : Int32)) else (if inb v1 12 = true then if inb v2 12 = true then if σ.1 (rfv v0 2) v1.toNatClampNeg < σ.1 (rfv v0 2) v2.toNatClampNeg then (Judge_isFirst_b51 σ) else (if σ.1 (rfv v0 2) v1.toNatClampNeg = σ.1 (rfv v0 2) v2.toNatClampNeg then (if v2 ≤ v1 then some ((0 : Int32)) else (Judge_isFirst_b51 σ)) else some ((0 : Int32))) else none else none))
set_option maxRecDepth 20000 in
set_option maxHeartbeats 2000000 in
theorem t_Judge_isFirst0 (v0 : Nat) (v1 : Int32) (v2 : Int32) (hv0 : isLd v0) (σ : MH) {o} (h : Judge_isFirst0 v0 v1 v2 σ = some o) : Go m_Judge_isFirst 2 (some 0, [some (.ref v0), some (.int v1), some (.int v2)], [], σ) ((none, [], [.int o], σ)) := by
  unfold Judge_isFirst0 at h
  refine Go.t (Go_sg bk_Judge_isFirst 0 1 (c2 := (some 1, [some (.ref v0), some (.int v1), some (.int v2)], [.int v1], σ)) (ps := []) rfl trivial) ?_
  obtain ⟨x1, q3, h⟩ := bdS h
  refine Go.t (Go_callN bk_Judge_isFirst 1 rfl nk_Pz_isNumber (host := RX11) (by decide +kernel) tw553 (as := [.int v1]) (S := []) rfl rfl rfl (Nat.le_of_ble_eq_true rfl) (Nat.le_of_ble_eq_true rfl) (ev_Pz_isNumber _ _ q3)) ?_
  refine Go_if_eq bk_Judge_isFirst 2 rfl (fun c13 => ?_) (fun c13 => ?_)
  · have h := ifT c13 h
    have h := Option.some.inj h
    subst h
    refine Go.t (Go_sg bk_Judge_isFirst 6 1 (c2 := (some 15, [some (.ref v0), some (.int v1), some (.int v2)], [.int (1 : Int32)], σ)) (ps := []) rfl trivial) ?_
    exact Go_reti bk_Judge_isFirst 7 rfl
  · have h := ifF c13 h
    refine Go.t (Go_sg bk_Judge_isFirst 3 1 (c2 := (some 8, [some (.ref v0), some (.int v1), some (.int v2)], [.int v2], σ)) (ps := []) rfl trivial) ?_
    obtain ⟨x4, q6, h⟩ := bdS h
    refine Go.t (Go_callN bk_Judge_isFirst 4 rfl nk_Pz_isNumber (host := RX11) (by decide +kernel) tw553 (as := [.int v2]) (S := []) rfl rfl rfl (Nat.le_of_ble_eq_true rfl) (Nat.le_of_ble_eq_true rfl) (ev_Pz_isNumber _ _ q6)) ?_
    refine Go_if_ne bk_Judge_isFirst 5 rfl (fun c12 => ?_) (fun c12 => ?_)
    · have h := ifF c12 h
      obtain ⟨g7, h⟩ := gdS h
      obtain ⟨g8, h⟩ := gdS h
      refine Go.t (Go_sg bk_Judge_isFirst 8 8 (c2 := (some 28, [some (.ref v0), some (.int v1), some (.int v2)], [.int (σ.1 (rfv v0 2) v2.toNatClampNeg), .int (σ.1 (rfv v0 2) v1.toNatClampNeg)], σ)) (ps := [shk v0 = 3, IA (rfv v0 2) 12 ∧ inb v1 12 = true, shk v0 = 3, IA (rfv v0 2) 12 ∧ inb v2 12 = true]) rfl ⟨(ldk hv0), ⟨(ldA hv0 2 rfl), g7⟩, (ldk hv0), ⟨(ldA hv0 2 rfl), g8⟩, trivial⟩) ?_
      refine Go_icmp_lt bk_Judge_isFirst 16 rfl (fun c11 => ?_) (fun c11 => ?_)
      · have h := ifT c11 h
        exact Go.t (Go.fg (LSub.cn (LSub.cn (LSub.cn (LSub.nil))))) (t_Judge_isFirst_b51 σ h)
      · have h := ifF c11 h
        refine Go.t (Go_sg bk_Judge_isFirst 17 8 (c2 := (some 43, [some (.ref v0), some (.int v1), some (.int v2)], [.int (σ.1 (rfv v0 2) v2.toNatClampNeg), .int (σ.1 (rfv v0 2) v1.toNatClampNeg)], σ)) (ps := [shk v0 = 3, IA (rfv v0 2) 12 ∧ inb v1 12 = true, shk v0 = 3, IA (rfv v0 2) 12 ∧ inb v2 12 = true]) rfl ⟨(ldk hv0), ⟨(ldA hv0 2 rfl), g7⟩, (ldk hv0), ⟨(ldA hv0 2 rfl), g8⟩, trivial⟩) ?_
        refine Go_icmp_ne bk_Judge_isFirst 25 rfl (fun c10 => ?_) (fun c10 => ?_)
        · have h := ifF c10 h
          have h := Option.some.inj h
          subst h
          refine Go.t (Go_sg bk_Judge_isFirst 31 1 (c2 := (some 56, [some (.ref v0), some (.int v1), some (.int v2)], [.int (0 : Int32)], σ)) (ps := []) rfl trivial) ?_
          exact Go_reti bk_Judge_isFirst 32 rfl
        · have h := ifT c10 h
          refine Go.t (Go_sg bk_Judge_isFirst 26 2 (c2 := (some 48, [some (.ref v0), some (.int v1), some (.int v2)], [.int v2, .int v1], σ)) (ps := []) rfl trivial) ?_
          refine Go_icmp_ge bk_Judge_isFirst 28 rfl (fun c9 => ?_) (fun c9 => ?_)
          · have h := ifT c9 h
            have h := Option.some.inj h
            subst h
            refine Go.t (Go_sg bk_Judge_isFirst 31 1 (c2 := (some 56, [some (.ref v0), some (.int v1), some (.int v2)], [.int (0 : Int32)], σ)) (ps := []) rfl trivial) ?_
            exact Go_reti bk_Judge_isFirst 32 rfl
          · have h := ifF c9 h
            exact Go.t (Go.fg (LSub.cn (LSub.cn (LSub.cn (LSub.nil))))) (t_Judge_isFirst_b51 σ h)
    · have h := ifT c12 h
      have h := Option.some.inj h
      subst h
      refine Go.t (Go_sg bk_Judge_isFirst 6 1 (c2 := (some 15, [some (.ref v0), some (.int v1), some (.int v2)], [.int (1 : Int32)], σ)) (ps := []) rfl trivial) ?_
      exact Go_reti bk_Judge_isFirst 7 rfl
def Judge_isFirst (v0 : Nat) (v1 : Int32) (v2 : Int32) (σ : MH) : Option (Int32) := bzp (Judge_isFirst0 v0 v1 v2 σ)
set_option maxRecDepth 20000 in
set_option maxHeartbeats 2000000 in
theorem ev_Judge_isFirst (v0 : Nat) (v1 : Int32) (v2 : Int32) (hv0 : isLd v0) (σ : MH) {o} (h : Judge_isFirst v0 v1 v2 σ = some o) : Ev m_Judge_isFirst 2 [.ref v0, .int v1, .int v2] σ (some (.int o)) σ := Ev.of2 (by decide +kernel) rfl (Nat.le_of_ble_eq_true rfl) ⟨.boolean, rfl, nrB (bzp2 h)⟩ (t_Judge_isFirst0 v0 v1 v2 hv0 σ (bzp1 h))
def cH_Land_piecesOf_4 (v0 : Nat) (v1 : Int32) (σ : MH) (s : Int32 × Int32) : MC := (some 4, [some (.ref v0), some (.int v1), some (.int s.1), some (.int s.2)], [], σ)
def cR_Land_piecesOf_4 (v0 : Nat) (v1 : Int32) (σ : MH) : ((Int32)) → MC := (fun r : Int32 => ((none, [], [.int r], σ) : MC))
def Land_piecesOf_b26 (v0 : Nat) (v1 : Int32) (v2 : Int32) (v3 : Int32) (σ : MH) : Option (((Int32 × Int32) ⊕ ((Int32)))) := some (.inl (v2, v3 + (1 : Int32)))
set_option maxRecDepth 20000 in
set_option maxHeartbeats 2000000 in
theorem t_Land_piecesOf_b26 (v0 : Nat) (v1 : Int32) (v2 : Int32) (v3 : Int32) (hv0 : isLd v0)  (σ : MH) {o} (h : Land_piecesOf_b26 v0 v1 v2 v3 σ = some o) : Go m_Land_piecesOf 1 (some 26, [some (.ref v0), some (.int v1), some (.int v2), some (.int v3)], [], σ) (cS (cH_Land_piecesOf_4 v0 v1 σ) (cR_Land_piecesOf_4 v0 v1 σ) o) := by
  unfold Land_piecesOf_b26 at h
  refine Go.t (Go_sg bk_Land_piecesOf 19 2 (c2 := (some 4, [some (.ref v0), some (.int v1), some (.int v2), some (.int (v3 + (1 : Int32)))], [], σ)) (ps := []) rfl trivial) ?_
  have h := Option.some.inj h
  subst h
  exact Go.fg (LSub.cs (LSub.cs (LSub.cs (LSub.cs (LSub.nil)))))
def Land_piecesOf_l4 (v0 : Nat) (v1 : Int32) (v2 : Int32) (v3 : Int32) (σ : MH) : Option (((Int32 × Int32) ⊕ ((Int32)))) := if (12 : Int32) ≤ v3 then some (.inr (v2)) else (if inb v3 12 = true then if σ.1 (rfv v0 7) v3.toNatClampNeg = v1 then (Land_piecesOf_b26 v0 v1 (v2 ||| (jshl (1 : Int32) v3)) v3 σ) else (Land_piecesOf_b26 v0 v1 v2 v3 σ) else none)
set_option maxRecDepth 20000 in
set_option maxHeartbeats 2000000 in
theorem t_Land_piecesOf_l4 (v0 : Nat) (v1 : Int32) (v2 : Int32) (v3 : Int32) (hv0 : isLd v0) (σ : MH) {o} (h : Land_piecesOf_l4 v0 v1 v2 v3 σ = some o) : Go m_Land_piecesOf 1 (cH_Land_piecesOf_4 v0 v1 σ (v2, v3)) (cS (cH_Land_piecesOf_4 v0 v1 σ) (cR_Land_piecesOf_4 v0 v1 σ) o) := by
  unfold Land_piecesOf_l4 at h
  unfold cH_Land_piecesOf_4
  refine Go.t (Go_sg bk_Land_piecesOf 4 2 (c2 := (some 7, [some (.ref v0), some (.int v1), some (.int v2), some (.int v3)], [.int (12 : Int32), .int v3], σ)) (ps := []) rfl trivial) ?_
  refine Go_icmp_ge bk_Land_piecesOf 6 rfl (fun c3 => ?_) (fun c3 => ?_)
  · have h := ifT c3 h
    have h := Option.some.inj h
    subst h
    refine Go.t (Go_sg bk_Land_piecesOf 21 1 (c2 := (some 33, [some (.ref v0), some (.int v1), some (.int v2), some (.int v3)], [.int v2], σ)) (ps := []) rfl trivial) ?_
    exact Go_reti bk_Land_piecesOf 22 rfl
  · have h := ifF c3 h
    obtain ⟨g1, h⟩ := gdS h
    refine Go.t (Go_sg bk_Land_piecesOf 7 5 (c2 := (some 17, [some (.ref v0), some (.int v1), some (.int v2), some (.int v3)], [.int v1, .int (σ.1 (rfv v0 7) v3.toNatClampNeg)], σ)) (ps := [shk v0 = 3, IA (rfv v0 7) 12 ∧ inb v3 12 = true]) rfl ⟨(ldk hv0), ⟨(ldA hv0 7 rfl), g1⟩, trivial⟩) ?_
    refine Go_icmp_ne bk_Land_piecesOf 12 rfl (fun c2 => ?_) (fun c2 => ?_)
    · have h := ifF c2 h
      exact Go.t (Go.fg (LSub.cs (LSub.cs (LSub.cs (LSub.cs (LSub.nil)))))) (t_Land_piecesOf_b26 v0 v1 v2 v3 hv0 σ h)
    · have h := ifT c2 h
      refine Go.t (Go_sg bk_Land_piecesOf 13 6 (c2 := (some 26, [some (.ref v0), some (.int v1), some (.int (v2 ||| (jshl (1 : Int32) v3))), some (.int v3)], [], σ)) (ps := []) rfl trivial) ?_
      exact Go.t (Go.fg (LSub.cs (LSub.cs (LSub.cs (LSub.cs (LSub.nil)))))) (t_Land_piecesOf_b26 v0 v1 (v2 ||| (jshl (1 : Int32) v3)) v3 hv0 σ h)
def Land_piecesOf_L4 (v0 : Nat) (v1 : Int32) (σ : MH) (s : Int32 × Int32) : Option ((Int32)) := itr (fun s : Int32 × Int32 => Land_piecesOf_l4 v0 v1 s.1 s.2 σ) FU s
set_option maxRecDepth 20000 in
set_option maxHeartbeats 2000000 in
theorem t_Land_piecesOf_L4 (v0 : Nat) (v1 : Int32) (hv0 : isLd v0) (σ : MH) (s : Int32 × Int32) {r} (h : Land_piecesOf_L4 v0 v1 σ s = some r) : Go m_Land_piecesOf 1 (cH_Land_piecesOf_4 v0 v1 σ s) (cR_Land_piecesOf_4 v0 v1 σ r) := Go_itr (fun s o ho => t_Land_piecesOf_l4 v0 v1 s.1 s.2 hv0 σ ho) FU s r h
def Land_piecesOf0 (v0 : Nat) (v1 : Int32) (σ : MH) : Option (Int32) := (Land_piecesOf_L4 v0 v1 σ ((0 : Int32), (0 : Int32))).bind fun z4 => some (z4)
set_option maxRecDepth 20000 in
set_option maxHeartbeats 2000000 in
theorem t_Land_piecesOf0 (v0 : Nat) (v1 : Int32) (hv0 : isLd v0) (σ : MH) {o} (h : Land_piecesOf0 v0 v1 σ = some o) : Go m_Land_piecesOf 1 (some 0, [some (.ref v0), some (.int v1), none, none], [], σ) ((none, [], [.int o], σ)) := by
  unfold Land_piecesOf0 at h
  refine Go.t (Go_sg bk_Land_piecesOf 0 4 (c2 := (some 4, [some (.ref v0), some (.int v1), some (.int (0 : Int32)), some (.int (0 : Int32))], [], σ)) (ps := []) rfl trivial) ?_
  obtain ⟨z4, q5, h⟩ := bdS h
  refine Go.t (Go.t (Go.fg (LSub.cs (LSub.cs (LSub.cs (LSub.cs (LSub.nil)))))) (t_Land_piecesOf_L4 v0 v1 hv0 σ _ q5)) ?_
  have h := Option.some.inj h
  subst h
  exact Go.rf
def Land_piecesOf (v0 : Nat) (v1 : Int32) (σ : MH) : Option (Int32) := Land_piecesOf0 v0 v1 σ
set_option maxRecDepth 20000 in
set_option maxHeartbeats 2000000 in
theorem ev_Land_piecesOf (v0 : Nat) (v1 : Int32) (hv0 : isLd v0) (σ : MH) {o} (h : Land_piecesOf v0 v1 σ = some o) : Ev m_Land_piecesOf 1 [.ref v0, .int v1] σ (some (.int o)) σ := Ev.of2 (by decide +kernel) rfl (Nat.le_of_ble_eq_true rfl) ⟨.int, rfl, rfl⟩ (t_Land_piecesOf0 v0 v1 hv0 σ h)
def Integer_bitCount0 (v0 : Int32) (σ : MH) : Option (Int32) := some ((((((((v0 - ((jushr v0 (1 : Int32)) &&& (1431655765 : Int32))) &&& (858993459 : Int32)) + ((jushr (v0 - ((jushr v0 (1 : Int32)) &&& (1431655765 : Int32))) (2 : Int32)) &&& (858993459 : Int32))) + (jushr (((v0 - ((jushr v0 (1 : Int32)) &&& (1431655765 : Int32))) &&& (858993459 : Int32)) + ((jushr (v0 - ((jushr v0 (1 : Int32)) &&& (1431655765 : Int32))) (2 : Int32)) &&& (858993459 : Int32))) (4 : Int32))) &&& (252645135 : Int32)) + (jushr (((((v0 - ((jushr v0 (1 : Int32)) &&& (1431655765 : Int32))) &&& (858993459 : Int32)) + ((jushr (v0 - ((jushr v0 (1 : Int32)) &&& (1431655765 : Int32))) (2 : Int32)) &&& (858993459 : Int32))) + (jushr (((v0 - ((jushr v0 (1 : Int32)) &&& (1431655765 : Int32))) &&& (858993459 : Int32)) + ((jushr (v0 - ((jushr v0 (1 : Int32)) &&& (1431655765 : Int32))) (2 : Int32)) &&& (858993459 : Int32))) (4 : Int32))) &&& (252645135 : Int32)) (8 : Int32))) + (jushr ((((((v0 - ((jushr v0 (1 : Int32)) &&& (1431655765 : Int32))) &&& (858993459 : Int32)) + ((jushr (v0 - ((jushr v0 (1 : Int32)) &&& (1431655765 : Int32))) (2 : Int32)) &&& (858993459 : Int32))) + (jushr (((v0 - ((jushr v0 (1 : Int32)) &&& (1431655765 : Int32))) &&& (858993459 : Int32)) + ((jushr (v0 - ((jushr v0 (1 : Int32)) &&& (1431655765 : Int32))) (2 : Int32)) &&& (858993459 : Int32))) (4 : Int32))) &&& (252645135 : Int32)) + (jushr (((((v0 - ((jushr v0 (1 : Int32)) &&& (1431655765 : Int32))) &&& (858993459 : Int32)) + ((jushr (v0 - ((jushr v0 (1 : Int32)) &&& (1431655765 : Int32))) (2 : Int32)) &&& (858993459 : Int32))) + (jushr (((v0 - ((jushr v0 (1 : Int32)) &&& (1431655765 : Int32))) &&& (858993459 : Int32)) + ((jushr (v0 - ((jushr v0 (1 : Int32)) &&& (1431655765 : Int32))) (2 : Int32)) &&& (858993459 : Int32))) (4 : Int32))) &&& (252645135 : Int32)) (8 : Int32))) (16 : Int32))) &&& (63 : Int32))
set_option maxRecDepth 20000 in
set_option maxHeartbeats 2000000 in
theorem t_Integer_bitCount0 (v0 : Int32)  (σ : MH) {o} (h : Integer_bitCount0 v0 σ = some o) : Go m_Integer_bitCount 1 (some 0, [some (.int v0)], [], σ) ((none, [], [.int o], σ)) := by
  unfold Integer_bitCount0 at h
  have h := Option.some.inj h
  subst h
  refine Go.t (Go_sg bk_Integer_bitCount 0 41 (c2 := (some 52, [some (.int (((((((v0 - ((jushr v0 (1 : Int32)) &&& (1431655765 : Int32))) &&& (858993459 : Int32)) + ((jushr (v0 - ((jushr v0 (1 : Int32)) &&& (1431655765 : Int32))) (2 : Int32)) &&& (858993459 : Int32))) + (jushr (((v0 - ((jushr v0 (1 : Int32)) &&& (1431655765 : Int32))) &&& (858993459 : Int32)) + ((jushr (v0 - ((jushr v0 (1 : Int32)) &&& (1431655765 : Int32))) (2 : Int32)) &&& (858993459 : Int32))) (4 : Int32))) &&& (252645135 : Int32)) + (jushr (((((v0 - ((jushr v0 (1 : Int32)) &&& (1431655765 : Int32))) &&& (858993459 : Int32)) + ((jushr (v0 - ((jushr v0 (1 : Int32)) &&& (1431655765 : Int32))) (2 : Int32)) &&& (858993459 : Int32))) + (jushr (((v0 - ((jushr v0 (1 : Int32)) &&& (1431655765 : Int32))) &&& (858993459 : Int32)) + ((jushr (v0 - ((jushr v0 (1 : Int32)) &&& (1431655765 : Int32))) (2 : Int32)) &&& (858993459 : Int32))) (4 : Int32))) &&& (252645135 : Int32)) (8 : Int32))) + (jushr ((((((v0 - ((jushr v0 (1 : Int32)) &&& (1431655765 : Int32))) &&& (858993459 : Int32)) + ((jushr (v0 - ((jushr v0 (1 : Int32)) &&& (1431655765 : Int32))) (2 : Int32)) &&& (858993459 : Int32))) + (jushr (((v0 - ((jushr v0 (1 : Int32)) &&& (1431655765 : Int32))) &&& (858993459 : Int32)) + ((jushr (v0 - ((jushr v0 (1 : Int32)) &&& (1431655765 : Int32))) (2 : Int32)) &&& (858993459 : Int32))) (4 : Int32))) &&& (252645135 : Int32)) + (jushr (((((v0 - ((jushr v0 (1 : Int32)) &&& (1431655765 : Int32))) &&& (858993459 : Int32)) + ((jushr (v0 - ((jushr v0 (1 : Int32)) &&& (1431655765 : Int32))) (2 : Int32)) &&& (858993459 : Int32))) + (jushr (((v0 - ((jushr v0 (1 : Int32)) &&& (1431655765 : Int32))) &&& (858993459 : Int32)) + ((jushr (v0 - ((jushr v0 (1 : Int32)) &&& (1431655765 : Int32))) (2 : Int32)) &&& (858993459 : Int32))) (4 : Int32))) &&& (252645135 : Int32)) (8 : Int32))) (16 : Int32))))], [.int ((((((((v0 - ((jushr v0 (1 : Int32)) &&& (1431655765 : Int32))) &&& (858993459 : Int32)) + ((jushr (v0 - ((jushr v0 (1 : Int32)) &&& (1431655765 : Int32))) (2 : Int32)) &&& (858993459 : Int32))) + (jushr (((v0 - ((jushr v0 (1 : Int32)) &&& (1431655765 : Int32))) &&& (858993459 : Int32)) + ((jushr (v0 - ((jushr v0 (1 : Int32)) &&& (1431655765 : Int32))) (2 : Int32)) &&& (858993459 : Int32))) (4 : Int32))) &&& (252645135 : Int32)) + (jushr (((((v0 - ((jushr v0 (1 : Int32)) &&& (1431655765 : Int32))) &&& (858993459 : Int32)) + ((jushr (v0 - ((jushr v0 (1 : Int32)) &&& (1431655765 : Int32))) (2 : Int32)) &&& (858993459 : Int32))) + (jushr (((v0 - ((jushr v0 (1 : Int32)) &&& (1431655765 : Int32))) &&& (858993459 : Int32)) + ((jushr (v0 - ((jushr v0 (1 : Int32)) &&& (1431655765 : Int32))) (2 : Int32)) &&& (858993459 : Int32))) (4 : Int32))) &&& (252645135 : Int32)) (8 : Int32))) + (jushr ((((((v0 - ((jushr v0 (1 : Int32)) &&& (1431655765 : Int32))) &&& (858993459 : Int32)) + ((jushr (v0 - ((jushr v0 (1 : Int32)) &&& (1431655765 : Int32))) (2 : Int32)) &&& (858993459 : Int32))) + (jushr (((v0 - ((jushr v0 (1 : Int32)) &&& (1431655765 : Int32))) &&& (858993459 : Int32)) + ((jushr (v0 - ((jushr v0 (1 : Int32)) &&& (1431655765 : Int32))) (2 : Int32)) &&& (858993459 : Int32))) (4 : Int32))) &&& (252645135 : Int32)) + (jushr (((((v0 - ((jushr v0 (1 : Int32)) &&& (1431655765 : Int32))) &&& (858993459 : Int32)) + ((jushr (v0 - ((jushr v0 (1 : Int32)) &&& (1431655765 : Int32))) (2 : Int32)) &&& (858993459 : Int32))) + (jushr (((v0 - ((jushr v0 (1 : Int32)) &&& (1431655765 : Int32))) &&& (858993459 : Int32)) + ((jushr (v0 - ((jushr v0 (1 : Int32)) &&& (1431655765 : Int32))) (2 : Int32)) &&& (858993459 : Int32))) (4 : Int32))) &&& (252645135 : Int32)) (8 : Int32))) (16 : Int32))) &&& (63 : Int32))], σ)) (ps := []) rfl trivial) ?_
  exact Go_reti bk_Integer_bitCount 41 rfl
def Integer_bitCount (v0 : Int32) (σ : MH) : Option (Int32) := Integer_bitCount0 v0 σ
set_option maxRecDepth 20000 in
set_option maxHeartbeats 2000000 in
theorem ev_Integer_bitCount (v0 : Int32)  (σ : MH) {o} (h : Integer_bitCount v0 σ = some o) : Ev m_Integer_bitCount 1 [.int v0] σ (some (.int o)) σ := Ev.of2 (by decide +kernel) rfl (Nat.le_of_ble_eq_true rfl) ⟨.int, rfl, rfl⟩ (t_Integer_bitCount0 v0 σ h)
def cH_Arrays_fill_ii_5 (v1 : Int32) (s : Int32 × MH) : MC := (some 5, [some (.ref 127), some (.int v1), some (.int s.1), some (.int (11 : Int32))], [], s.2)
def cR_Arrays_fill_ii_5 (v1 : Int32) : ((MH)) → MC := (fun r : MH => ((none, [], [], r) : MC))
def Arrays_fill_ii_l5 (v1 : Int32) (v2 : Int32) (σ : MH) : Option (((Int32 × MH) ⊕ ((MH)))) := if (11 : Int32) ≤ v2 then some (.inr (σ)) else (if inb v2 11 = true then some (.inl (v2 + (1 : Int32), sI σ 127 v2.toNatClampNeg v1)) else none)
set_option maxRecDepth 20000 in
set_option maxHeartbeats 2000000 in
theorem t_Arrays_fill_ii_l5 (v1 : Int32) (v2 : Int32)  (σ : MH) {o} (h : Arrays_fill_ii_l5 v1 v2 σ = some o) : Go m_Arrays_fill_ii 1 (cH_Arrays_fill_ii_5 v1 (v2, σ)) (cS (cH_Arrays_fill_ii_5 v1) (cR_Arrays_fill_ii_5 v1) o) := by
  unfold Arrays_fill_ii_l5 at h
  unfold cH_Arrays_fill_ii_5
  refine Go.t (Go_sg bk_Arrays_fill_ii 5 2 (c2 := (some 7, [some (.ref 127), some (.int v1), some (.int v2), some (.int (11 : Int32))], [.int (11 : Int32), .int v2], σ)) (ps := []) rfl trivial) ?_
  refine Go_icmp_ge bk_Arrays_fill_ii 7 rfl (fun c2 => ?_) (fun c2 => ?_)
  · have h := ifT c2 h
    have h := Option.some.inj h
    subst h
    exact Go_ret0 bk_Arrays_fill_ii 14 rfl
  · have h := ifF c2 h
    obtain ⟨g1, h⟩ := gdS h
    refine Go.t (Go_sg bk_Arrays_fill_ii 8 6 (c2 := (some 5, [some (.ref 127), some (.int v1), some (.int (v2 + (1 : Int32))), some (.int (11 : Int32))], [], sI σ 127 v2.toNatClampNeg v1)) (ps := [IA 127 11 ∧ inb v2 11 = true]) rfl ⟨⟨⟨rfl, rfl⟩, g1⟩, trivial⟩) ?_
    have h := Option.some.inj h
    subst h
    exact Go.fg (LSub.cs (LSub.cs (LSub.cs (LSub.cs (LSub.nil)))))
def Arrays_fill_ii_L5 (v1 : Int32) (s : Int32 × MH) : Option ((MH)) := itr (fun s : Int32 × MH => Arrays_fill_ii_l5 v1 s.1 s.2) FU s
set_option maxRecDepth 20000 in
set_option maxHeartbeats 2000000 in
theorem t_Arrays_fill_ii_L5 (v1 : Int32)  (s : Int32 × MH) {r} (h : Arrays_fill_ii_L5 v1 s = some r) : Go m_Arrays_fill_ii 1 (cH_Arrays_fill_ii_5 v1 s) (cR_Arrays_fill_ii_5 v1 r) := Go_itr (fun s o ho => t_Arrays_fill_ii_l5 v1 s.1 s.2 ho) FU s r h
def Arrays_fill_ii0 (v1 : Int32) (σ : MH) : Option (MH) := (Arrays_fill_ii_L5 v1 ((0 : Int32), σ)).bind fun z3 => some (z3)
set_option maxRecDepth 20000 in
set_option maxHeartbeats 2000000 in
theorem t_Arrays_fill_ii0 (v1 : Int32)  (σ : MH) {o} (h : Arrays_fill_ii0 v1 σ = some o) : Go m_Arrays_fill_ii 1 (some 0, [some (.ref 127), some (.int v1), none, none], [], σ) ((none, [], [], o)) := by
  unfold Arrays_fill_ii0 at h
  refine Go.t (Go_sg bk_Arrays_fill_ii 0 5 (c2 := (some 5, [some (.ref 127), some (.int v1), some (.int (0 : Int32)), some (.int (11 : Int32))], [], σ)) (ps := [IA 127 11 ∨ IJ 127 11]) rfl ⟨(Or.inl ⟨rfl, rfl⟩), trivial⟩) ?_
  obtain ⟨z3, q4, h⟩ := bdS h
  refine Go.t (Go.t (Go.fg (LSub.cs (LSub.cs (LSub.cs (LSub.cs (LSub.nil)))))) (t_Arrays_fill_ii_L5 v1 _ q4)) ?_
  have h := Option.some.inj h
  subst h
  exact Go.rf
def Arrays_fill_ii (v1 : Int32) (σ : MH) : Option (MH) := Arrays_fill_ii0 v1 σ
set_option maxRecDepth 20000 in
set_option maxHeartbeats 2000000 in
theorem ev_Arrays_fill_ii (v1 : Int32)  (σ : MH) {o} (h : Arrays_fill_ii v1 σ = some o) : Ev m_Arrays_fill_ii 1 [.ref 127, .int v1] σ none o := Ev.of2 (by decide +kernel) rfl (Nat.le_of_ble_eq_true rfl) rfl (t_Arrays_fill_ii0 v1 σ h)
def Judge_fill_b14  (σ : MH) : Option (MH) := (Arrays_fill_ii (0 : Int32) σ).bind fun σ5 => some (σ5)
set_option maxRecDepth 20000 in
set_option maxHeartbeats 2000000 in
theorem t_Judge_fill_b14    (σ : MH) {o} (h : Judge_fill_b14 σ = some o) : Go m_Judge_fill 2 (some 14, [some (.ref 126), none, none, none, none], [], σ) ((none, [], [], o)) := by
  unfold Judge_fill_b14 at h
  refine Go.t (Go_sg bk_Judge_fill 6 3 (c2 := (some 19, [some (.ref 126), none, none, none, none], [.int (0 : Int32), .ref 127], σ)) (ps := [shk 126 = 2]) rfl ⟨rfl, trivial⟩) ?_
  obtain ⟨σ5, q6, h⟩ := bdS h
  refine Go.t (Go_callS bk_Judge_fill 9 rfl nk_Arrays_fill_ii tw893 tw894 (as := [.ref 127, .int (0 : Int32)]) (S := []) rfl rfl rfl (Nat.le_of_ble_eq_true rfl) (Nat.le_of_ble_eq_true rfl) (ev_Arrays_fill_ii _ _ q6)) ?_
  have h := Option.some.inj h
  subst h
  exact Go_ret0 bk_Judge_fill 10 rfl
def Judge_fill0 (v1 : Nat) (v2 : Int32) (v3 : Int32) (v4 : Int32) (σ : MH) : Option (MH) := (Pz_isNumber v2 σ).bind fun x1 => if x1 = (0 : Int32) then (Judge_fill_b14 σ) else ((Pz_isNumber v3 σ).bind fun x7 => if x7 = (0 : Int32) then (Judge_fill_b14 σ) else ((Land_piecesOf v1 v2 (sI (sI (sI σ 127 0 v2) 127 1 v3) 127 2 (jmax (0 : Int32) v4))).bind fun x10 => (Integer_bitCount x10 (sI (sI (sI σ 127 0 v2) 127 1 v3) 127 2 (jmax (0 : Int32) v4))).bind fun x13 => (Land_piecesOf v1 v3 (sI (sI (sI (sI σ 127 0 v2) 127 1 v3) 127 2 (jmax (0 : Int32) v4)) 127 3 x13)).bind fun x16 => (Integer_bitCount x16 (sI (sI (sI (sI σ 127 0 v2) 127 1 v3) 127 2 (jmax (0 : Int32) v4)) 127 3 x13)).bind fun x19 => if inb v2 12 = true then if inb v3 12 = true then some (sI (sI (sI (sI (sI (sI (sI (sI (sI (sI (sI σ 127 0 v2) 127 1 v3) 127 2 (jmax (0 : Int32) v4)) 127 3 x13) 127 4 x19) 127 5 ((sI (sI (sI (sI (sI σ 127 0 v2) 127 1 v3) 127 2 (jmax (0 : Int32) v4)) 127 3 x13) 127 4 x19).1 (rfv v1 3) v2.toNatClampNeg)) 127 6 ((sI (sI (sI (sI (sI (sI σ 127 0 v2) 127 1 v3) 127 2 (jmax (0 : Int32) v4)) 127 3 x13) 127 4 x19) 127 5 ((sI (sI (sI (sI (sI σ 127 0 v2) 127 1 v3) 127 2 (jmax (0 : Int32) v4)) 127 3 x13) 127 4 x19).1 (rfv v1 3) v2.toNatClampNeg)).1 (rfv v1 3) v3.toNatClampNeg)) 127 7 ((sI (sI (sI (sI (sI (sI (sI σ 127 0 v2) 127 1 v3) 127 2 (jmax (0 : Int32) v4)) 127 3 x13) 127 4 x19) 127 5 ((sI (sI (sI (sI (sI σ 127 0 v2) 127 1 v3) 127 2 (jmax (0 : Int32) v4)) 127 3 x13) 127 4 x19).1 (rfv v1 3) v2.toNatClampNeg)) 127 6 ((sI (sI (sI (sI (sI (sI σ 127 0 v2) 127 1 v3) 127 2 (jmax (0 : Int32) v4)) 127 3 x13) 127 4 x19) 127 5 ((sI (sI (sI (sI (sI σ 127 0 v2) 127 1 v3) 127 2 (jmax (0 : Int32) v4)) 127 3 x13) 127 4 x19).1 (rfv v1 3) v2.toNatClampNeg)).1 (rfv v1 3) v3.toNatClampNeg)).1 v1 13)) 127 8 ((sI (sI (sI (sI (sI (sI (sI (sI σ 127 0 v2) 127 1 v3) 127 2 (jmax (0 : Int32) v4)) 127 3 x13) 127 4 x19) 127 5 ((sI (sI (sI (sI (sI σ 127 0 v2) 127 1 v3) 127 2 (jmax (0 : Int32) v4)) 127 3 x13) 127 4 x19).1 (rfv v1 3) v2.toNatClampNeg)) 127 6 ((sI (sI (sI (sI (sI (sI σ 127 0 v2) 127 1 v3) 127 2 (jmax (0 : Int32) v4)) 127 3 x13) 127 4 x19) 127 5 ((sI (sI (sI (sI (sI σ 127 0 v2) 127 1 v3) 127 2 (jmax (0 : Int32) v4)) 127 3 x13) 127 4 x19).1 (rfv v1 3) v2.toNatClampNeg)).1 (rfv v1 3) v3.toNatClampNeg)) 127 7 ((sI (sI (sI (sI (sI (sI (sI σ 127 0 v2) 127 1 v3) 127 2 (jmax (0 : Int32) v4)) 127 3 x13) 127 4 x19) 127 5 ((sI (sI (sI (sI (sI σ 127 0 v2) 127 1 v3) 127 2 (jmax (0 : Int32) v4)) 127 3 x13) 127 4 x19).1 (rfv v1 3) v2.toNatClampNeg)) 127 6 ((sI (sI (sI (sI (sI (sI σ 127 0 v2) 127 1 v3) 127 2 (jmax (0 : Int32) v4)) 127 3 x13) 127 4 x19) 127 5 ((sI (sI (sI (sI (sI σ 127 0 v2) 127 1 v3) 127 2 (jmax (0 : Int32) v4)) 127 3 x13) 127 4 x19).1 (rfv v1 3) v2.toNatClampNeg)).1 (rfv v1 3) v3.toNatClampNeg)).1 v1 13)).1 (rfv v1 5) v2.toNatClampNeg)) 127 9 ((sI (sI (sI (sI (sI (sI (sI (sI (sI σ 127 0 v2) 127 1 v3) 127 2 (jmax (0 : Int32) v4)) 127 3 x13) 127 4 x19) 127 5 ((sI (sI (sI (sI (sI σ 127 0 v2) 127 1 v3) 127 2 (jmax (0 : Int32) v4)) 127 3 x13) 127 4 x19).1 (rfv v1 3) v2.toNatClampNeg)) 127 6 ((sI (sI (sI (sI (sI (sI σ 127 0 v2) 127 1 v3) 127 2 (jmax (0 : Int32) v4)) 127 3 x13) 127 4 x19) 127 5 ((sI (sI (sI (sI (sI σ 127 0 v2) 127 1 v3) 127 2 (jmax (0 : Int32) v4)) 127 3 x13) 127 4 x19).1 (rfv v1 3) v2.toNatClampNeg)).1 (rfv v1 3) v3.toNatClampNeg)) 127 7 ((sI (sI (sI (sI (sI (sI (sI σ 127 0 v2) 127 1 v3) 127 2 (jmax (0 : Int32) v4)) 127 3 x13) 127 4 x19) 127 5 ((sI (sI (sI (sI (sI σ 127 0 v2) 127 1 v3) 127 2 (jmax (0 : Int32) v4)) 127 3 x13) 127 4 x19).1 (rfv v1 3) v2.toNatClampNeg)) 127 6 ((sI (sI (sI (sI (sI (sI σ 127 0 v2) 127 1 v3) 127 2 (jmax (0 : Int32) v4)) 127 3 x13) 127 4 x19) 127 5 ((sI (sI (sI (sI (sI σ 127 0 v2) 127 1 v3) 127 2 (jmax (0 : Int32) v4)) 127 3 x13) 127 4 x19).1 (rfv v1 3) v2.toNatClampNeg)).1 (rfv v1 3) v3.toNatClampNeg)).1 v1 13)) 127 8 ((sI (sI (sI (sI (sI (sI (sI (sI σ 127 0 v2) 127 1 v3) 127 2 (jmax (0 : Int32) v4)) 127 3 x13) 127 4 x19) 127 5 ((sI (sI (sI (sI (sI σ 127 0 v2) 127 1 v3) 127 2 (jmax (0 : Int32) v4)) 127 3 x13) 127 4 x19).1 (rfv v1 3) v2.toNatClampNeg)) 127 6 ((sI (sI (sI (sI (sI (sI σ 127 0 v2) 127 1 v3) 127 2 (jmax (0 : Int32) v4)) 127 3 x13) 127 4 x19) 127 5 ((sI (sI (sI (sI (sI σ 127 0 v2) 127 1 v3) 127 2 (jmax (0 : Int32) v4)) 127 3 x13) 127 4 x19).1 (rfv v1 3) v2.toNatClampNeg)).1 (rfv v1 3) v3.toNatClampNeg)) 127 7 ((sI (sI (sI (sI (sI (sI (sI σ 127 0 v2) 127 1 v3) 127 2 (jmax (0 : Int32) v4)) 127 3 x13) 127 4 x19) 127 5 ((sI (sI (sI (sI (sI σ 127 0 v2) 127 1 v3) 127 2 (jmax (0 : Int32) v4)) 127 3 x13) 127 4 x19).1 (rfv v1 3) v2.toNatClampNeg)) 127 6 ((sI (sI (sI (sI (sI (sI σ 127 0 v2) 127 1 v3) 127 2 (jmax (0 : Int32) v4)) 127 3 x13) 127 4 x19) 127 5 ((sI (sI (sI (sI (sI σ 127 0 v2) 127 1 v3) 127 2 (jmax (0 : Int32) v4)) 127 3 x13) 127 4 x19).1 (rfv v1 3) v2.toNatClampNeg)).1 (rfv v1 3) v3.toNatClampNeg)).1 v1 13)).1 (rfv v1 5) v2.toNatClampNeg)).1 (rfv v1 2) v2.toNatClampNeg)) 127 10 ((sI (sI (sI (sI (sI (sI (sI (sI (sI (sI σ 127 0 v2) 127 1 v3) 127 2 (jmax (0 : Int32) v4)) 127 3 x13) 127 4 x19) 127 5 ((sI (sI (sI (sI (sI σ 127 0 v2) 127 1 v3) 127 2 (jmax (0 : Int32) v4)) 127 3 x13) 127 4 x19).1 (rfv v1 3) v2.toNatClampNeg)) 127 6 ((sI (sI (sI (sI (sI (sI σ 127 0 v2) 127 1 v3) 127 2 (jmax (0 : Int32) v4)) 127 3 x13) 127 4 x19) 127 5 ((sI (sI (sI (sI (sI σ 127 0 v2) 127 1 v3) 127 2 (jmax (0 : Int32) v4)) 127 3 x13) 127 4 x19).1 (rfv v1 3) v2.toNatClampNeg)).1 (rfv v1 3) v3.toNatClampNeg)) 127 7 ((sI (sI (sI (sI (sI (sI (sI σ 127 0 v2) 127 1 v3) 127 2 (jmax (0 : Int32) v4)) 127 3 x13) 127 4 x19) 127 5 ((sI (sI (sI (sI (sI σ 127 0 v2) 127 1 v3) 127 2 (jmax (0 : Int32) v4)) 127 3 x13) 127 4 x19).1 (rfv v1 3) v2.toNatClampNeg)) 127 6 ((sI (sI (sI (sI (sI (sI σ 127 0 v2) 127 1 v3) 127 2 (jmax (0 : Int32) v4)) 127 3 x13) 127 4 x19) 127 5 ((sI (sI (sI (sI (sI σ 127 0 v2) 127 1 v3) 127 2 (jmax (0 : Int32) v4)) 127 3 x13) 127 4 x19).1 (rfv v1 3) v2.toNatClampNeg)).1 (rfv v1 3) v3.toNatClampNeg)).1 v1 13)) 127 8 ((sI (sI (sI (sI (sI (sI (sI (sI σ 127 0 v2) 127 1 v3) 127 2 (jmax (0 : Int32) v4)) 127 3 x13) 127 4 x19) 127 5 ((sI (sI (sI (sI (sI σ 127 0 v2) 127 1 v3) 127 2 (jmax (0 : Int32) v4)) 127 3 x13) 127 4 x19).1 (rfv v1 3) v2.toNatClampNeg)) 127 6 ((sI (sI (sI (sI (sI (sI σ 127 0 v2) 127 1 v3) 127 2 (jmax (0 : Int32) v4)) 127 3 x13) 127 4 x19) 127 5 ((sI (sI (sI (sI (sI σ 127 0 v2) 127 1 v3) 127 2 (jmax (0 : Int32) v4)) 127 3 x13) 127 4 x19).1 (rfv v1 3) v2.toNatClampNeg)).1 (rfv v1 3) v3.toNatClampNeg)) 127 7 ((sI (sI (sI (sI (sI (sI (sI σ 127 0 v2) 127 1 v3) 127 2 (jmax (0 : Int32) v4)) 127 3 x13) 127 4 x19) 127 5 ((sI (sI (sI (sI (sI σ 127 0 v2) 127 1 v3) 127 2 (jmax (0 : Int32) v4)) 127 3 x13) 127 4 x19).1 (rfv v1 3) v2.toNatClampNeg)) 127 6 ((sI (sI (sI (sI (sI (sI σ 127 0 v2) 127 1 v3) 127 2 (jmax (0 : Int32) v4)) 127 3 x13) 127 4 x19) 127 5 ((sI (sI (sI (sI (sI σ 127 0 v2) 127 1 v3) 127 2 (jmax (0 : Int32) v4)) 127 3 x13) 127 4 x19).1 (rfv v1 3) v2.toNatClampNeg)).1 (rfv v1 3) v3.toNatClampNeg)).1 v1 13)).1 (rfv v1 5) v2.toNatClampNeg)) 127 9 ((sI (sI (sI (sI (sI (sI (sI (sI (sI σ 127 0 v2) 127 1 v3) 127 2 (jmax (0 : Int32) v4)) 127 3 x13) 127 4 x19) 127 5 ((sI (sI (sI (sI (sI σ 127 0 v2) 127 1 v3) 127 2 (jmax (0 : Int32) v4)) 127 3 x13) 127 4 x19).1 (rfv v1 3) v2.toNatClampNeg)) 127 6 ((sI (sI (sI (sI (sI (sI σ 127 0 v2) 127 1 v3) 127 2 (jmax (0 : Int32) v4)) 127 3 x13) 127 4 x19) 127 5 ((sI (sI (sI (sI (sI σ 127 0 v2) 127 1 v3) 127 2 (jmax (0 : Int32) v4)) 127 3 x13) 127 4 x19).1 (rfv v1 3) v2.toNatClampNeg)).1 (rfv v1 3) v3.toNatClampNeg)) 127 7 ((sI (sI (sI (sI (sI (sI (sI σ 127 0 v2) 127 1 v3) 127 2 (jmax (0 : Int32) v4)) 127 3 x13) 127 4 x19) 127 5 ((sI (sI (sI (sI (sI σ 127 0 v2) 127 1 v3) 127 2 (jmax (0 : Int32) v4)) 127 3 x13) 127 4 x19).1 (rfv v1 3) v2.toNatClampNeg)) 127 6 ((sI (sI (sI (sI (sI (sI σ 127 0 v2) 127 1 v3) 127 2 (jmax (0 : Int32) v4)) 127 3 x13) 127 4 x19) 127 5 ((sI (sI (sI (sI (sI σ 127 0 v2) 127 1 v3) 127 2 (jmax (0 : Int32) v4)) 127 3 x13) 127 4 x19).1 (rfv v1 3) v2.toNatClampNeg)).1 (rfv v1 3) v3.toNatClampNeg)).1 v1 13)) 127 8 ((sI (sI (sI (sI (sI (sI (sI (sI σ 127 0 v2) 127 1 v3) 127 2 (jmax (0 : Int32) v4)) 127 3 x13) 127 4 x19) 127 5 ((sI (sI (sI (sI (sI σ 127 0 v2) 127 1 v3) 127 2 (jmax (0 : Int32) v4)) 127 3 x13) 127 4 x19).1 (rfv v1 3) v2.toNatClampNeg)) 127 6 ((sI (sI (sI (sI (sI (sI σ 127 0 v2) 127 1 v3) 127 2 (jmax (0 : Int32) v4)) 127 3 x13) 127 4 x19) 127 5 ((sI (sI (sI (sI (sI σ 127 0 v2) 127 1 v3) 127 2 (jmax (0 : Int32) v4)) 127 3 x13) 127 4 x19).1 (rfv v1 3) v2.toNatClampNeg)).1 (rfv v1 3) v3.toNatClampNeg)) 127 7 ((sI (sI (sI (sI (sI (sI (sI σ 127 0 v2) 127 1 v3) 127 2 (jmax (0 : Int32) v4)) 127 3 x13) 127 4 x19) 127 5 ((sI (sI (sI (sI (sI σ 127 0 v2) 127 1 v3) 127 2 (jmax (0 : Int32) v4)) 127 3 x13) 127 4 x19).1 (rfv v1 3) v2.toNatClampNeg)) 127 6 ((sI (sI (sI (sI (sI (sI σ 127 0 v2) 127 1 v3) 127 2 (jmax (0 : Int32) v4)) 127 3 x13) 127 4 x19) 127 5 ((sI (sI (sI (sI (sI σ 127 0 v2) 127 1 v3) 127 2 (jmax (0 : Int32) v4)) 127 3 x13) 127 4 x19).1 (rfv v1 3) v2.toNatClampNeg)).1 (rfv v1 3) v3.toNatClampNeg)).1 v1 13)).1 (rfv v1 5) v2.toNatClampNeg)).1 (rfv v1 2) v2.toNatClampNeg)).1 (rfv v1 2) v3.toNatClampNeg)) else none else none))
set_option maxRecDepth 20000 in
set_option maxHeartbeats 2000000 in
theorem t_Judge_fill0 (v1 : Nat) (v2 : Int32) (v3 : Int32) (v4 : Int32) (hv1 : isLd v1) (σ : MH) {o} (h : Judge_fill0 v1 v2 v3 v4 σ = some o) : Go m_Judge_fill 2 (some 0, [some (.ref 126), some (.ref v1), some (.int v2), some (.int v3), some (.int v4)], [], σ) ((none, [], [], o)) := by
  unfold Judge_fill0 at h
  refine Go.t (Go_sg bk_Judge_fill 0 1 (c2 := (some 1, [some (.ref 126), some (.ref v1), some (.int v2), some (.int v3), some (.int v4)], [.int v2], σ)) (ps := []) rfl trivial) ?_
  obtain ⟨x1, q3, h⟩ := bdS h
  refine Go.t (Go_callN bk_Judge_fill 1 rfl nk_Pz_isNumber (host := RX11) (by decide +kernel) tw553 (as := [.int v2]) (S := []) rfl rfl rfl (Nat.le_of_ble_eq_true rfl) (Nat.le_of_ble_eq_true rfl) (ev_Pz_isNumber _ _ q3)) ?_
  refine Go_if_eq bk_Judge_fill 2 rfl (fun c25 => ?_) (fun c25 => ?_)
  · have h := ifT c25 h
    exact Go.t (Go.fg (LSub.cs (LSub.cn (LSub.cn (LSub.cn (LSub.cn (LSub.nil))))))) (t_Judge_fill_b14 σ h)
  · have h := ifF c25 h
    refine Go.t (Go_sg bk_Judge_fill 3 1 (c2 := (some 8, [some (.ref 126), some (.ref v1), some (.int v2), some (.int v3), some (.int v4)], [.int v3], σ)) (ps := []) rfl trivial) ?_
    obtain ⟨x7, q9, h⟩ := bdS h
    refine Go.t (Go_callN bk_Judge_fill 4 rfl nk_Pz_isNumber (host := RX11) (by decide +kernel) tw553 (as := [.int v3]) (S := []) rfl rfl rfl (Nat.le_of_ble_eq_true rfl) (Nat.le_of_ble_eq_true rfl) (ev_Pz_isNumber _ _ q9)) ?_
    refine Go_if_ne bk_Judge_fill 5 rfl (fun c24 => ?_) (fun c24 => ?_)
    · have h := ifF c24 h
      refine Go.t (Go_sg bk_Judge_fill 11 15 (c2 := (some 45, [some (.ref 126), some (.ref v1), some (.int v2), some (.int v3), some (.int v4)], [.int v4, .int (0 : Int32), .int (2 : Int32), .ref 127], sI (sI σ 127 0 v2) 127 1 v3)) (ps := [shk 126 = 2, IA 127 11 ∧ inb (0 : Int32) 11 = true, shk 126 = 2, IA 127 11 ∧ inb (1 : Int32) 11 = true, shk 126 = 2]) rfl ⟨rfl, ⟨⟨rfl, rfl⟩, (inbN 0 11 rfl)⟩, rfl, ⟨⟨rfl, rfl⟩, (inbN 1 11 rfl)⟩, rfl, trivial⟩) ?_
      refine Go.t (Go_mmax bk_Judge_fill 26 rfl tw875 (Nat.le_of_ble_eq_true rfl) (Nat.le_of_ble_eq_true rfl)) ?_
      refine Go.t (Go_sg bk_Judge_fill 27 6 (c2 := (some 56, [some (.ref 126), some (.ref v1), some (.int v2), some (.int v3), some (.int v4)], [.int v2, .ref v1, .int (3 : Int32), .ref 127], sI (sI (sI σ 127 0 v2) 127 1 v3) 127 2 (jmax (0 : Int32) v4))) (ps := [IA 127 11 ∧ inb (2 : Int32) 11 = true, shk 126 = 2]) rfl ⟨⟨⟨rfl, rfl⟩, (inbN 2 11 rfl)⟩, rfl, trivial⟩) ?_
      obtain ⟨x10, q12, h⟩ := bdS h
      refine Go.t (Go_callV bk_Judge_fill 33 rfl nk_Land_piecesOf tw896 tw897 tw898 (ci := 3) rfl (as := [.int v2]) (S := [.int (3 : Int32), .ref 127]) (ldk hv1) rfl rfl rfl (Nat.le_of_ble_eq_true rfl) (Nat.le_of_ble_eq_true rfl) (ev_Land_piecesOf _ _ hv1 _ q12)) ?_
      obtain ⟨x13, q15, h⟩ := bdS h
      refine Go.t (Go_callS bk_Judge_fill 34 rfl nk_Integer_bitCount tw900 tw901 (as := [.int x10]) (S := [.int (3 : Int32), .ref 127]) rfl rfl rfl (Nat.le_of_ble_eq_true rfl) (Nat.le_of_ble_eq_true rfl) (ev_Integer_bitCount _ _ q15)) ?_
      refine Go.t (Go_sg bk_Judge_fill 35 6 (c2 := (some 70, [some (.ref 126), some (.ref v1), some (.int v2), some (.int v3), some (.int v4)], [.int v3, .ref v1, .int (4 : Int32), .ref 127], sI (sI (sI (sI σ 127 0 v2) 127 1 v3) 127 2 (jmax (0 : Int32) v4)) 127 3 x13)) (ps := [IA 127 11 ∧ inb (3 : Int32) 11 = true, shk 126 = 2]) rfl ⟨⟨⟨rfl, rfl⟩, (inbN 3 11 rfl)⟩, rfl, trivial⟩) ?_
      obtain ⟨x16, q18, h⟩ := bdS h
      refine Go.t (Go_callV bk_Judge_fill 41 rfl nk_Land_piecesOf tw896 tw897 tw898 (ci := 3) rfl (as := [.int v3]) (S := [.int (4 : Int32), .ref 127]) (ldk hv1) rfl rfl rfl (Nat.le_of_ble_eq_true rfl) (Nat.le_of_ble_eq_true rfl) (ev_Land_piecesOf _ _ hv1 _ q18)) ?_
      obtain ⟨x19, q21, h⟩ := bdS h
      refine Go.t (Go_callS bk_Judge_fill 42 rfl nk_Integer_bitCount tw900 tw901 (as := [.int x16]) (S := [.int (4 : Int32), .ref 127]) rfl rfl rfl (Nat.le_of_ble_eq_true rfl) (Nat.le_of_ble_eq_true rfl) (ev_Integer_bitCount _ _ q21)) ?_
      obtain ⟨g22, h⟩ := gdS h
      obtain ⟨g23, h⟩ := gdS h
      have h := Option.some.inj h
      subst h
      refine Go.t (Go_sg bk_Judge_fill 43 47 (c2 := (some 152, [some (.ref 126), some (.ref v1), some (.int v2), some (.int v3), some (.int v4)], [], sI (sI (sI (sI (sI (sI (sI (sI (sI (sI (sI σ 127 0 v2) 127 1 v3) 127 2 (jmax (0 : Int32) v4)) 127 3 x13) 127 4 x19) 127 5 ((sI (sI (sI (sI (sI σ 127 0 v2) 127 1 v3) 127 2 (jmax (0 : Int32) v4)) 127 3 x13) 127 4 x19).1 (rfv v1 3) v2.toNatClampNeg)) 127 6 ((sI (sI (sI (sI (sI (sI σ 127 0 v2) 127 1 v3) 127 2 (jmax (0 : Int32) v4)) 127 3 x13) 127 4 x19) 127 5 ((sI (sI (sI (sI (sI σ 127 0 v2) 127 1 v3) 127 2 (jmax (0 : Int32) v4)) 127 3 x13) 127 4 x19).1 (rfv v1 3) v2.toNatClampNeg)).1 (rfv v1 3) v3.toNatClampNeg)) 127 7 ((sI (sI (sI (sI (sI (sI (sI σ 127 0 v2) 127 1 v3) 127 2 (jmax (0 : Int32) v4)) 127 3 x13) 127 4 x19) 127 5 ((sI (sI (sI (sI (sI σ 127 0 v2) 127 1 v3) 127 2 (jmax (0 : Int32) v4)) 127 3 x13) 127 4 x19).1 (rfv v1 3) v2.toNatClampNeg)) 127 6 ((sI (sI (sI (sI (sI (sI σ 127 0 v2) 127 1 v3) 127 2 (jmax (0 : Int32) v4)) 127 3 x13) 127 4 x19) 127 5 ((sI (sI (sI (sI (sI σ 127 0 v2) 127 1 v3) 127 2 (jmax (0 : Int32) v4)) 127 3 x13) 127 4 x19).1 (rfv v1 3) v2.toNatClampNeg)).1 (rfv v1 3) v3.toNatClampNeg)).1 v1 13)) 127 8 ((sI (sI (sI (sI (sI (sI (sI (sI σ 127 0 v2) 127 1 v3) 127 2 (jmax (0 : Int32) v4)) 127 3 x13) 127 4 x19) 127 5 ((sI (sI (sI (sI (sI σ 127 0 v2) 127 1 v3) 127 2 (jmax (0 : Int32) v4)) 127 3 x13) 127 4 x19).1 (rfv v1 3) v2.toNatClampNeg)) 127 6 ((sI (sI (sI (sI (sI (sI σ 127 0 v2) 127 1 v3) 127 2 (jmax (0 : Int32) v4)) 127 3 x13) 127 4 x19) 127 5 ((sI (sI (sI (sI (sI σ 127 0 v2) 127 1 v3) 127 2 (jmax (0 : Int32) v4)) 127 3 x13) 127 4 x19).1 (rfv v1 3) v2.toNatClampNeg)).1 (rfv v1 3) v3.toNatClampNeg)) 127 7 ((sI (sI (sI (sI (sI (sI (sI σ 127 0 v2) 127 1 v3) 127 2 (jmax (0 : Int32) v4)) 127 3 x13) 127 4 x19) 127 5 ((sI (sI (sI (sI (sI σ 127 0 v2) 127 1 v3) 127 2 (jmax (0 : Int32) v4)) 127 3 x13) 127 4 x19).1 (rfv v1 3) v2.toNatClampNeg)) 127 6 ((sI (sI (sI (sI (sI (sI σ 127 0 v2) 127 1 v3) 127 2 (jmax (0 : Int32) v4)) 127 3 x13) 127 4 x19) 127 5 ((sI (sI (sI (sI (sI σ 127 0 v2) 127 1 v3) 127 2 (jmax (0 : Int32) v4)) 127 3 x13) 127 4 x19).1 (rfv v1 3) v2.toNatClampNeg)).1 (rfv v1 3) v3.toNatClampNeg)).1 v1 13)).1 (rfv v1 5) v2.toNatClampNeg)) 127 9 ((sI (sI (sI (sI (sI (sI (sI (sI (sI σ 127 0 v2) 127 1 v3) 127 2 (jmax (0 : Int32) v4)) 127 3 x13) 127 4 x19) 127 5 ((sI (sI (sI (sI (sI σ 127 0 v2) 127 1 v3) 127 2 (jmax (0 : Int32) v4)) 127 3 x13) 127 4 x19).1 (rfv v1 3) v2.toNatClampNeg)) 127 6 ((sI (sI (sI (sI (sI (sI σ 127 0 v2) 127 1 v3) 127 2 (jmax (0 : Int32) v4)) 127 3 x13) 127 4 x19) 127 5 ((sI (sI (sI (sI (sI σ 127 0 v2) 127 1 v3) 127 2 (jmax (0 : Int32) v4)) 127 3 x13) 127 4 x19).1 (rfv v1 3) v2.toNatClampNeg)).1 (rfv v1 3) v3.toNatClampNeg)) 127 7 ((sI (sI (sI (sI (sI (sI (sI σ 127 0 v2) 127 1 v3) 127 2 (jmax (0 : Int32) v4)) 127 3 x13) 127 4 x19) 127 5 ((sI (sI (sI (sI (sI σ 127 0 v2) 127 1 v3) 127 2 (jmax (0 : Int32) v4)) 127 3 x13) 127 4 x19).1 (rfv v1 3) v2.toNatClampNeg)) 127 6 ((sI (sI (sI (sI (sI (sI σ 127 0 v2) 127 1 v3) 127 2 (jmax (0 : Int32) v4)) 127 3 x13) 127 4 x19) 127 5 ((sI (sI (sI (sI (sI σ 127 0 v2) 127 1 v3) 127 2 (jmax (0 : Int32) v4)) 127 3 x13) 127 4 x19).1 (rfv v1 3) v2.toNatClampNeg)).1 (rfv v1 3) v3.toNatClampNeg)).1 v1 13)) 127 8 ((sI (sI (sI (sI (sI (sI (sI (sI σ 127 0 v2) 127 1 v3) 127 2 (jmax (0 : Int32) v4)) 127 3 x13) 127 4 x19) 127 5 ((sI (sI (sI (sI (sI σ 127 0 v2) 127 1 v3) 127 2 (jmax (0 : Int32) v4)) 127 3 x13) 127 4 x19).1 (rfv v1 3) v2.toNatClampNeg)) 127 6 ((sI (sI (sI (sI (sI (sI σ 127 0 v2) 127 1 v3) 127 2 (jmax (0 : Int32) v4)) 127 3 x13) 127 4 x19) 127 5 ((sI (sI (sI (sI (sI σ 127 0 v2) 127 1 v3) 127 2 (jmax (0 : Int32) v4)) 127 3 x13) 127 4 x19).1 (rfv v1 3) v2.toNatClampNeg)).1 (rfv v1 3) v3.toNatClampNeg)) 127 7 ((sI (sI (sI (sI (sI (sI (sI σ 127 0 v2) 127 1 v3) 127 2 (jmax (0 : Int32) v4)) 127 3 x13) 127 4 x19) 127 5 ((sI (sI (sI (sI (sI σ 127 0 v2) 127 1 v3) 127 2 (jmax (0 : Int32) v4)) 127 3 x13) 127 4 x19).1 (rfv v1 3) v2.toNatClampNeg)) 127 6 ((sI (sI (sI (sI (sI (sI σ 127 0 v2) 127 1 v3) 127 2 (jmax (0 : Int32) v4)) 127 3 x13) 127 4 x19) 127 5 ((sI (sI (sI (sI (sI σ 127 0 v2) 127 1 v3) 127 2 (jmax (0 : Int32) v4)) 127 3 x13) 127 4 x19).1 (rfv v1 3) v2.toNatClampNeg)).1 (rfv v1 3) v3.toNatClampNeg)).1 v1 13)).1 (rfv v1 5) v2.toNatClampNeg)).1 (rfv v1 2) v2.toNatClampNeg)) 127 10 ((sI (sI (sI (sI (sI (sI (sI (sI (sI (sI σ 127 0 v2) 127 1 v3) 127 2 (jmax (0 : Int32) v4)) 127 3 x13) 127 4 x19) 127 5 ((sI (sI (sI (sI (sI σ 127 0 v2) 127 1 v3) 127 2 (jmax (0 : Int32) v4)) 127 3 x13) 127 4 x19).1 (rfv v1 3) v2.toNatClampNeg)) 127 6 ((sI (sI (sI (sI (sI (sI σ 127 0 v2) 127 1 v3) 127 2 (jmax (0 : Int32) v4)) 127 3 x13) 127 4 x19) 127 5 ((sI (sI (sI (sI (sI σ 127 0 v2) 127 1 v3) 127 2 (jmax (0 : Int32) v4)) 127 3 x13) 127 4 x19).1 (rfv v1 3) v2.toNatClampNeg)).1 (rfv v1 3) v3.toNatClampNeg)) 127 7 ((sI (sI (sI (sI (sI (sI (sI σ 127 0 v2) 127 1 v3) 127 2 (jmax (0 : Int32) v4)) 127 3 x13) 127 4 x19) 127 5 ((sI (sI (sI (sI (sI σ 127 0 v2) 127 1 v3) 127 2 (jmax (0 : Int32) v4)) 127 3 x13) 127 4 x19).1 (rfv v1 3) v2.toNatClampNeg)) 127 6 ((sI (sI (sI (sI (sI (sI σ 127 0 v2) 127 1 v3) 127 2 (jmax (0 : Int32) v4)) 127 3 x13) 127 4 x19) 127 5 ((sI (sI (sI (sI (sI σ 127 0 v2) 127 1 v3) 127 2 (jmax (0 : Int32) v4)) 127 3 x13) 127 4 x19).1 (rfv v1 3) v2.toNatClampNeg)).1 (rfv v1 3) v3.toNatClampNeg)).1 v1 13)) 127 8 ((sI (sI (sI (sI (sI (sI (sI (sI σ 127 0 v2) 127 1 v3) 127 2 (jmax (0 : Int32) v4)) 127 3 x13) 127 4 x19) 127 5 ((sI (sI (sI (sI (sI σ 127 0 v2) 127 1 v3) 127 2 (jmax (0 : Int32) v4)) 127 3 x13) 127 4 x19).1 (rfv v1 3) v2.toNatClampNeg)) 127 6 ((sI (sI (sI (sI (sI (sI σ 127 0 v2) 127 1 v3) 127 2 (jmax (0 : Int32) v4)) 127 3 x13) 127 4 x19) 127 5 ((sI (sI (sI (sI (sI σ 127 0 v2) 127 1 v3) 127 2 (jmax (0 : Int32) v4)) 127 3 x13) 127 4 x19).1 (rfv v1 3) v2.toNatClampNeg)).1 (rfv v1 3) v3.toNatClampNeg)) 127 7 ((sI (sI (sI (sI (sI (sI (sI σ 127 0 v2) 127 1 v3) 127 2 (jmax (0 : Int32) v4)) 127 3 x13) 127 4 x19) 127 5 ((sI (sI (sI (sI (sI σ 127 0 v2) 127 1 v3) 127 2 (jmax (0 : Int32) v4)) 127 3 x13) 127 4 x19).1 (rfv v1 3) v2.toNatClampNeg)) 127 6 ((sI (sI (sI (sI (sI (sI σ 127 0 v2) 127 1 v3) 127 2 (jmax (0 : Int32) v4)) 127 3 x13) 127 4 x19) 127 5 ((sI (sI (sI (sI (sI σ 127 0 v2) 127 1 v3) 127 2 (jmax (0 : Int32) v4)) 127 3 x13) 127 4 x19).1 (rfv v1 3) v2.toNatClampNeg)).1 (rfv v1 3) v3.toNatClampNeg)).1 v1 13)).1 (rfv v1 5) v2.toNatClampNeg)) 127 9 ((sI (sI (sI (sI (sI (sI (sI (sI (sI σ 127 0 v2) 127 1 v3) 127 2 (jmax (0 : Int32) v4)) 127 3 x13) 127 4 x19) 127 5 ((sI (sI (sI (sI (sI σ 127 0 v2) 127 1 v3) 127 2 (jmax (0 : Int32) v4)) 127 3 x13) 127 4 x19).1 (rfv v1 3) v2.toNatClampNeg)) 127 6 ((sI (sI (sI (sI (sI (sI σ 127 0 v2) 127 1 v3) 127 2 (jmax (0 : Int32) v4)) 127 3 x13) 127 4 x19) 127 5 ((sI (sI (sI (sI (sI σ 127 0 v2) 127 1 v3) 127 2 (jmax (0 : Int32) v4)) 127 3 x13) 127 4 x19).1 (rfv v1 3) v2.toNatClampNeg)).1 (rfv v1 3) v3.toNatClampNeg)) 127 7 ((sI (sI (sI (sI (sI (sI (sI σ 127 0 v2) 127 1 v3) 127 2 (jmax (0 : Int32) v4)) 127 3 x13) 127 4 x19) 127 5 ((sI (sI (sI (sI (sI σ 127 0 v2) 127 1 v3) 127 2 (jmax (0 : Int32) v4)) 127 3 x13) 127 4 x19).1 (rfv v1 3) v2.toNatClampNeg)) 127 6 ((sI (sI (sI (sI (sI (sI σ 127 0 v2) 127 1 v3) 127 2 (jmax (0 : Int32) v4)) 127 3 x13) 127 4 x19) 127 5 ((sI (sI (sI (sI (sI σ 127 0 v2) 127 1 v3) 127 2 (jmax (0 : Int32) v4)) 127 3 x13) 127 4 x19).1 (rfv v1 3) v2.toNatClampNeg)).1 (rfv v1 3) v3.toNatClampNeg)).1 v1 13)) 127 8 ((sI (sI (sI (sI (sI (sI (sI (sI σ 127 0 v2) 127 1 v3) 127 2 (jmax (0 : Int32) v4)) 127 3 x13) 127 4 x19) 127 5 ((sI (sI (sI (sI (sI σ 127 0 v2) 127 1 v3) 127 2 (jmax (0 : Int32) v4)) 127 3 x13) 127 4 x19).1 (rfv v1 3) v2.toNatClampNeg)) 127 6 ((sI (sI (sI (sI (sI (sI σ 127 0 v2) 127 1 v3) 127 2 (jmax (0 : Int32) v4)) 127 3 x13) 127 4 x19) 127 5 ((sI (sI (sI (sI (sI σ 127 0 v2) 127 1 v3) 127 2 (jmax (0 : Int32) v4)) 127 3 x13) 127 4 x19).1 (rfv v1 3) v2.toNatClampNeg)).1 (rfv v1 3) v3.toNatClampNeg)) 127 7 ((sI (sI (sI (sI (sI (sI (sI σ 127 0 v2) 127 1 v3) 127 2 (jmax (0 : Int32) v4)) 127 3 x13) 127 4 x19) 127 5 ((sI (sI (sI (sI (sI σ 127 0 v2) 127 1 v3) 127 2 (jmax (0 : Int32) v4)) 127 3 x13) 127 4 x19).1 (rfv v1 3) v2.toNatClampNeg)) 127 6 ((sI (sI (sI (sI (sI (sI σ 127 0 v2) 127 1 v3) 127 2 (jmax (0 : Int32) v4)) 127 3 x13) 127 4 x19) 127 5 ((sI (sI (sI (sI (sI σ 127 0 v2) 127 1 v3) 127 2 (jmax (0 : Int32) v4)) 127 3 x13) 127 4 x19).1 (rfv v1 3) v2.toNatClampNeg)).1 (rfv v1 3) v3.toNatClampNeg)).1 v1 13)).1 (rfv v1 5) v2.toNatClampNeg)).1 (rfv v1 2) v2.toNatClampNeg)).1 (rfv v1 2) v3.toNatClampNeg))) (ps := [IA 127 11 ∧ inb (4 : Int32) 11 = true, shk 126 = 2, shk v1 = 3, IA (rfv v1 3) 12 ∧ inb v2 12 = true, IA 127 11 ∧ inb (5 : Int32) 11 = true, shk 126 = 2, shk v1 = 3, IA (rfv v1 3) 12 ∧ inb v3 12 = true, IA 127 11 ∧ inb (6 : Int32) 11 = true, shk 126 = 2, shk v1 = 3, IA 127 11 ∧ inb (7 : Int32) 11 = true, shk 126 = 2, shk v1 = 3, IA (rfv v1 5) 12 ∧ inb v2 12 = true, IA 127 11 ∧ inb (8 : Int32) 11 = true, shk 126 = 2, shk v1 = 3, IA (rfv v1 2) 12 ∧ inb v2 12 = true, IA 127 11 ∧ inb (9 : Int32) 11 = true, shk 126 = 2, shk v1 = 3, IA (rfv v1 2) 12 ∧ inb v3 12 = true, IA 127 11 ∧ inb (10 : Int32) 11 = true]) rfl ⟨⟨⟨rfl, rfl⟩, (inbN 4 11 rfl)⟩, rfl, (ldk hv1), ⟨(ldA hv1 3 rfl), g22⟩, ⟨⟨rfl, rfl⟩, (inbN 5 11 rfl)⟩, rfl, (ldk hv1), ⟨(ldA hv1 3 rfl), g23⟩, ⟨⟨rfl, rfl⟩, (inbN 6 11 rfl)⟩, rfl, (ldk hv1), ⟨⟨rfl, rfl⟩, (inbN 7 11 rfl)⟩, rfl, (ldk hv1), ⟨(ldA hv1 5 rfl), g22⟩, ⟨⟨rfl, rfl⟩, (inbN 8 11 rfl)⟩, rfl, (ldk hv1), ⟨(ldA hv1 2 rfl), g22⟩, ⟨⟨rfl, rfl⟩, (inbN 9 11 rfl)⟩, rfl, (ldk hv1), ⟨(ldA hv1 2 rfl), g23⟩, ⟨⟨rfl, rfl⟩, (inbN 10 11 rfl)⟩, trivial⟩) ?_
      exact Go_ret0 bk_Judge_fill 90 rfl
    · have h := ifT c24 h
      exact Go.t (Go.fg (LSub.cs (LSub.cn (LSub.cn (LSub.cn (LSub.cn (LSub.nil))))))) (t_Judge_fill_b14 σ h)
def Judge_fill (v1 : Nat) (v2 : Int32) (v3 : Int32) (v4 : Int32) (σ : MH) : Option (MH) := Judge_fill0 v1 v2 v3 v4 σ
set_option maxRecDepth 20000 in
set_option maxHeartbeats 2000000 in
theorem ev_Judge_fill (v1 : Nat) (v2 : Int32) (v3 : Int32) (v4 : Int32) (hv1 : isLd v1) (σ : MH) {o} (h : Judge_fill v1 v2 v3 v4 σ = some o) : Ev m_Judge_fill 2 [.ref 126, .ref v1, .int v2, .int v3, .int v4] σ none o := Ev.of2 (by decide +kernel) rfl (Nat.le_of_ble_eq_true rfl) rfl (t_Judge_fill0 v1 v2 v3 v4 hv1 σ h)
set_option maxRecDepth 20000 in
set_option maxHeartbeats 2000000 in
theorem dt_Law_reckon_1 : decode m_Law_reckon.2.1 1 = .ok (.tableswitch 188 37 62 #[143, 188, 188, 188, 188, 127, 119, 188, 123, 188, 131, 188, 188, 188, 188, 188, 188, 188, 188, 188, 188, 188, 188, 155, 177, 166], 119) := by decide +kernel
def Law_reckon0 (v0 : Int32) (v1 : Int32) (v2 : Int32) (σ : MH) : Option (Int32) := if v0 = (37 : Int32) then (if v2 = (0 : Int32) then some ((0 : Int32)) else (if (v2 != 0) = true then some (jrem v1 v2) else none)) else if v0 = (42 : Int32) then some (v1 * v2) else if v0 = (43 : Int32) then some (v1 + v2) else if v0 = (45 : Int32) then some (v1 - v2) else if v0 = (47 : Int32) then (if v2 = (0 : Int32) then some ((0 : Int32)) else (if (v2 != 0) = true then some (v1 / v2) else none)) else if v0 = (60 : Int32) then (if v2 ≤ v1 then some ((0 : Int32)) else some ((1 : Int32))) else if v0 = (61 : Int32) then (if v1 = v2 then some ((1 : Int32)) else some ((0 : Int32))) else if v0 = (62 : Int32) then (if v1 ≤ v2 then some ((0 : Int32)) else some ((1 : Int32))) else some ((0 : Int32))
set_option maxRecDepth 20000 in
set_option maxHeartbeats 2000000 in
theorem t_Law_reckon0 (v0 : Int32) (v1 : Int32) (v2 : Int32)  (σ : MH) {o} (h : Law_reckon0 v0 v1 v2 σ = some o) : Go m_Law_reckon 1 (some 0, [some (.int v0), some (.int v1), some (.int v2)], [], σ) ((none, [], [.int o], σ)) := by
  unfold Law_reckon0 at h
  refine Go.t (Go_sg bk_Law_reckon 0 1 (c2 := (some 1, [some (.int v0), some (.int v1), some (.int v2)], [.int v0], σ)) (ps := []) rfl trivial) ?_
  by_cases c3 : v0 = (37 : Int32)
  · have h := ifT c3 h
    refine Go.t (Go_tsi dt_Law_reckon_1 (tsw_in c3 37 62 rfl).1 (tsw_in c3 37 62 rfl).2 (by rw [c3]; rfl) (tgt := 144) (by decide)) ?_
    refine Go.t (Go_sg bk_Law_reckon 21 1 (c2 := (some 145, [some (.int v0), some (.int v1), some (.int v2)], [.int v2], σ)) (ps := []) rfl trivial) ?_
    refine Go_if_ne bk_Law_reckon 22 rfl (fun c2 => ?_) (fun c2 => ?_)
    · have h := ifF c2 h
      obtain ⟨g1, h⟩ := gdS h
      have h := Option.some.inj h
      subst h
      refine Go.t (Go_sg bk_Law_reckon 25 3 (c2 := (some 155, [some (.int v0), some (.int v1), some (.int v2)], [.int (jrem v1 v2)], σ)) (ps := [v2 ≠ 0]) rfl ⟨(nzB g1), trivial⟩) ?_
      exact Go_reti bk_Law_reckon 28 rfl
    · have h := ifT c2 h
      refine Go.t (Go_sg bk_Law_reckon 23 2 (c2 := (some 155, [some (.int v0), some (.int v1), some (.int v2)], [.int (0 : Int32)], σ)) (ps := []) rfl trivial) ?_
      have h := Option.some.inj h
      subst h
      exact Go_reti bk_Law_reckon 28 rfl
  have h := ifF c3 h
  by_cases c4 : v0 = (42 : Int32)
  · have h := ifT c4 h
    refine Go.t (Go_tsi dt_Law_reckon_1 (tsw_in c4 37 62 rfl).1 (tsw_in c4 37 62 rfl).2 (by rw [c4]; rfl) (tgt := 128) (by decide)) ?_
    have h := Option.some.inj h
    subst h
    refine Go.t (Go_sg bk_Law_reckon 9 3 (c2 := (some 131, [some (.int v0), some (.int v1), some (.int v2)], [.int (v1 * v2)], σ)) (ps := []) rfl trivial) ?_
    exact Go_reti bk_Law_reckon 12 rfl
  have h := ifF c4 h
  by_cases c5 : v0 = (43 : Int32)
  · have h := ifT c5 h
    refine Go.t (Go_tsi dt_Law_reckon_1 (tsw_in c5 37 62 rfl).1 (tsw_in c5 37 62 rfl).2 (by rw [c5]; rfl) (tgt := 120) (by decide)) ?_
    have h := Option.some.inj h
    subst h
    refine Go.t (Go_sg bk_Law_reckon 1 3 (c2 := (some 123, [some (.int v0), some (.int v1), some (.int v2)], [.int (v1 + v2)], σ)) (ps := []) rfl trivial) ?_
    exact Go_reti bk_Law_reckon 4 rfl
  have h := ifF c5 h
  by_cases c6 : v0 = (45 : Int32)
  · have h := ifT c6 h
    refine Go.t (Go_tsi dt_Law_reckon_1 (tsw_in c6 37 62 rfl).1 (tsw_in c6 37 62 rfl).2 (by rw [c6]; rfl) (tgt := 124) (by decide)) ?_
    have h := Option.some.inj h
    subst h
    refine Go.t (Go_sg bk_Law_reckon 5 3 (c2 := (some 127, [some (.int v0), some (.int v1), some (.int v2)], [.int (v1 - v2)], σ)) (ps := []) rfl trivial) ?_
    exact Go_reti bk_Law_reckon 8 rfl
  have h := ifF c6 h
  by_cases c9 : v0 = (47 : Int32)
  · have h := ifT c9 h
    refine Go.t (Go_tsi dt_Law_reckon_1 (tsw_in c9 37 62 rfl).1 (tsw_in c9 37 62 rfl).2 (by rw [c9]; rfl) (tgt := 132) (by decide)) ?_
    refine Go.t (Go_sg bk_Law_reckon 13 1 (c2 := (some 133, [some (.int v0), some (.int v1), some (.int v2)], [.int v2], σ)) (ps := []) rfl trivial) ?_
    refine Go_if_ne bk_Law_reckon 14 rfl (fun c8 => ?_) (fun c8 => ?_)
    · have h := ifF c8 h
      obtain ⟨g7, h⟩ := gdS h
      have h := Option.some.inj h
      subst h
      refine Go.t (Go_sg bk_Law_reckon 17 3 (c2 := (some 143, [some (.int v0), some (.int v1), some (.int v2)], [.int (v1 / v2)], σ)) (ps := [v2 ≠ 0]) rfl ⟨(nzB g7), trivial⟩) ?_
      exact Go_reti bk_Law_reckon 20 rfl
    · have h := ifT c8 h
      refine Go.t (Go_sg bk_Law_reckon 15 2 (c2 := (some 143, [some (.int v0), some (.int v1), some (.int v2)], [.int (0 : Int32)], σ)) (ps := []) rfl trivial) ?_
      have h := Option.some.inj h
      subst h
      exact Go_reti bk_Law_reckon 20 rfl
  have h := ifF c9 h
  by_cases c11 : v0 = (60 : Int32)
  · have h := ifT c11 h
    refine Go.t (Go_tsi dt_Law_reckon_1 (tsw_in c11 37 62 rfl).1 (tsw_in c11 37 62 rfl).2 (by rw [c11]; rfl) (tgt := 156) (by decide)) ?_
    refine Go.t (Go_sg bk_Law_reckon 29 2 (c2 := (some 158, [some (.int v0), some (.int v1), some (.int v2)], [.int v2, .int v1], σ)) (ps := []) rfl trivial) ?_
    refine Go_icmp_ge bk_Law_reckon 31 rfl (fun c10 => ?_) (fun c10 => ?_)
    · have h := ifT c10 h
      have h := Option.some.inj h
      subst h
      refine Go.t (Go_sg bk_Law_reckon 34 1 (c2 := (some 166, [some (.int v0), some (.int v1), some (.int v2)], [.int (0 : Int32)], σ)) (ps := []) rfl trivial) ?_
      exact Go_reti bk_Law_reckon 35 rfl
    · have h := ifF c10 h
      refine Go.t (Go_sg bk_Law_reckon 32 2 (c2 := (some 166, [some (.int v0), some (.int v1), some (.int v2)], [.int (1 : Int32)], σ)) (ps := []) rfl trivial) ?_
      have h := Option.some.inj h
      subst h
      exact Go_reti bk_Law_reckon 35 rfl
  have h := ifF c11 h
  by_cases c13 : v0 = (61 : Int32)
  · have h := ifT c13 h
    refine Go.t (Go_tsi dt_Law_reckon_1 (tsw_in c13 37 62 rfl).1 (tsw_in c13 37 62 rfl).2 (by rw [c13]; rfl) (tgt := 178) (by decide)) ?_
    refine Go.t (Go_sg bk_Law_reckon 43 2 (c2 := (some 180, [some (.int v0), some (.int v1), some (.int v2)], [.int v2, .int v1], σ)) (ps := []) rfl trivial) ?_
    refine Go_icmp_ne bk_Law_reckon 45 rfl (fun c12 => ?_) (fun c12 => ?_)
    · have h := ifF c12 h
      have h := Option.some.inj h
      subst h
      refine Go.t (Go_sg bk_Law_reckon 48 1 (c2 := (some 188, [some (.int v0), some (.int v1), some (.int v2)], [.int (0 : Int32)], σ)) (ps := []) rfl trivial) ?_
      exact Go_reti bk_Law_reckon 49 rfl
    · have h := ifT c12 h
      refine Go.t (Go_sg bk_Law_reckon 46 2 (c2 := (some 188, [some (.int v0), some (.int v1), some (.int v2)], [.int (1 : Int32)], σ)) (ps := []) rfl trivial) ?_
      have h := Option.some.inj h
      subst h
      exact Go_reti bk_Law_reckon 49 rfl
  have h := ifF c13 h
  by_cases c15 : v0 = (62 : Int32)
  · have h := ifT c15 h
    refine Go.t (Go_tsi dt_Law_reckon_1 (tsw_in c15 37 62 rfl).1 (tsw_in c15 37 62 rfl).2 (by rw [c15]; rfl) (tgt := 167) (by decide)) ?_
    refine Go.t (Go_sg bk_Law_reckon 36 2 (c2 := (some 169, [some (.int v0), some (.int v1), some (.int v2)], [.int v2, .int v1], σ)) (ps := []) rfl trivial) ?_
    refine Go_icmp_le bk_Law_reckon 38 rfl (fun c14 => ?_) (fun c14 => ?_)
    · have h := ifT c14 h
      have h := Option.some.inj h
      subst h
      refine Go.t (Go_sg bk_Law_reckon 41 1 (c2 := (some 177, [some (.int v0), some (.int v1), some (.int v2)], [.int (0 : Int32)], σ)) (ps := []) rfl trivial) ?_
      exact Go_reti bk_Law_reckon 42 rfl
    · have h := ifF c14 h
      refine Go.t (Go_sg bk_Law_reckon 39 2 (c2 := (some 177, [some (.int v0), some (.int v1), some (.int v2)], [.int (1 : Int32)], σ)) (ps := []) rfl trivial) ?_
      have h := Option.some.inj h
      subst h
      exact Go_reti bk_Law_reckon 42 rfl
  have h := ifF c15 h
  have hdf : Go m_Law_reckon 1 (some 1, [some (.int v0), some (.int v1), some (.int v2)], [.int v0], σ) (some 189, [some (.int v0), some (.int v1), some (.int v2)], [], σ) := by
    by_cases hlo : v0.toInt < 37
    · exact Go_tso dt_Law_reckon_1 (Or.inl hlo) (by decide)
    · by_cases hhi : 62 < v0.toInt
      · exact Go_tso dt_Law_reckon_1 (Or.inr hhi) (by decide)
      · have q := tsw_all v0 37 62 [37, 38, 39, 40, 41, 42, 43, 44, 45, 46, 47, 48, 49, 50, 51, 52, 53, 54, 55, 56, 57, 58, 59, 60, 61, 62] (by decide) hlo hhi
        simp only [List.mem_cons, List.not_mem_nil, or_false] at q
        rcases q with q | q | q | q | q | q | q | q | q | q | q | q | q | q | q | q | q | q | q | q | q | q | q | q | q | q <;> first | contradiction | (refine Go_tsi dt_Law_reckon_1 (tsw_in q 37 62 rfl).1 (tsw_in q 37 62 rfl).2 (by rw [q]; rfl) (by decide))
  refine Go.t hdf ?_
  have h := Option.some.inj h
  subst h
  refine Go.t (Go_sg bk_Law_reckon 50 1 (c2 := (some 190, [some (.int v0), some (.int v1), some (.int v2)], [.int (0 : Int32)], σ)) (ps := []) rfl trivial) ?_
  exact Go_reti bk_Law_reckon 51 rfl
def Law_reckon (v0 : Int32) (v1 : Int32) (v2 : Int32) (σ : MH) : Option (Int32) := Law_reckon0 v0 v1 v2 σ
set_option maxRecDepth 20000 in
set_option maxHeartbeats 2000000 in
theorem ev_Law_reckon (v0 : Int32) (v1 : Int32) (v2 : Int32)  (σ : MH) {o} (h : Law_reckon v0 v1 v2 σ = some o) : Ev m_Law_reckon 1 [.int v0, .int v1, .int v2] σ (some (.int o)) σ := Ev.of2 (by decide +kernel) rfl (Nat.le_of_ble_eq_true rfl) ⟨.int, rfl, rfl⟩ (t_Law_reckon0 v0 v1 v2 σ h)
def Law_valueOf0 (v0 : Int32) (v1 : Nat) (σ : MH) : Option (Int32) := if v0 < (0 : Int32) then some ((0 : Int32)) else (if (11 : Int32) ≤ v0 then some ((0 : Int32)) else (if inb v0 11 = true then some (σ.1 v1 v0.toNatClampNeg) else none))
set_option maxRecDepth 20000 in
set_option maxHeartbeats 2000000 in
theorem t_Law_valueOf0 (v0 : Int32) (v1 : Nat) (hv1 : IA v1 11) (σ : MH) {o} (h : Law_valueOf0 v0 v1 σ = some o) : Go m_Law_valueOf 1 (some 0, [some (.int v0), some (.ref v1)], [], σ) ((none, [], [.int o], σ)) := by
  unfold Law_valueOf0 at h
  refine Go.t (Go_sg bk_Law_valueOf 0 1 (c2 := (some 1, [some (.int v0), some (.ref v1)], [.int v0], σ)) (ps := []) rfl trivial) ?_
  refine Go_if_lt bk_Law_valueOf 1 rfl (fun c3 => ?_) (fun c3 => ?_)
  · have h := ifT c3 h
    have h := Option.some.inj h
    subst h
    refine Go.t (Go_sg bk_Law_valueOf 10 1 (c2 := (some 17, [some (.int v0), some (.ref v1)], [.int (0 : Int32)], σ)) (ps := []) rfl trivial) ?_
    exact Go_reti bk_Law_valueOf 11 rfl
  · have h := ifF c3 h
    refine Go.t (Go_sg bk_Law_valueOf 2 3 (c2 := (some 7, [some (.int v0), some (.ref v1)], [.int (11 : Int32), .int v0], σ)) (ps := [IA v1 11 ∨ IJ v1 11]) rfl ⟨(Or.inl hv1), trivial⟩) ?_
    refine Go_icmp_ge bk_Law_valueOf 5 rfl (fun c2 => ?_) (fun c2 => ?_)
    · have h := ifT c2 h
      have h := Option.some.inj h
      subst h
      refine Go.t (Go_sg bk_Law_valueOf 10 1 (c2 := (some 17, [some (.int v0), some (.ref v1)], [.int (0 : Int32)], σ)) (ps := []) rfl trivial) ?_
      exact Go_reti bk_Law_valueOf 11 rfl
    · have h := ifF c2 h
      obtain ⟨g1, h⟩ := gdS h
      refine Go.t (Go_sg bk_Law_valueOf 6 4 (c2 := (some 17, [some (.int v0), some (.ref v1)], [.int (σ.1 v1 v0.toNatClampNeg)], σ)) (ps := [IA v1 11 ∧ inb v0 11 = true]) rfl ⟨⟨hv1, g1⟩, trivial⟩) ?_
      have h := Option.some.inj h
      subst h
      exact Go_reti bk_Law_valueOf 11 rfl
def Law_valueOf (v0 : Int32) (v1 : Nat) (σ : MH) : Option (Int32) := Law_valueOf0 v0 v1 σ
set_option maxRecDepth 20000 in
set_option maxHeartbeats 2000000 in
theorem ev_Law_valueOf (v0 : Int32) (v1 : Nat) (hv1 : IA v1 11) (σ : MH) {o} (h : Law_valueOf v0 v1 σ = some o) : Ev m_Law_valueOf 1 [.int v0, .ref v1] σ (some (.int o)) σ := Ev.of2 (by decide +kernel) rfl (Nat.le_of_ble_eq_true rfl) ⟨.int, rfl, rfl⟩ (t_Law_valueOf0 v0 v1 hv1 σ h)
def cH_Law_run_8 (v2 : Nat) (s : Int32 × Int32 × Int32 × MH) : MC := (some 8, [some (.ref 111), none, some (.ref v2), some (.int s.1), some (.int s.2.1), some (.int s.2.2.1), none, none, none], [], s.2.2.2)
def cR_Law_run_8 (v2 : Nat) : ((Int32 × MH) ⊕ (Int32 × MH) ⊕ (Int32 × MH)) → MC := (cS (fun r : Int32 × MH => ((some 314, [some (.ref 111), none, none, some (.int r.1), none, none, none, none, none], [], r.2) : MC)) (cS (fun r : Int32 × MH => ((some 41, [some (.ref 111), none, none, some (.int r.1), none, none, none, none, none], [], r.2) : MC)) (fun r : Int32 × MH => ((none, [], [.int r.1], r.2) : MC))))
def Law_run_b308 (v2 : Nat) (v3 : Int32) (v4 : Int32) (v5 : Int32) (σ : MH) : Option (((Int32 × Int32 × Int32 × MH) ⊕ ((Int32 × MH) ⊕ (Int32 × MH) ⊕ (Int32 × MH)))) := some (.inl (v3, v4, v5 + (1 : Int32), σ))
set_option maxRecDepth 20000 in
set_option maxHeartbeats 2000000 in
theorem t_Law_run_b308 (v2 : Nat) (v3 : Int32) (v4 : Int32) (v5 : Int32) (hv2 : IA v2 11)  (σ : MH) {o} (h : Law_run_b308 v2 v3 v4 v5 σ = some o) : Go m_Law_run 2 (some 308, [some (.ref 111), none, some (.ref v2), some (.int v3), some (.int v4), some (.int v5), none, none, none], [], σ) (cS (cH_Law_run_8 v2) (cR_Law_run_8 v2) o) := by
  unfold Law_run_b308 at h
  refine Go.t (Go_sg bk_Law_run 166 2 (c2 := (some 8, [some (.ref 111), none, some (.ref v2), some (.int v3), some (.int v4), some (.int (v5 + (1 : Int32))), none, none, none], [], σ)) (ps := []) rfl trivial) ?_
  have h := Option.some.inj h
  subst h
  exact Go.fg (LSub.cs (LSub.cn (LSub.cs (LSub.cs (LSub.cs (LSub.cs (LSub.cn (LSub.cn (LSub.cn (LSub.nil))))))))))
def Law_run_b106 (v2 : Nat) (v3 : Int32) (v4 : Int32) (v5 : Int32) (s0 : Int32) (s1 : Int32) (σ : MH) : Option (((Int32 × Int32 × Int32 × MH) ⊕ ((Int32 × MH) ⊕ (Int32 × MH) ⊕ (Int32 × MH)))) := if inb s1 64 = true then Law_run_b308 v2 (v3 + (1 : Int32)) (v4 + (2 : Int32)) v5 (sI σ 116 s1.toNatClampNeg s0) else none
set_option maxRecDepth 20000 in
set_option maxHeartbeats 2000000 in
theorem t_Law_run_b106 (v2 : Nat) (v3 : Int32) (v4 : Int32) (v5 : Int32) (s0 : Int32) (s1 : Int32) (hv2 : IA v2 11)  (σ : MH) {o} (h : Law_run_b106 v2 v3 v4 v5 s0 s1 σ = some o) : Go m_Law_run 2 (some 106, [some (.ref 111), none, some (.ref v2), some (.int v3), some (.int v4), some (.int v5), none, none, none], [.int s0, .int s1, .ref 116], σ) (cS (cH_Law_run_8 v2) (cR_Law_run_8 v2) o) := by
  unfold Law_run_b106 at h
  obtain ⟨g6, h⟩ := gdS h
  refine Go.t (Go_sg bk_Law_run 56 4 (c2 := (some 308, [some (.ref 111), none, some (.ref v2), some (.int (v3 + (1 : Int32))), some (.int (v4 + (2 : Int32))), some (.int v5), none, none, none], [], sI σ 116 s1.toNatClampNeg s0)) (ps := [IA 116 64 ∧ inb s1 64 = true]) rfl ⟨⟨⟨rfl, rfl⟩, g6⟩, trivial⟩) ?_
  exact Go.t (Go.fg (LSub.cs (LSub.cn (LSub.cs (LSub.cs (LSub.cs (LSub.cs (LSub.cn (LSub.cn (LSub.cn (LSub.nil))))))))))) (t_Law_run_b308 v2 (v3 + (1 : Int32)) (v4 + (2 : Int32)) v5 hv2 (sI σ 116 s1.toNatClampNeg s0) h)
def Law_run_b76 (v2 : Nat) (v3 : Int32) (v4 : Int32) (v5 : Int32) (v6 : Int32) (v7 : Int32) (σ : MH) : Option (((Int32 × Int32 × Int32 × MH) ⊕ ((Int32 × MH) ⊕ (Int32 × MH) ⊕ (Int32 × MH)))) := if v3 < (64 : Int32) then (if v6 = (1 : Int32) then (Law_run_b106 v2 v3 v4 v5 v7 v3 σ) else ((Law_valueOf v7 v2 σ).bind fun x3 => Law_run_b106 v2 v3 v4 v5 x3 v3 σ)) else some (.inr (.inr (.inr ((0 : Int32), σ))))
set_option maxRecDepth 20000 in
set_option maxHeartbeats 2000000 in
theorem t_Law_run_b76 (v2 : Nat) (v3 : Int32) (v4 : Int32) (v5 : Int32) (v6 : Int32) (v7 : Int32) (hv2 : IA v2 11)  (σ : MH) {o} (h : Law_run_b76 v2 v3 v4 v5 v6 v7 σ = some o) : Go m_Law_run 2 (some 76, [some (.ref 111), none, some (.ref v2), some (.int v3), some (.int v4), some (.int v5), some (.int v6), some (.int v7), none], [], σ) (cS (cH_Law_run_8 v2) (cR_Law_run_8 v2) o) := by
  unfold Law_run_b76 at h
  refine Go.t (Go_sg bk_Law_run 40 2 (c2 := (some 79, [some (.ref 111), none, some (.ref v2), some (.int v3), some (.int v4), some (.int v5), some (.int v6), some (.int v7), none], [.int (64 : Int32), .int v3], σ)) (ps := []) rfl trivial) ?_
  refine Go_icmp_lt bk_Law_run 42 rfl (fun c8 => ?_) (fun c8 => ?_)
  · have h := ifT c8 h
    refine Go.t (Go_sg bk_Law_run 45 5 (c2 := (some 92, [some (.ref 111), none, some (.ref v2), some (.int v3), some (.int v4), some (.int v5), some (.int v6), some (.int v7), none], [.int (1 : Int32), .int v6, .int v3, .ref 116], σ)) (ps := [shk 111 = 4]) rfl ⟨rfl, trivial⟩) ?_
    refine Go_icmp_ne bk_Law_run 50 rfl (fun c7 => ?_) (fun c7 => ?_)
    · have h := ifF c7 h
      refine Go.t (Go_sg bk_Law_run 53 2 (c2 := (some 103, [some (.ref 111), none, some (.ref v2), some (.int v3), some (.int v4), some (.int v5), some (.int v6), some (.int v7), none], [.ref v2, .int v7, .int v3, .ref 116], σ)) (ps := []) rfl trivial) ?_
      obtain ⟨x3, q5, h⟩ := bdS h
      refine Go.t (Go_callS bk_Law_run 55 rfl nk_Law_valueOf tw910 tw911 (as := [.int v7, .ref v2]) (S := [.int v3, .ref 116]) rfl rfl rfl (Nat.le_of_ble_eq_true rfl) (Nat.le_of_ble_eq_true rfl) (ev_Law_valueOf _ _ hv2 _ q5)) ?_
      exact Go.t (Go.fg (LSub.cs (LSub.cn (LSub.cs (LSub.cs (LSub.cs (LSub.cs (LSub.cn (LSub.cn (LSub.cn (LSub.nil))))))))))) (t_Law_run_b106 v2 v3 v4 v5 x3 v3 hv2 σ h)
    · have h := ifT c7 h
      refine Go.t (Go_sg bk_Law_run 51 2 (c2 := (some 106, [some (.ref 111), none, some (.ref v2), some (.int v3), some (.int v4), some (.int v5), some (.int v6), some (.int v7), none], [.int v7, .int v3, .ref 116], σ)) (ps := []) rfl trivial) ?_
      exact Go.t (Go.fg (LSub.cs (LSub.cn (LSub.cs (LSub.cs (LSub.cs (LSub.cs (LSub.cn (LSub.cn (LSub.cn (LSub.nil))))))))))) (t_Law_run_b106 v2 v3 v4 v5 v7 v3 hv2 σ h)
  · have h := ifF c8 h
    have h := Option.some.inj h
    subst h
    refine Go.t (Go_sg bk_Law_run 43 1 (c2 := (some 83, [some (.ref 111), none, some (.ref v2), some (.int v3), some (.int v4), some (.int v5), some (.int v6), some (.int v7), none], [.int (0 : Int32)], σ)) (ps := []) rfl trivial) ?_
    exact Go_reti bk_Law_run 44 rfl
def Law_run_b238 (v2 : Nat) (v3 : Int32) (v5 : Int32) (s0 : Int32) (σ : MH) : Option (((Int32 × Int32 × Int32 × MH) ⊕ ((Int32 × MH) ⊕ (Int32 × MH) ⊕ (Int32 × MH)))) := Law_run_b308 v2 v3 s0 v5 σ
set_option maxRecDepth 20000 in
set_option maxHeartbeats 2000000 in
theorem t_Law_run_b238 (v2 : Nat) (v3 : Int32) (v5 : Int32) (s0 : Int32) (hv2 : IA v2 11)  (σ : MH) {o} (h : Law_run_b238 v2 v3 v5 s0 σ = some o) : Go m_Law_run 2 (some 238, [some (.ref 111), none, some (.ref v2), some (.int v3), none, some (.int v5), none, none, none], [.int s0], σ) (cS (cH_Law_run_8 v2) (cR_Law_run_8 v2) o) := by
  unfold Law_run_b238 at h
  refine Go.t (Go_sg bk_Law_run 127 2 (c2 := (some 308, [some (.ref 111), none, some (.ref v2), some (.int v3), some (.int s0), some (.int v5), none, none, none], [], σ)) (ps := []) rfl trivial) ?_
  exact Go.t (Go.fg (LSub.cs (LSub.cn (LSub.cs (LSub.cs (LSub.cs (LSub.cs (LSub.cn (LSub.cn (LSub.cn (LSub.nil))))))))))) (t_Law_run_b308 v2 v3 s0 v5 hv2 σ h)
def Law_run_b222 (v2 : Nat) (v4 : Int32) (v5 : Int32) (v7 : Int32) (v8 : Int32) (s0 : Int32) (s1 : Int32) (σ : MH) : Option (((Int32 × Int32 × Int32 × MH) ⊕ ((Int32 × MH) ⊕ (Int32 × MH) ⊕ (Int32 × MH)))) := if v8 = (0 : Int32) then (Law_run_b238 v2 (s1 - s0) v5 (v4 + (2 : Int32)) σ) else (Law_run_b238 v2 (s1 - s0) v5 v7 σ)
set_option maxRecDepth 20000 in
set_option maxHeartbeats 2000000 in
theorem t_Law_run_b222 (v2 : Nat) (v4 : Int32) (v5 : Int32) (v7 : Int32) (v8 : Int32) (s0 : Int32) (s1 : Int32) (hv2 : IA v2 11)  (σ : MH) {o} (h : Law_run_b222 v2 v4 v5 v7 v8 s0 s1 σ = some o) : Go m_Law_run 2 (some 222, [some (.ref 111), none, some (.ref v2), none, some (.int v4), some (.int v5), none, some (.int v7), some (.int v8)], [.int s0, .int s1], σ) (cS (cH_Law_run_8 v2) (cR_Law_run_8 v2) o) := by
  unfold Law_run_b222 at h
  refine Go.t (Go_sg bk_Law_run 118 3 (c2 := (some 226, [some (.ref 111), none, some (.ref v2), some (.int (s1 - s0)), some (.int v4), some (.int v5), none, some (.int v7), some (.int v8)], [.int v8], σ)) (ps := []) rfl trivial) ?_
  refine Go_if_eq bk_Law_run 121 rfl (fun c10 => ?_) (fun c10 => ?_)
  · have h := ifT c10 h
    refine Go.t (Go_sg bk_Law_run 124 3 (c2 := (some 238, [some (.ref 111), none, some (.ref v2), some (.int (s1 - s0)), some (.int v4), some (.int v5), none, some (.int v7), some (.int v8)], [.int (v4 + (2 : Int32))], σ)) (ps := []) rfl trivial) ?_
    exact Go.t (Go.fg (LSub.cs (LSub.cn (LSub.cs (LSub.cs (LSub.cn (LSub.cs (LSub.cn (LSub.cn (LSub.cn (LSub.nil))))))))))) (t_Law_run_b238 v2 (s1 - s0) v5 (v4 + (2 : Int32)) hv2 σ h)
  · have h := ifF c10 h
    refine Go.t (Go_sg bk_Law_run 122 2 (c2 := (some 238, [some (.ref 111), none, some (.ref v2), some (.int (s1 - s0)), some (.int v4), some (.int v5), none, some (.int v7), some (.int v8)], [.int v7], σ)) (ps := []) rfl trivial) ?_
    exact Go.t (Go.fg (LSub.cs (LSub.cn (LSub.cs (LSub.cs (LSub.cn (LSub.cs (LSub.cn (LSub.cn (LSub.cn (LSub.nil))))))))))) (t_Law_run_b238 v2 (s1 - s0) v5 v7 hv2 σ h)
def Law_run_b209 (v2 : Nat) (v3 : Int32) (v4 : Int32) (v5 : Int32) (v7 : Int32) (s0 : Int32) (σ : MH) : Option (((Int32 × Int32 × Int32 × MH) ⊕ ((Int32 × MH) ⊕ (Int32 × MH) ⊕ (Int32 × MH)))) := if s0 = (0 : Int32) then (Law_run_b222 v2 v4 v5 v7 s0 (1 : Int32) v3 σ) else (Law_run_b222 v2 v4 v5 v7 s0 (0 : Int32) v3 σ)
set_option maxRecDepth 20000 in
set_option maxHeartbeats 2000000 in
theorem t_Law_run_b209 (v2 : Nat) (v3 : Int32) (v4 : Int32) (v5 : Int32) (v7 : Int32) (s0 : Int32) (hv2 : IA v2 11)  (σ : MH) {o} (h : Law_run_b209 v2 v3 v4 v5 v7 s0 σ = some o) : Go m_Law_run 2 (some 209, [some (.ref 111), none, some (.ref v2), some (.int v3), some (.int v4), some (.int v5), none, some (.int v7), none], [.int s0], σ) (cS (cH_Law_run_8 v2) (cR_Law_run_8 v2) o) := by
  unfold Law_run_b209 at h
  refine Go.t (Go_sg bk_Law_run 111 3 (c2 := (some 214, [some (.ref 111), none, some (.ref v2), some (.int v3), some (.int v4), some (.int v5), none, some (.int v7), some (.int s0)], [.int s0, .int v3], σ)) (ps := []) rfl trivial) ?_
  refine Go_if_eq bk_Law_run 114 rfl (fun c11 => ?_) (fun c11 => ?_)
  · have h := ifT c11 h
    refine Go.t (Go_sg bk_Law_run 117 1 (c2 := (some 222, [some (.ref 111), none, some (.ref v2), some (.int v3), some (.int v4), some (.int v5), none, some (.int v7), some (.int s0)], [.int (1 : Int32), .int v3], σ)) (ps := []) rfl trivial) ?_
    exact Go.t (Go.fg (LSub.cs (LSub.cn (LSub.cs (LSub.cn (LSub.cs (LSub.cs (LSub.cn (LSub.cs (LSub.cs (LSub.nil))))))))))) (t_Law_run_b222 v2 v4 v5 v7 s0 (1 : Int32) v3 hv2 σ h)
  · have h := ifF c11 h
    refine Go.t (Go_sg bk_Law_run 115 2 (c2 := (some 222, [some (.ref 111), none, some (.ref v2), some (.int v3), some (.int v4), some (.int v5), none, some (.int v7), some (.int s0)], [.int (0 : Int32), .int v3], σ)) (ps := []) rfl trivial) ?_
    exact Go.t (Go.fg (LSub.cs (LSub.cn (LSub.cs (LSub.cn (LSub.cs (LSub.cs (LSub.cn (LSub.cs (LSub.cs (LSub.nil))))))))))) (t_Law_run_b222 v2 v4 v5 v7 s0 (0 : Int32) v3 hv2 σ h)
def Law_run_b201 (v2 : Nat) (v3 : Int32) (v4 : Int32) (v5 : Int32) (v7 : Int32) (s0 : Int32) (s1 : Int32) (σ : MH) : Option (((Int32 × Int32 × Int32 × MH) ⊕ ((Int32 × MH) ⊕ (Int32 × MH) ⊕ (Int32 × MH)))) := if s1 = s0 then (Law_run_b209 v2 v3 v4 v5 v7 (1 : Int32) σ) else (Law_run_b209 v2 v3 v4 v5 v7 (0 : Int32) σ)
set_option maxRecDepth 20000 in
set_option maxHeartbeats 2000000 in
theorem t_Law_run_b201 (v2 : Nat) (v3 : Int32) (v4 : Int32) (v5 : Int32) (v7 : Int32) (s0 : Int32) (s1 : Int32) (hv2 : IA v2 11)  (σ : MH) {o} (h : Law_run_b201 v2 v3 v4 v5 v7 s0 s1 σ = some o) : Go m_Law_run 2 (some 201, [some (.ref 111), none, some (.ref v2), some (.int v3), some (.int v4), some (.int v5), none, some (.int v7), none], [.int s0, .int s1], σ) (cS (cH_Law_run_8 v2) (cR_Law_run_8 v2) o) := by
  unfold Law_run_b201 at h
  refine Go_icmp_ne bk_Law_run 107 rfl (fun c12 => ?_) (fun c12 => ?_)
  · have h := ifF c12 h
    refine Go.t (Go_sg bk_Law_run 110 1 (c2 := (some 209, [some (.ref 111), none, some (.ref v2), some (.int v3), some (.int v4), some (.int v5), none, some (.int v7), none], [.int (0 : Int32)], σ)) (ps := []) rfl trivial) ?_
    exact Go.t (Go.fg (LSub.cs (LSub.cn (LSub.cs (LSub.cs (LSub.cs (LSub.cs (LSub.cn (LSub.cs (LSub.cn (LSub.nil))))))))))) (t_Law_run_b209 v2 v3 v4 v5 v7 (0 : Int32) hv2 σ h)
  · have h := ifT c12 h
    refine Go.t (Go_sg bk_Law_run 108 2 (c2 := (some 209, [some (.ref 111), none, some (.ref v2), some (.int v3), some (.int v4), some (.int v5), none, some (.int v7), none], [.int (1 : Int32)], σ)) (ps := []) rfl trivial) ?_
    exact Go.t (Go.fg (LSub.cs (LSub.cn (LSub.cs (LSub.cs (LSub.cs (LSub.cs (LSub.cn (LSub.cs (LSub.cn (LSub.nil))))))))))) (t_Law_run_b209 v2 v3 v4 v5 v7 (1 : Int32) hv2 σ h)
def Law_run_b189 (v2 : Nat) (v3 : Int32) (v4 : Int32) (v5 : Int32) (v6 : Int32) (v7 : Int32) (s0 : Int32) (σ : MH) : Option (((Int32 × Int32 × Int32 × MH) ⊕ ((Int32 × MH) ⊕ (Int32 × MH) ⊕ (Int32 × MH)))) := if v6 = (124 : Int32) then (Law_run_b201 v2 v3 v4 v5 v7 (1 : Int32) s0 σ) else (Law_run_b201 v2 v3 v4 v5 v7 (0 : Int32) s0 σ)
set_option maxRecDepth 20000 in
set_option maxHeartbeats 2000000 in
theorem t_Law_run_b189 (v2 : Nat) (v3 : Int32) (v4 : Int32) (v5 : Int32) (v6 : Int32) (v7 : Int32) (s0 : Int32) (hv2 : IA v2 11)  (σ : MH) {o} (h : Law_run_b189 v2 v3 v4 v5 v6 v7 s0 σ = some o) : Go m_Law_run 2 (some 189, [some (.ref 111), none, some (.ref v2), some (.int v3), some (.int v4), some (.int v5), some (.int v6), some (.int v7), none], [.int s0], σ) (cS (cH_Law_run_8 v2) (cR_Law_run_8 v2) o) := by
  unfold Law_run_b189 at h
  refine Go.t (Go_sg bk_Law_run 101 2 (c2 := (some 193, [some (.ref 111), none, some (.ref v2), some (.int v3), some (.int v4), some (.int v5), some (.int v6), some (.int v7), none], [.int (124 : Int32), .int v6, .int s0], σ)) (ps := []) rfl trivial) ?_
  refine Go_icmp_ne bk_Law_run 103 rfl (fun c13 => ?_) (fun c13 => ?_)
  · have h := ifF c13 h
    refine Go.t (Go_sg bk_Law_run 106 1 (c2 := (some 201, [some (.ref 111), none, some (.ref v2), some (.int v3), some (.int v4), some (.int v5), some (.int v6), some (.int v7), none], [.int (0 : Int32), .int s0], σ)) (ps := []) rfl trivial) ?_
    exact Go.t (Go.fg (LSub.cs (LSub.cn (LSub.cs (LSub.cs (LSub.cs (LSub.cs (LSub.cn (LSub.cs (LSub.cn (LSub.nil))))))))))) (t_Law_run_b201 v2 v3 v4 v5 v7 (0 : Int32) s0 hv2 σ h)
  · have h := ifT c13 h
    refine Go.t (Go_sg bk_Law_run 104 2 (c2 := (some 201, [some (.ref 111), none, some (.ref v2), some (.int v3), some (.int v4), some (.int v5), some (.int v6), some (.int v7), none], [.int (1 : Int32), .int s0], σ)) (ps := []) rfl trivial) ?_
    exact Go.t (Go.fg (LSub.cs (LSub.cn (LSub.cs (LSub.cs (LSub.cs (LSub.cs (LSub.cn (LSub.cs (LSub.cn (LSub.nil))))))))))) (t_Law_run_b201 v2 v3 v4 v5 v7 (1 : Int32) s0 hv2 σ h)
def Law_run_b173 (v2 : Nat) (v3 : Int32) (v4 : Int32) (v5 : Int32) (v6 : Int32) (v7 : Int32) (σ : MH) : Option (((Int32 × Int32 × Int32 × MH) ⊕ ((Int32 × MH) ⊕ (Int32 × MH) ⊕ (Int32 × MH)))) := if inb (v3 - (1 : Int32)) 64 = true then if σ.1 116 (v3 - (1 : Int32)).toNatClampNeg = (0 : Int32) then (Law_run_b189 v2 v3 v4 v5 v6 v7 (0 : Int32) σ) else (Law_run_b189 v2 v3 v4 v5 v6 v7 (1 : Int32) σ) else none
set_option maxRecDepth 20000 in
set_option maxHeartbeats 2000000 in
theorem t_Law_run_b173 (v2 : Nat) (v3 : Int32) (v4 : Int32) (v5 : Int32) (v6 : Int32) (v7 : Int32) (hv2 : IA v2 11)  (σ : MH) {o} (h : Law_run_b173 v2 v3 v4 v5 v6 v7 σ = some o) : Go m_Law_run 2 (some 173, [some (.ref 111), none, some (.ref v2), some (.int v3), some (.int v4), some (.int v5), some (.int v6), some (.int v7), none], [], σ) (cS (cH_Law_run_8 v2) (cR_Law_run_8 v2) o) := by
  unfold Law_run_b173 at h
  obtain ⟨g9, h⟩ := gdS h
  refine Go.t (Go_sg bk_Law_run 91 6 (c2 := (some 181, [some (.ref 111), none, some (.ref v2), some (.int v3), some (.int v4), some (.int v5), some (.int v6), some (.int v7), none], [.int (σ.1 116 (v3 - (1 : Int32)).toNatClampNeg)], σ)) (ps := [shk 111 = 4, IA 116 64 ∧ inb (v3 - (1 : Int32)) 64 = true]) rfl ⟨rfl, ⟨⟨rfl, rfl⟩, g9⟩, trivial⟩) ?_
  refine Go_if_eq bk_Law_run 97 rfl (fun c14 => ?_) (fun c14 => ?_)
  · have h := ifT c14 h
    refine Go.t (Go_sg bk_Law_run 100 1 (c2 := (some 189, [some (.ref 111), none, some (.ref v2), some (.int v3), some (.int v4), some (.int v5), some (.int v6), some (.int v7), none], [.int (0 : Int32)], σ)) (ps := []) rfl trivial) ?_
    exact Go.t (Go.fg (LSub.cs (LSub.cn (LSub.cs (LSub.cs (LSub.cs (LSub.cs (LSub.cs (LSub.cs (LSub.cn (LSub.nil))))))))))) (t_Law_run_b189 v2 v3 v4 v5 v6 v7 (0 : Int32) hv2 σ h)
  · have h := ifF c14 h
    refine Go.t (Go_sg bk_Law_run 98 2 (c2 := (some 189, [some (.ref 111), none, some (.ref v2), some (.int v3), some (.int v4), some (.int v5), some (.int v6), some (.int v7), none], [.int (1 : Int32)], σ)) (ps := []) rfl trivial) ?_
    exact Go.t (Go.fg (LSub.cs (LSub.cn (LSub.cs (LSub.cs (LSub.cs (LSub.cs (LSub.cs (LSub.cs (LSub.cn (LSub.nil))))))))))) (t_Law_run_b189 v2 v3 v4 v5 v6 v7 (1 : Int32) hv2 σ h)
def Law_run_b279 (v2 : Nat) (v3 : Int32) (v4 : Int32) (v5 : Int32) (v6 : Int32) (v8 : Int32) (σ : MH) : Option (((Int32 × Int32 × Int32 × MH) ⊕ ((Int32 × MH) ⊕ (Int32 × MH) ⊕ (Int32 × MH)))) := if inb ((v3 + (-1 : Int32)) - (1 : Int32)) 64 = true then (Law_reckon v6 (σ.1 116 ((v3 + (-1 : Int32)) - (1 : Int32)).toNatClampNeg) v8 σ).bind fun x17 => Law_run_b308 v2 (v3 + (-1 : Int32)) (v4 + (1 : Int32)) v5 (sI σ 116 ((v3 + (-1 : Int32)) - (1 : Int32)).toNatClampNeg x17) else none
set_option maxRecDepth 20000 in
set_option maxHeartbeats 2000000 in
theorem t_Law_run_b279 (v2 : Nat) (v3 : Int32) (v4 : Int32) (v5 : Int32) (v6 : Int32) (v8 : Int32) (hv2 : IA v2 11)  (σ : MH) {o} (h : Law_run_b279 v2 v3 v4 v5 v6 v8 σ = some o) : Go m_Law_run 2 (some 279, [some (.ref 111), none, some (.ref v2), some (.int v3), some (.int v4), some (.int v5), some (.int v6), none, some (.int v8)], [], σ) (cS (cH_Law_run_8 v2) (cR_Law_run_8 v2) o) := by
  unfold Law_run_b279 at h
  obtain ⟨g16, h⟩ := gdS h
  refine Go.t (Go_sg bk_Law_run 149 14 (c2 := (some 301, [some (.ref 111), none, some (.ref v2), some (.int (v3 + (-1 : Int32))), some (.int v4), some (.int v5), some (.int v6), none, some (.int v8)], [.int v8, .int (σ.1 116 ((v3 + (-1 : Int32)) - (1 : Int32)).toNatClampNeg), .int v6, .int ((v3 + (-1 : Int32)) - (1 : Int32)), .ref 116], σ)) (ps := [shk 111 = 4, shk 111 = 4, IA 116 64 ∧ inb ((v3 + (-1 : Int32)) - (1 : Int32)) 64 = true]) rfl ⟨rfl, rfl, ⟨⟨rfl, rfl⟩, g16⟩, trivial⟩) ?_
  obtain ⟨x17, q19, h⟩ := bdS h
  refine Go.t (Go_callS bk_Law_run 163 rfl nk_Law_reckon tw913 tw914 (as := [.int v6, .int (σ.1 116 ((v3 + (-1 : Int32)) - (1 : Int32)).toNatClampNeg), .int v8]) (S := [.int ((v3 + (-1 : Int32)) - (1 : Int32)), .ref 116]) rfl rfl rfl (Nat.le_of_ble_eq_true rfl) (Nat.le_of_ble_eq_true rfl) (ev_Law_reckon _ _ _ _ q19)) ?_
  refine Go.t (Go_sg bk_Law_run 164 2 (c2 := (some 308, [some (.ref 111), none, some (.ref v2), some (.int (v3 + (-1 : Int32))), some (.int (v4 + (1 : Int32))), some (.int v5), some (.int v6), none, some (.int v8)], [], sI σ 116 ((v3 + (-1 : Int32)) - (1 : Int32)).toNatClampNeg x17)) (ps := [IA 116 64 ∧ inb ((v3 + (-1 : Int32)) - (1 : Int32)) 64 = true]) rfl ⟨⟨⟨rfl, rfl⟩, g16⟩, trivial⟩) ?_
  exact Go.t (Go.fg (LSub.cs (LSub.cn (LSub.cs (LSub.cs (LSub.cs (LSub.cs (LSub.cn (LSub.cn (LSub.cn (LSub.nil))))))))))) (t_Law_run_b308 v2 (v3 + (-1 : Int32)) (v4 + (1 : Int32)) v5 hv2 (sI σ 116 ((v3 + (-1 : Int32)) - (1 : Int32)).toNatClampNeg x17) h)
def Law_run_b152 (v2 : Nat) (v3 : Int32) (v4 : Int32) (v5 : Int32) (s0 : Int32) (s1 : Int32) (σ : MH) : Option (((Int32 × Int32 × Int32 × MH) ⊕ ((Int32 × MH) ⊕ (Int32 × MH) ⊕ (Int32 × MH)))) := if inb s1 64 = true then Law_run_b308 v2 v3 (v4 + (1 : Int32)) v5 (sI σ 116 s1.toNatClampNeg s0) else none
set_option maxRecDepth 20000 in
set_option maxHeartbeats 2000000 in
theorem t_Law_run_b152 (v2 : Nat) (v3 : Int32) (v4 : Int32) (v5 : Int32) (s0 : Int32) (s1 : Int32) (hv2 : IA v2 11)  (σ : MH) {o} (h : Law_run_b152 v2 v3 v4 v5 s0 s1 σ = some o) : Go m_Law_run 2 (some 152, [some (.ref 111), none, some (.ref v2), some (.int v3), some (.int v4), some (.int v5), none, none, none], [.int s0, .int s1, .ref 116], σ) (cS (cH_Law_run_8 v2) (cR_Law_run_8 v2) o) := by
  unfold Law_run_b152 at h
  obtain ⟨g27, h⟩ := gdS h
  refine Go.t (Go_sg bk_Law_run 82 3 (c2 := (some 308, [some (.ref 111), none, some (.ref v2), some (.int v3), some (.int (v4 + (1 : Int32))), some (.int v5), none, none, none], [], sI σ 116 s1.toNatClampNeg s0)) (ps := [IA 116 64 ∧ inb s1 64 = true]) rfl ⟨⟨⟨rfl, rfl⟩, g27⟩, trivial⟩) ?_
  exact Go.t (Go.fg (LSub.cs (LSub.cn (LSub.cs (LSub.cs (LSub.cs (LSub.cs (LSub.cn (LSub.cn (LSub.cn (LSub.nil))))))))))) (t_Law_run_b308 v2 v3 (v4 + (1 : Int32)) v5 hv2 (sI σ 116 s1.toNatClampNeg s0) h)
def Law_run_l8 (v2 : Nat) (v3 : Int32) (v4 : Int32) (v5 : Int32) (σ : MH) : Option (((Int32 × Int32 × Int32 × MH) ⊕ ((Int32 × MH) ⊕ (Int32 × MH) ⊕ (Int32 × MH)))) := if (512 : Int32) ≤ v5 then some (.inr (.inl (v3, σ))) else (if v4 < (0 : Int32) then some (.inr (.inl (v3, σ))) else (if (512 : Int32) ≤ v4 + (1 : Int32) then some (.inr (.inl (v3, σ))) else (if inb v4 512 = true then if σ.1 112 v4.toNatClampNeg = (0 : Int32) then some (.inr (.inr (.inl (v3, σ)))) else (if inb (v4 + (1 : Int32)) 512 = true then if σ.1 112 v4.toNatClampNeg = (1 : Int32) then (Law_run_b76 v2 v3 v4 v5 (σ.1 112 v4.toNatClampNeg) (σ.1 112 (v4 + (1 : Int32)).toNatClampNeg) σ) else (if σ.1 112 v4.toNatClampNeg = (2 : Int32) then (Law_run_b76 v2 v3 v4 v5 (σ.1 112 v4.toNatClampNeg) (σ.1 112 (v4 + (1 : Int32)).toNatClampNeg) σ) else (if v3 = (0 : Int32) then some (.inr (.inr (.inr ((0 : Int32), σ)))) else (if σ.1 112 v4.toNatClampNeg = (33 : Int32) then (if inb (v3 - (1 : Int32)) 64 = true then if σ.1 116 (v3 - (1 : Int32)).toNatClampNeg = (0 : Int32) then (Law_run_b152 v2 v3 v4 v5 (1 : Int32) (v3 - (1 : Int32)) σ) else (Law_run_b152 v2 v3 v4 v5 (0 : Int32) (v3 - (1 : Int32)) σ) else none) else (if σ.1 112 v4.toNatClampNeg = (124 : Int32) then (Law_run_b173 v2 v3 v4 v5 (σ.1 112 v4.toNatClampNeg) (σ.1 112 (v4 + (1 : Int32)).toNatClampNeg) σ) else (if σ.1 112 v4.toNatClampNeg = (38 : Int32) then (Law_run_b173 v2 v3 v4 v5 (σ.1 112 v4.toNatClampNeg) (σ.1 112 (v4 + (1 : Int32)).toNatClampNeg) σ) else (if inb (v3 - (1 : Int32)) 64 = true then if v3 < (2 : Int32) then some (.inr (.inr (.inr ((0 : Int32), σ)))) else (if σ.1 116 (v3 - (1 : Int32)).toNatClampNeg = (0 : Int32) then (if σ.1 112 v4.toNatClampNeg = (47 : Int32) then some (.inr (.inr (.inr ((0 : Int32), σ)))) else (if σ.1 112 v4.toNatClampNeg = (37 : Int32) then some (.inr (.inr (.inr ((0 : Int32), σ)))) else (Law_run_b279 v2 v3 v4 v5 (σ.1 112 v4.toNatClampNeg) (σ.1 116 (v3 - (1 : Int32)).toNatClampNeg) σ))) else (Law_run_b279 v2 v3 v4 v5 (σ.1 112 v4.toNatClampNeg) (σ.1 116 (v3 - (1 : Int32)).toNatClampNeg) σ)) else none)))))) else none) else none)))
set_option maxRecDepth 20000 in
set_option maxHeartbeats 2000000 in
theorem t_Law_run_l8 (v2 : Nat) (v3 : Int32) (v4 : Int32) (v5 : Int32) (hv2 : IA v2 11) (σ : MH) {o} (h : Law_run_l8 v2 v3 v4 v5 σ = some o) : Go m_Law_run 2 (cH_Law_run_8 v2 (v3, v4, v5, σ)) (cS (cH_Law_run_8 v2) (cR_Law_run_8 v2) o) := by
  unfold Law_run_l8 at h
  unfold cH_Law_run_8
  refine Go.t (Go_sg bk_Law_run 6 2 (c2 := (some 13, [some (.ref 111), none, some (.ref v2), some (.int v3), some (.int v4), some (.int v5), none, none, none], [.int (512 : Int32), .int v5], σ)) (ps := []) rfl trivial) ?_
  refine Go_icmp_ge bk_Law_run 8 rfl (fun c36 => ?_) (fun c36 => ?_)
  · have h := ifT c36 h
    have h := Option.some.inj h
    subst h
    exact Go.fg (LSub.cs (LSub.cn (LSub.cn (LSub.cs (LSub.cn (LSub.cn (LSub.cn (LSub.cn (LSub.cn (LSub.nil))))))))))
  · have h := ifF c36 h
    refine Go.t (Go_sg bk_Law_run 9 1 (c2 := (some 18, [some (.ref 111), none, some (.ref v2), some (.int v3), some (.int v4), some (.int v5), none, none, none], [.int v4], σ)) (ps := []) rfl trivial) ?_
    refine Go_if_lt bk_Law_run 10 rfl (fun c35 => ?_) (fun c35 => ?_)
    · have h := ifT c35 h
      have h := Option.some.inj h
      subst h
      exact Go.fg (LSub.cs (LSub.cn (LSub.cn (LSub.cs (LSub.cn (LSub.cn (LSub.cn (LSub.cn (LSub.cn (LSub.nil))))))))))
    · have h := ifF c35 h
      refine Go.t (Go_sg bk_Law_run 11 4 (c2 := (some 28, [some (.ref 111), none, some (.ref v2), some (.int v3), some (.int v4), some (.int v5), none, none, none], [.int (512 : Int32), .int (v4 + (1 : Int32))], σ)) (ps := []) rfl trivial) ?_
      refine Go_icmp_ge bk_Law_run 15 rfl (fun c34 => ?_) (fun c34 => ?_)
      · have h := ifT c34 h
        have h := Option.some.inj h
        subst h
        exact Go.fg (LSub.cs (LSub.cn (LSub.cn (LSub.cs (LSub.cn (LSub.cn (LSub.cn (LSub.cn (LSub.cn (LSub.nil))))))))))
      · have h := ifF c34 h
        obtain ⟨g1, h⟩ := gdS h
        refine Go.t (Go_sg bk_Law_run 16 4 (c2 := (some 38, [some (.ref 111), none, some (.ref v2), some (.int v3), some (.int v4), some (.int v5), none, none, none], [.int (σ.1 112 v4.toNatClampNeg)], σ)) (ps := [shk 111 = 4, IA 112 512 ∧ inb v4 512 = true]) rfl ⟨rfl, ⟨⟨rfl, rfl⟩, g1⟩, trivial⟩) ?_
        refine Go_if_ne bk_Law_run 20 rfl (fun c33 => ?_) (fun c33 => ?_)
        · have h := ifF c33 h
          obtain ⟨g2, h⟩ := gdS h
          refine Go.t (Go_sg bk_Law_run 22 14 (c2 := (some 67, [some (.ref 111), none, some (.ref v2), some (.int v3), some (.int v4), some (.int v5), some (.int (σ.1 112 v4.toNatClampNeg)), some (.int (σ.1 112 (v4 + (1 : Int32)).toNatClampNeg)), none], [.int (1 : Int32), .int (σ.1 112 v4.toNatClampNeg)], σ)) (ps := [shk 111 = 4, IA 112 512 ∧ inb v4 512 = true, shk 111 = 4, IA 112 512 ∧ inb (v4 + (1 : Int32)) 512 = true]) rfl ⟨rfl, ⟨⟨rfl, rfl⟩, g1⟩, rfl, ⟨⟨rfl, rfl⟩, g2⟩, trivial⟩) ?_
          refine Go_icmp_eq bk_Law_run 36 rfl (fun c32 => ?_) (fun c32 => ?_)
          · have h := ifT c32 h
            exact Go.t (Go.fg (LSub.cs (LSub.cn (LSub.cs (LSub.cs (LSub.cs (LSub.cs (LSub.cs (LSub.cs (LSub.cn (LSub.nil))))))))))) (t_Law_run_b76 v2 v3 v4 v5 (σ.1 112 v4.toNatClampNeg) (σ.1 112 (v4 + (1 : Int32)).toNatClampNeg) hv2 σ h)
          · have h := ifF c32 h
            refine Go.t (Go_sg bk_Law_run 37 2 (c2 := (some 73, [some (.ref 111), none, some (.ref v2), some (.int v3), some (.int v4), some (.int v5), some (.int (σ.1 112 v4.toNatClampNeg)), some (.int (σ.1 112 (v4 + (1 : Int32)).toNatClampNeg)), none], [.int (2 : Int32), .int (σ.1 112 v4.toNatClampNeg)], σ)) (ps := []) rfl trivial) ?_
            refine Go_icmp_ne bk_Law_run 39 rfl (fun c31 => ?_) (fun c31 => ?_)
            · have h := ifF c31 h
              refine Go.t (Go_sg bk_Law_run 60 1 (c2 := (some 117, [some (.ref 111), none, some (.ref v2), some (.int v3), some (.int v4), some (.int v5), some (.int (σ.1 112 v4.toNatClampNeg)), some (.int (σ.1 112 (v4 + (1 : Int32)).toNatClampNeg)), none], [.int v3], σ)) (ps := []) rfl trivial) ?_
              refine Go_if_ne bk_Law_run 61 rfl (fun c30 => ?_) (fun c30 => ?_)
              · have h := ifF c30 h
                refine Go.t (Go_sg bk_Law_run 64 2 (c2 := (some 126, [some (.ref 111), none, some (.ref v2), some (.int v3), some (.int v4), some (.int v5), some (.int (σ.1 112 v4.toNatClampNeg)), some (.int (σ.1 112 (v4 + (1 : Int32)).toNatClampNeg)), none], [.int (33 : Int32), .int (σ.1 112 v4.toNatClampNeg)], σ)) (ps := []) rfl trivial) ?_
                refine Go_icmp_ne bk_Law_run 66 rfl (fun c29 => ?_) (fun c29 => ?_)
                · have h := ifF c29 h
                  refine Go.t (Go_sg bk_Law_run 85 2 (c2 := (some 163, [some (.ref 111), none, some (.ref v2), some (.int v3), some (.int v4), some (.int v5), some (.int (σ.1 112 v4.toNatClampNeg)), some (.int (σ.1 112 (v4 + (1 : Int32)).toNatClampNeg)), none], [.int (124 : Int32), .int (σ.1 112 v4.toNatClampNeg)], σ)) (ps := []) rfl trivial) ?_
                  refine Go_icmp_eq bk_Law_run 87 rfl (fun c25 => ?_) (fun c25 => ?_)
                  · have h := ifT c25 h
                    exact Go.t (Go.fg (LSub.cs (LSub.cn (LSub.cs (LSub.cs (LSub.cs (LSub.cs (LSub.cs (LSub.cs (LSub.cn (LSub.nil))))))))))) (t_Law_run_b173 v2 v3 v4 v5 (σ.1 112 v4.toNatClampNeg) (σ.1 112 (v4 + (1 : Int32)).toNatClampNeg) hv2 σ h)
                  · have h := ifF c25 h
                    refine Go.t (Go_sg bk_Law_run 88 2 (c2 := (some 170, [some (.ref 111), none, some (.ref v2), some (.int v3), some (.int v4), some (.int v5), some (.int (σ.1 112 v4.toNatClampNeg)), some (.int (σ.1 112 (v4 + (1 : Int32)).toNatClampNeg)), none], [.int (38 : Int32), .int (σ.1 112 v4.toNatClampNeg)], σ)) (ps := []) rfl trivial) ?_
                    refine Go_icmp_ne bk_Law_run 90 rfl (fun c24 => ?_) (fun c24 => ?_)
                    · have h := ifF c24 h
                      obtain ⟨g15, h⟩ := gdS h
                      refine Go.t (Go_sg bk_Law_run 129 9 (c2 := (some 255, [some (.ref 111), none, some (.ref v2), some (.int v3), some (.int v4), some (.int v5), some (.int (σ.1 112 v4.toNatClampNeg)), some (.int (σ.1 112 (v4 + (1 : Int32)).toNatClampNeg)), some (.int (σ.1 116 (v3 - (1 : Int32)).toNatClampNeg))], [.int (2 : Int32), .int v3], σ)) (ps := [shk 111 = 4, IA 116 64 ∧ inb (v3 - (1 : Int32)) 64 = true]) rfl ⟨rfl, ⟨⟨rfl, rfl⟩, g15⟩, trivial⟩) ?_
                      refine Go_icmp_lt bk_Law_run 138 rfl (fun c23 => ?_) (fun c23 => ?_)
                      · have h := ifT c23 h
                        have h := Option.some.inj h
                        subst h
                        refine Go.t (Go_sg bk_Law_run 147 1 (c2 := (some 278, [some (.ref 111), none, some (.ref v2), some (.int v3), some (.int v4), some (.int v5), some (.int (σ.1 112 v4.toNatClampNeg)), some (.int (σ.1 112 (v4 + (1 : Int32)).toNatClampNeg)), some (.int (σ.1 116 (v3 - (1 : Int32)).toNatClampNeg))], [.int (0 : Int32)], σ)) (ps := []) rfl trivial) ?_
                        exact Go_reti bk_Law_run 148 rfl
                      · have h := ifF c23 h
                        refine Go.t (Go_sg bk_Law_run 139 1 (c2 := (some 260, [some (.ref 111), none, some (.ref v2), some (.int v3), some (.int v4), some (.int v5), some (.int (σ.1 112 v4.toNatClampNeg)), some (.int (σ.1 112 (v4 + (1 : Int32)).toNatClampNeg)), some (.int (σ.1 116 (v3 - (1 : Int32)).toNatClampNeg))], [.int (σ.1 116 (v3 - (1 : Int32)).toNatClampNeg)], σ)) (ps := []) rfl trivial) ?_
                        refine Go_if_ne bk_Law_run 140 rfl (fun c22 => ?_) (fun c22 => ?_)
                        · have h := ifF c22 h
                          exact Go.t (Go.fg (LSub.cs (LSub.cn (LSub.cs (LSub.cs (LSub.cs (LSub.cs (LSub.cs (LSub.cn (LSub.cs (LSub.nil))))))))))) (t_Law_run_b279 v2 v3 v4 v5 (σ.1 112 v4.toNatClampNeg) (σ.1 116 (v3 - (1 : Int32)).toNatClampNeg) hv2 σ h)
                        · have h := ifT c22 h
                          refine Go.t (Go_sg bk_Law_run 141 2 (c2 := (some 267, [some (.ref 111), none, some (.ref v2), some (.int v3), some (.int v4), some (.int v5), some (.int (σ.1 112 v4.toNatClampNeg)), some (.int (σ.1 112 (v4 + (1 : Int32)).toNatClampNeg)), some (.int (σ.1 116 (v3 - (1 : Int32)).toNatClampNeg))], [.int (47 : Int32), .int (σ.1 112 v4.toNatClampNeg)], σ)) (ps := []) rfl trivial) ?_
                          refine Go_icmp_eq bk_Law_run 143 rfl (fun c21 => ?_) (fun c21 => ?_)
                          · have h := ifT c21 h
                            have h := Option.some.inj h
                            subst h
                            refine Go.t (Go_sg bk_Law_run 147 1 (c2 := (some 278, [some (.ref 111), none, some (.ref v2), some (.int v3), some (.int v4), some (.int v5), some (.int (σ.1 112 v4.toNatClampNeg)), some (.int (σ.1 112 (v4 + (1 : Int32)).toNatClampNeg)), some (.int (σ.1 116 (v3 - (1 : Int32)).toNatClampNeg))], [.int (0 : Int32)], σ)) (ps := []) rfl trivial) ?_
                            exact Go_reti bk_Law_run 148 rfl
                          · have h := ifF c21 h
                            refine Go.t (Go_sg bk_Law_run 144 2 (c2 := (some 274, [some (.ref 111), none, some (.ref v2), some (.int v3), some (.int v4), some (.int v5), some (.int (σ.1 112 v4.toNatClampNeg)), some (.int (σ.1 112 (v4 + (1 : Int32)).toNatClampNeg)), some (.int (σ.1 116 (v3 - (1 : Int32)).toNatClampNeg))], [.int (37 : Int32), .int (σ.1 112 v4.toNatClampNeg)], σ)) (ps := []) rfl trivial) ?_
                            refine Go_icmp_ne bk_Law_run 146 rfl (fun c20 => ?_) (fun c20 => ?_)
                            · have h := ifF c20 h
                              exact Go.t (Go.fg (LSub.cs (LSub.cn (LSub.cs (LSub.cs (LSub.cs (LSub.cs (LSub.cs (LSub.cn (LSub.cs (LSub.nil))))))))))) (t_Law_run_b279 v2 v3 v4 v5 (σ.1 112 v4.toNatClampNeg) (σ.1 116 (v3 - (1 : Int32)).toNatClampNeg) hv2 σ h)
                            · have h := ifT c20 h
                              have h := Option.some.inj h
                              subst h
                              refine Go.t (Go_sg bk_Law_run 147 1 (c2 := (some 278, [some (.ref 111), none, some (.ref v2), some (.int v3), some (.int v4), some (.int v5), some (.int (σ.1 112 v4.toNatClampNeg)), some (.int (σ.1 112 (v4 + (1 : Int32)).toNatClampNeg)), some (.int (σ.1 116 (v3 - (1 : Int32)).toNatClampNeg))], [.int (0 : Int32)], σ)) (ps := []) rfl trivial) ?_
                              exact Go_reti bk_Law_run 148 rfl
                    · have h := ifT c24 h
                      exact Go.t (Go.fg (LSub.cs (LSub.cn (LSub.cs (LSub.cs (LSub.cs (LSub.cs (LSub.cs (LSub.cs (LSub.cn (LSub.nil))))))))))) (t_Law_run_b173 v2 v3 v4 v5 (σ.1 112 v4.toNatClampNeg) (σ.1 112 (v4 + (1 : Int32)).toNatClampNeg) hv2 σ h)
                · have h := ifT c29 h
                  obtain ⟨g26, h⟩ := gdS h
                  refine Go.t (Go_sg bk_Law_run 67 11 (c2 := (some 144, [some (.ref 111), none, some (.ref v2), some (.int v3), some (.int v4), some (.int v5), some (.int (σ.1 112 v4.toNatClampNeg)), some (.int (σ.1 112 (v4 + (1 : Int32)).toNatClampNeg)), none], [.int (σ.1 116 (v3 - (1 : Int32)).toNatClampNeg), .int (v3 - (1 : Int32)), .ref 116], σ)) (ps := [shk 111 = 4, shk 111 = 4, IA 116 64 ∧ inb (v3 - (1 : Int32)) 64 = true]) rfl ⟨rfl, rfl, ⟨⟨rfl, rfl⟩, g26⟩, trivial⟩) ?_
                  refine Go_if_ne bk_Law_run 78 rfl (fun c28 => ?_) (fun c28 => ?_)
                  · have h := ifF c28 h
                    refine Go.t (Go_sg bk_Law_run 81 1 (c2 := (some 152, [some (.ref 111), none, some (.ref v2), some (.int v3), some (.int v4), some (.int v5), some (.int (σ.1 112 v4.toNatClampNeg)), some (.int (σ.1 112 (v4 + (1 : Int32)).toNatClampNeg)), none], [.int (0 : Int32), .int (v3 - (1 : Int32)), .ref 116], σ)) (ps := []) rfl trivial) ?_
                    exact Go.t (Go.fg (LSub.cs (LSub.cn (LSub.cs (LSub.cs (LSub.cs (LSub.cs (LSub.cn (LSub.cn (LSub.cn (LSub.nil))))))))))) (t_Law_run_b152 v2 v3 v4 v5 (0 : Int32) (v3 - (1 : Int32)) hv2 σ h)
                  · have h := ifT c28 h
                    refine Go.t (Go_sg bk_Law_run 79 2 (c2 := (some 152, [some (.ref 111), none, some (.ref v2), some (.int v3), some (.int v4), some (.int v5), some (.int (σ.1 112 v4.toNatClampNeg)), some (.int (σ.1 112 (v4 + (1 : Int32)).toNatClampNeg)), none], [.int (1 : Int32), .int (v3 - (1 : Int32)), .ref 116], σ)) (ps := []) rfl trivial) ?_
                    exact Go.t (Go.fg (LSub.cs (LSub.cn (LSub.cs (LSub.cs (LSub.cs (LSub.cs (LSub.cn (LSub.cn (LSub.cn (LSub.nil))))))))))) (t_Law_run_b152 v2 v3 v4 v5 (1 : Int32) (v3 - (1 : Int32)) hv2 σ h)
              · have h := ifT c30 h
                have h := Option.some.inj h
                subst h
                refine Go.t (Go_sg bk_Law_run 62 1 (c2 := (some 121, [some (.ref 111), none, some (.ref v2), some (.int v3), some (.int v4), some (.int v5), some (.int (σ.1 112 v4.toNatClampNeg)), some (.int (σ.1 112 (v4 + (1 : Int32)).toNatClampNeg)), none], [.int (0 : Int32)], σ)) (ps := []) rfl trivial) ?_
                exact Go_reti bk_Law_run 63 rfl
            · have h := ifT c31 h
              exact Go.t (Go.fg (LSub.cs (LSub.cn (LSub.cs (LSub.cs (LSub.cs (LSub.cs (LSub.cs (LSub.cs (LSub.cn (LSub.nil))))))))))) (t_Law_run_b76 v2 v3 v4 v5 (σ.1 112 v4.toNatClampNeg) (σ.1 112 (v4 + (1 : Int32)).toNatClampNeg) hv2 σ h)
        · have h := ifT c33 h
          have h := Option.some.inj h
          subst h
          exact Go.fg (LSub.cs (LSub.cn (LSub.cn (LSub.cs (LSub.cn (LSub.cn (LSub.cn (LSub.cn (LSub.cn (LSub.nil))))))))))
def Law_run_L8 (v2 : Nat) (s : Int32 × Int32 × Int32 × MH) : Option ((Int32 × MH) ⊕ (Int32 × MH) ⊕ (Int32 × MH)) := itr (fun s : Int32 × Int32 × Int32 × MH => Law_run_l8 v2 s.1 s.2.1 s.2.2.1 s.2.2.2) FU s
set_option maxRecDepth 20000 in
set_option maxHeartbeats 2000000 in
theorem t_Law_run_L8 (v2 : Nat) (hv2 : IA v2 11) (s : Int32 × Int32 × Int32 × MH) {r} (h : Law_run_L8 v2 s = some r) : Go m_Law_run 2 (cH_Law_run_8 v2 s) (cR_Law_run_8 v2 r) := Go_itr (fun s o ho => t_Law_run_l8 v2 s.1 s.2.1 s.2.2.1 hv2 s.2.2.2 ho) FU s r h
def Law_run_b314 (v3 : Int32) (σ : MH) : Option (Int32 × MH) := if v3 ≤ (0 : Int32) then some ((0 : Int32), σ) else some (σ.1 116 0, σ)
set_option maxRecDepth 20000 in
set_option maxHeartbeats 2000000 in
theorem t_Law_run_b314 (v3 : Int32)   (σ : MH) {o} (h : Law_run_b314 v3 σ = some o) : Go m_Law_run 2 (some 314, [some (.ref 111), none, none, some (.int v3), none, none, none, none, none], [], σ) ((none, [], [.int o.1], o.2)) := by
  unfold Law_run_b314 at h
  refine Go.t (Go_sg bk_Law_run 168 1 (c2 := (some 315, [some (.ref 111), none, none, some (.int v3), none, none, none, none, none], [.int v3], σ)) (ps := []) rfl trivial) ?_
  refine Go_if_le bk_Law_run 169 rfl (fun c39 => ?_) (fun c39 => ?_)
  · have h := ifT c39 h
    have h := Option.some.inj h
    subst h
    refine Go.t (Go_sg bk_Law_run 175 1 (c2 := (some 328, [some (.ref 111), none, none, some (.int v3), none, none, none, none, none], [.int (0 : Int32)], σ)) (ps := []) rfl trivial) ?_
    exact Go_reti bk_Law_run 176 rfl
  · have h := ifF c39 h
    refine Go.t (Go_sg bk_Law_run 170 5 (c2 := (some 328, [some (.ref 111), none, none, some (.int v3), none, none, none, none, none], [.int (σ.1 116 0)], σ)) (ps := [shk 111 = 4, IA 116 64 ∧ inb (0 : Int32) 64 = true]) rfl ⟨rfl, ⟨⟨rfl, rfl⟩, (inbN 0 64 rfl)⟩, trivial⟩) ?_
    have h := Option.some.inj h
    subst h
    exact Go_reti bk_Law_run 176 rfl
def Law_run0 (v1 : Int32) (v2 : Nat) (σ : MH) : Option (Int32 × MH) := (Law_run_L8 v2 ((0 : Int32), v1, (0 : Int32), σ)).bind fun z37 => (match z37 with | .inl z37a => Law_run_b314 z37a.1 z37a.2 | .inr z37r => (match z37r with | .inl z37b => Law_run_b314 z37b.1 z37b.2 | .inr z37c => some (z37c.1, z37c.2)))
set_option maxRecDepth 20000 in
set_option maxHeartbeats 2000000 in
theorem t_Law_run0 (v1 : Int32) (v2 : Nat) (hv2 : IA v2 11) (σ : MH) {o} (h : Law_run0 v1 v2 σ = some o) : Go m_Law_run 2 (some 0, [some (.ref 111), some (.int v1), some (.ref v2), none, none, none, none, none, none], [], σ) ((none, [], [.int o.1], o.2)) := by
  unfold Law_run0 at h
  refine Go.t (Go_sg bk_Law_run 0 6 (c2 := (some 8, [some (.ref 111), some (.int v1), some (.ref v2), some (.int (0 : Int32)), some (.int v1), some (.int (0 : Int32)), none, none, none], [], σ)) (ps := []) rfl trivial) ?_
  obtain ⟨z37, q38, h⟩ := bdS h
  refine Go.t (Go.t (Go.fg (LSub.cs (LSub.cn (LSub.cs (LSub.cs (LSub.cs (LSub.cs (LSub.cn (LSub.cn (LSub.cn (LSub.nil))))))))))) (t_Law_run_L8 v2 hv2 _ q38)) ?_
  rcases z37 with z37a | z37r
  · dsimp only at h
    exact Go.t (Go.fg (LSub.cs (LSub.cn (LSub.cn (LSub.cs (LSub.cn (LSub.cn (LSub.cn (LSub.cn (LSub.cn (LSub.nil))))))))))) (t_Law_run_b314 z37a.1 z37a.2 h)
  · dsimp only at h
    rcases z37r with z37b | z37c
    · dsimp only at h
      refine Go.t (Go_sg bk_Law_run 21 1 (c2 := (some 314, [some (.ref 111), none, none, some (.int z37b.1), none, none, none, none, none], [], z37b.2)) (ps := []) rfl trivial) ?_
      exact Go.t (Go.fg (LSub.cs (LSub.cn (LSub.cn (LSub.cs (LSub.cn (LSub.cn (LSub.cn (LSub.cn (LSub.cn (LSub.nil))))))))))) (t_Law_run_b314 z37b.1 z37b.2 h)
    · dsimp only at h
      have h := Option.some.inj h
      subst h
      exact Go.rf
def Law_run (v1 : Int32) (v2 : Nat) (σ : MH) : Option (Int32 × MH) := Law_run0 v1 v2 σ
set_option maxRecDepth 20000 in
set_option maxHeartbeats 2000000 in
theorem ev_Law_run (v1 : Int32) (v2 : Nat) (hv2 : IA v2 11) (σ : MH) {o} (h : Law_run v1 v2 σ = some o) : Ev m_Law_run 2 [.ref 111, .int v1, .ref v2] σ (some (.int o.1)) o.2 := Ev.of2 (by decide +kernel) rfl (Nat.le_of_ble_eq_true rfl) ⟨.int, rfl, rfl⟩ (t_Law_run0 v1 v2 hv2 σ h)
def cH_Judge_rule_14 (v1 : Int32) (v2 : Int32) (s : Int32 × MH) : MC := (some 14, [some (.ref 126), some (.int v1), some (.int v2), none, none, none, none, some (.int s.1)], [], s.2)
def cR_Judge_rule_14 (v1 : Int32) (v2 : Int32) : ((Int32 × MH) ⊕ (Int32 × MH)) → MC := (cS (fun r : Int32 × MH => ((some 71, [some (.ref 126), none, some (.int v2), none, none, none, none, some (.int r.1)], [], r.2) : MC)) (fun r : Int32 × MH => ((none, [], [.int r.1], r.2) : MC)))
def Judge_rule_b101 (v1 : Int32) (v2 : Int32) (v7 : Int32) (σ : MH) : Option (((Int32 × MH) ⊕ ((Int32 × MH) ⊕ (Int32 × MH)))) := some (.inl (v7 + (1 : Int32), σ))
set_option maxRecDepth 20000 in
set_option maxHeartbeats 2000000 in
theorem t_Judge_rule_b101 (v1 : Int32) (v2 : Int32) (v7 : Int32)   (σ : MH) {o} (h : Judge_rule_b101 v1 v2 v7 σ = some o) : Go m_Judge_rule 3 (some 101, [some (.ref 126), some (.int v1), some (.int v2), none, none, none, none, some (.int v7)], [], σ) (cS (cH_Judge_rule_14 v1 v2) (cR_Judge_rule_14 v1 v2) o) := by
  unfold Judge_rule_b101 at h
  refine Go.t (Go_sg bk_Judge_rule 49 2 (c2 := (some 14, [some (.ref 126), some (.int v1), some (.int v2), none, none, none, none, some (.int (v7 + (1 : Int32)))], [], σ)) (ps := []) rfl trivial) ?_
  have h := Option.some.inj h
  subst h
  exact Go.fg (LSub.cs (LSub.cs (LSub.cs (LSub.cn (LSub.cn (LSub.cn (LSub.cn (LSub.cs (LSub.nil)))))))))
def Judge_rule_l14 (v1 : Int32) (v2 : Int32) (v7 : Int32) (σ : MH) : Option (((Int32 × MH) ⊕ ((Int32 × MH) ⊕ (Int32 × MH)))) := if σ.1 111 6 ≤ v7 then some (.inr (.inr ((0 : Int32), σ))) else (if (16 : Int32) ≤ v7 then some (.inr (.inr ((0 : Int32), σ))) else (if inb v7 16 = true then if σ.1 113 v7.toNatClampNeg = v1 then ((Law_run (σ.1 115 v7.toNatClampNeg) 127 σ).bind fun (x5, σ6) => if x5 = (0 : Int32) then (Judge_rule_b101 v1 v2 v7 σ6) else some (.inr (.inl (v7, σ6)))) else (Judge_rule_b101 v1 v2 v7 σ) else none))
set_option maxRecDepth 20000 in
set_option maxHeartbeats 2000000 in
theorem t_Judge_rule_l14 (v1 : Int32) (v2 : Int32) (v7 : Int32)  (σ : MH) {o} (h : Judge_rule_l14 v1 v2 v7 σ = some o) : Go m_Judge_rule 3 (cH_Judge_rule_14 v1 v2 (v7, σ)) (cS (cH_Judge_rule_14 v1 v2) (cR_Judge_rule_14 v1 v2) o) := by
  unfold Judge_rule_l14 at h
  unfold cH_Judge_rule_14
  refine Go.t (Go_sg bk_Judge_rule 8 4 (c2 := (some 23, [some (.ref 126), some (.int v1), some (.int v2), none, none, none, none, some (.int v7)], [.int (σ.1 111 6), .int v7], σ)) (ps := [shk 126 = 2, shk 111 = 4]) rfl ⟨rfl, rfl, trivial⟩) ?_
  refine Go_icmp_ge bk_Judge_rule 12 rfl (fun c11 => ?_) (fun c11 => ?_)
  · have h := ifT c11 h
    have h := Option.some.inj h
    subst h
    refine Go.t (Go_sg bk_Judge_rule 51 1 (c2 := (some 108, [some (.ref 126), some (.int v1), some (.int v2), none, none, none, none, some (.int v7)], [.int (0 : Int32)], σ)) (ps := []) rfl trivial) ?_
    exact Go_reti bk_Judge_rule 52 rfl
  · have h := ifF c11 h
    refine Go.t (Go_sg bk_Judge_rule 13 2 (c2 := (some 30, [some (.ref 126), some (.int v1), some (.int v2), none, none, none, none, some (.int v7)], [.int (16 : Int32), .int v7], σ)) (ps := []) rfl trivial) ?_
    refine Go_icmp_ge bk_Judge_rule 15 rfl (fun c10 => ?_) (fun c10 => ?_)
    · have h := ifT c10 h
      have h := Option.some.inj h
      subst h
      refine Go.t (Go_sg bk_Judge_rule 51 1 (c2 := (some 108, [some (.ref 126), some (.int v1), some (.int v2), none, none, none, none, some (.int v7)], [.int (0 : Int32)], σ)) (ps := []) rfl trivial) ?_
      exact Go_reti bk_Judge_rule 52 rfl
    · have h := ifF c10 h
      obtain ⟨g4, h⟩ := gdS h
      refine Go.t (Go_sg bk_Judge_rule 16 6 (c2 := (some 44, [some (.ref 126), some (.int v1), some (.int v2), none, none, none, none, some (.int v7)], [.int v1, .int (σ.1 113 v7.toNatClampNeg)], σ)) (ps := [shk 126 = 2, shk 111 = 4, IA 113 16 ∧ inb v7 16 = true]) rfl ⟨rfl, rfl, ⟨⟨rfl, rfl⟩, g4⟩, trivial⟩) ?_
      refine Go_icmp_ne bk_Judge_rule 22 rfl (fun c9 => ?_) (fun c9 => ?_)
      · have h := ifF c9 h
        exact Go.t (Go.fg (LSub.cs (LSub.cs (LSub.cs (LSub.cn (LSub.cn (LSub.cn (LSub.cn (LSub.cs (LSub.nil)))))))))) (t_Judge_rule_b101 v1 v2 v7 σ h)
      · have h := ifT c9 h
        refine Go.t (Go_sg bk_Judge_rule 23 9 (c2 := (some 65, [some (.ref 126), some (.int v1), some (.int v2), none, none, none, none, some (.int v7)], [.ref 127, .int (σ.1 115 v7.toNatClampNeg), .ref 111], σ)) (ps := [shk 126 = 2, shk 126 = 2, shk 111 = 4, IA 115 16 ∧ inb v7 16 = true, shk 126 = 2]) rfl ⟨rfl, rfl, rfl, ⟨⟨rfl, rfl⟩, g4⟩, rfl, trivial⟩) ?_
        obtain ⟨⟨x5, σ6⟩, q7, h⟩ := bdS h
        dsimp only at h
        refine Go.t (Go_callV bk_Judge_rule 32 rfl nk_Law_run tw906 tw907 tw908 (ci := 4) rfl (as := [.int (σ.1 115 v7.toNatClampNeg), .ref 127]) (S := []) rfl rfl rfl rfl (Nat.le_of_ble_eq_true rfl) (Nat.le_of_ble_eq_true rfl) (ev_Law_run _ _ ⟨rfl, rfl⟩ _ q7)) ?_
        refine Go_if_eq bk_Judge_rule 33 rfl (fun c8 => ?_) (fun c8 => ?_)
        · have h := ifT c8 h
          exact Go.t (Go.fg (LSub.cs (LSub.cs (LSub.cs (LSub.cn (LSub.cn (LSub.cn (LSub.cn (LSub.cs (LSub.nil)))))))))) (t_Judge_rule_b101 v1 v2 v7 σ6 h)
        · have h := ifF c8 h
          have h := Option.some.inj h
          subst h
          exact Go.fg (LSub.cs (LSub.cn (LSub.cs (LSub.cn (LSub.cn (LSub.cn (LSub.cn (LSub.cs (LSub.nil)))))))))
def Judge_rule_L14 (v1 : Int32) (v2 : Int32) (s : Int32 × MH) : Option ((Int32 × MH) ⊕ (Int32 × MH)) := itr (fun s : Int32 × MH => Judge_rule_l14 v1 v2 s.1 s.2) FU s
set_option maxRecDepth 20000 in
set_option maxHeartbeats 2000000 in
theorem t_Judge_rule_L14 (v1 : Int32) (v2 : Int32)  (s : Int32 × MH) {r} (h : Judge_rule_L14 v1 v2 s = some r) : Go m_Judge_rule 3 (cH_Judge_rule_14 v1 v2 s) (cR_Judge_rule_14 v1 v2 r) := Go_itr (fun s o ho => t_Judge_rule_l14 v1 v2 s.1 s.2 ho) FU s r h
def Judge_rule0 (v1 : Int32) (v2 : Int32) (v3 : Nat) (v4 : Int32) (v5 : Int32) (v6 : Int32) (σ : MH) : Option (Int32 × MH) := (Judge_fill v3 v4 v5 v6 σ).bind fun σ2 => (Judge_rule_L14 v1 v2 ((0 : Int32), σ2)).bind fun z12 => (match z12 with | .inl z12a => if inb z12a.1 16 = true then (Law_run (z12a.2.1 114 z12a.1.toNatClampNeg) 127 z12a.2).bind fun (x15, σ16) => some (jmax (0 : Int32) (jmin v2 x15), σ16) else none | .inr z12b => some (z12b.1, z12b.2))
set_option maxRecDepth 20000 in
set_option maxHeartbeats 2000000 in
theorem t_Judge_rule0 (v1 : Int32) (v2 : Int32) (v3 : Nat) (v4 : Int32) (v5 : Int32) (v6 : Int32) (hv3 : isLd v3) (σ : MH) {o} (h : Judge_rule0 v1 v2 v3 v4 v5 v6 σ = some o) : Go m_Judge_rule 3 (some 0, [some (.ref 126), some (.int v1), some (.int v2), some (.ref v3), some (.int v4), some (.int v5), some (.int v6), none], [], σ) ((none, [], [.int o.1], o.2)) := by
  unfold Judge_rule0 at h
  refine Go.t (Go_sg bk_Judge_rule 0 5 (c2 := (some 8, [some (.ref 126), some (.int v1), some (.int v2), some (.ref v3), some (.int v4), some (.int v5), some (.int v6), none], [.int v6, .int v5, .int v4, .ref v3, .ref 126], σ)) (ps := []) rfl trivial) ?_
  obtain ⟨σ2, q3, h⟩ := bdS h
  refine Go.t (Go_callV bk_Judge_rule 5 rfl nk_Judge_fill tw889 tw891 tw17 (ci := 2) rfl (as := [.ref v3, .int v4, .int v5, .int v6]) (S := []) rfl rfl rfl rfl (Nat.le_of_ble_eq_true rfl) (Nat.le_of_ble_eq_true rfl) (ev_Judge_fill _ _ _ _ hv3 _ q3)) ?_
  refine Go.t (Go_sg bk_Judge_rule 6 2 (c2 := (some 14, [some (.ref 126), some (.int v1), some (.int v2), some (.ref v3), some (.int v4), some (.int v5), some (.int v6), some (.int (0 : Int32))], [], σ2)) (ps := []) rfl trivial) ?_
  obtain ⟨z12, q13, h⟩ := bdS h
  refine Go.t (Go.t (Go.fg (LSub.cs (LSub.cs (LSub.cs (LSub.cn (LSub.cn (LSub.cn (LSub.cn (LSub.cs (LSub.nil)))))))))) (t_Judge_rule_L14 v1 v2 _ q13)) ?_
  rcases z12 with z12a | z12b
  · dsimp only at h
    obtain ⟨g14, h⟩ := gdS h
    refine Go.t (Go_sg bk_Judge_rule 34 11 (c2 := (some 91, [some (.ref 126), none, some (.int v2), none, none, none, none, some (.int z12a.1)], [.ref 127, .int (z12a.2.1 114 z12a.1.toNatClampNeg), .ref 111, .int v2, .int (0 : Int32)], z12a.2)) (ps := [shk 126 = 2, shk 126 = 2, shk 111 = 4, IA 114 16 ∧ inb z12a.1 16 = true, shk 126 = 2]) rfl ⟨rfl, rfl, rfl, ⟨⟨rfl, rfl⟩, g14⟩, rfl, trivial⟩) ?_
    obtain ⟨⟨x15, σ16⟩, q17, h⟩ := bdS h
    dsimp only at h
    refine Go.t (Go_callV bk_Judge_rule 45 rfl nk_Law_run tw906 tw907 tw908 (ci := 4) rfl (as := [.int (z12a.2.1 114 z12a.1.toNatClampNeg), .ref 127]) (S := [.int v2, .int (0 : Int32)]) rfl rfl rfl rfl (Nat.le_of_ble_eq_true rfl) (Nat.le_of_ble_eq_true rfl) (ev_Law_run _ _ ⟨rfl, rfl⟩ _ q17)) ?_
    refine Go.t (Go_mmin bk_Judge_rule 46 rfl tw876 (Nat.le_of_ble_eq_true rfl) (Nat.le_of_ble_eq_true rfl)) ?_
    refine Go.t (Go_mmax bk_Judge_rule 47 rfl tw875 (Nat.le_of_ble_eq_true rfl) (Nat.le_of_ble_eq_true rfl)) ?_
    have h := Option.some.inj h
    subst h
    exact Go_reti bk_Judge_rule 48 rfl
  · dsimp only at h
    have h := Option.some.inj h
    subst h
    exact Go.rf
def Judge_rule (v1 : Int32) (v2 : Int32) (v3 : Nat) (v4 : Int32) (v5 : Int32) (v6 : Int32) (σ : MH) : Option (Int32 × MH) := Judge_rule0 v1 v2 v3 v4 v5 v6 σ
set_option maxRecDepth 20000 in
set_option maxHeartbeats 2000000 in
theorem ev_Judge_rule (v1 : Int32) (v2 : Int32) (v3 : Nat) (v4 : Int32) (v5 : Int32) (v6 : Int32) (hv3 : isLd v3) (σ : MH) {o} (h : Judge_rule v1 v2 v3 v4 v5 v6 σ = some o) : Ev m_Judge_rule 3 [.ref 126, .int v1, .int v2, .ref v3, .int v4, .int v5, .int v6] σ (some (.int o.1)) o.2 := Ev.of2 (by decide +kernel) rfl (Nat.le_of_ble_eq_true rfl) ⟨.int, rfl, rfl⟩ (t_Judge_rule0 v1 v2 v3 v4 v5 v6 hv3 σ h)
def Judge_allowance_b34 (s0 : Int32) (s1 : Int32) (s2 : Nat) (σ : MH) : Option (Int32 × MH) := (Judge_rule (102 : Int32) (99 : Int32) s2 s1 s0 (0 : Int32) σ).bind fun (x4, σ5) => some (x4, σ5)
set_option maxRecDepth 20000 in
set_option maxHeartbeats 2000000 in
theorem t_Judge_allowance_b34 (s0 : Int32) (s1 : Int32) (s2 : Nat) (hs2 : isLd s2)  (σ : MH) {o} (h : Judge_allowance_b34 s0 s1 s2 σ = some o) : Go m_Judge_allowance 4 (some 34, [none, none, none, none, none], [.int s0, .int s1, .ref s2, .int (99 : Int32), .int (102 : Int32), .ref 126], σ) ((none, [], [.int o.1], o.2)) := by
  unfold Judge_allowance_b34 at h
  refine Go.t (Go_sg bk_Judge_allowance 19 1 (c2 := (some 35, [none, none, none, none, none], [.int (0 : Int32), .int s0, .int s1, .ref s2, .int (99 : Int32), .int (102 : Int32), .ref 126], σ)) (ps := []) rfl trivial) ?_
  obtain ⟨⟨x4, σ5⟩, q6, h⟩ := bdS h
  dsimp only at h
  refine Go.t (Go_callV bk_Judge_allowance 20 rfl nk_Judge_rule tw885 tw886 tw887 (ci := 2) rfl (as := [.int (102 : Int32), .int (99 : Int32), .ref s2, .int s1, .int s0, .int (0 : Int32)]) (S := []) rfl rfl rfl rfl (Nat.le_of_ble_eq_true rfl) (Nat.le_of_ble_eq_true rfl) (ev_Judge_rule _ _ _ _ _ _ hs2 _ q6)) ?_
  have h := Option.some.inj h
  subst h
  exact Go_reti bk_Judge_allowance 21 rfl
def Judge_allowance_b24 (v2 : Int32) (v3 : Int32) (v4 : Int32) (s0 : Int32) (s1 : Nat) (σ : MH) : Option (Int32 × MH) := if v4 = (0 : Int32) then (Judge_allowance_b34 v2 s0 s1 σ) else (Judge_allowance_b34 v3 s0 s1 σ)
set_option maxRecDepth 20000 in
set_option maxHeartbeats 2000000 in
theorem t_Judge_allowance_b24 (v2 : Int32) (v3 : Int32) (v4 : Int32) (s0 : Int32) (s1 : Nat) (hs1 : isLd s1)  (σ : MH) {o} (h : Judge_allowance_b24 v2 v3 v4 s0 s1 σ = some o) : Go m_Judge_allowance 4 (some 24, [none, none, some (.int v2), some (.int v3), some (.int v4)], [.int s0, .ref s1, .int (99 : Int32), .int (102 : Int32), .ref 126], σ) ((none, [], [.int o.1], o.2)) := by
  unfold Judge_allowance_b24 at h
  refine Go.t (Go_sg bk_Judge_allowance 14 1 (c2 := (some 26, [none, none, some (.int v2), some (.int v3), some (.int v4)], [.int v4, .int s0, .ref s1, .int (99 : Int32), .int (102 : Int32), .ref 126], σ)) (ps := []) rfl trivial) ?_
  refine Go_if_eq bk_Judge_allowance 15 rfl (fun c7 => ?_) (fun c7 => ?_)
  · have h := ifT c7 h
    refine Go.t (Go_sg bk_Judge_allowance 18 1 (c2 := (some 34, [none, none, some (.int v2), some (.int v3), some (.int v4)], [.int v2, .int s0, .ref s1, .int (99 : Int32), .int (102 : Int32), .ref 126], σ)) (ps := []) rfl trivial) ?_
    exact Go.t (Go.fg (LSub.cn (LSub.cn (LSub.cn (LSub.cn (LSub.cn (LSub.nil))))))) (t_Judge_allowance_b34 v2 s0 s1 hs1 σ h)
  · have h := ifF c7 h
    refine Go.t (Go_sg bk_Judge_allowance 16 2 (c2 := (some 34, [none, none, some (.int v2), some (.int v3), some (.int v4)], [.int v3, .int s0, .ref s1, .int (99 : Int32), .int (102 : Int32), .ref 126], σ)) (ps := []) rfl trivial) ?_
    exact Go.t (Go.fg (LSub.cn (LSub.cn (LSub.cn (LSub.cn (LSub.cn (LSub.nil))))))) (t_Judge_allowance_b34 v3 s0 s1 hs1 σ h)
def Judge_allowance0 (v1 : Nat) (v2 : Int32) (v3 : Int32) (σ : MH) : Option (Int32 × MH) := (Judge_isFirst v1 v2 v3 σ).bind fun x1 => if x1 = (0 : Int32) then (Judge_allowance_b24 v2 v3 x1 v3 v1 σ) else (Judge_allowance_b24 v2 v3 x1 v2 v1 σ)
set_option maxRecDepth 20000 in
set_option maxHeartbeats 2000000 in
theorem t_Judge_allowance0 (v1 : Nat) (v2 : Int32) (v3 : Int32) (hv1 : isLd v1) (σ : MH) {o} (h : Judge_allowance0 v1 v2 v3 σ = some o) : Go m_Judge_allowance 4 (some 0, [some (.ref 126), some (.ref v1), some (.int v2), some (.int v3), none], [], σ) ((none, [], [.int o.1], o.2)) := by
  unfold Judge_allowance0 at h
  refine Go.t (Go_sg bk_Judge_allowance 0 3 (c2 := (some 3, [some (.ref 126), some (.ref v1), some (.int v2), some (.int v3), none], [.int v3, .int v2, .ref v1], σ)) (ps := []) rfl trivial) ?_
  obtain ⟨x1, q3, h⟩ := bdS h
  refine Go.t (Go_callS bk_Judge_allowance 3 rfl nk_Judge_isFirst tw881 tw882 (as := [.ref v1, .int v2, .int v3]) (S := []) rfl rfl rfl (Nat.le_of_ble_eq_true rfl) (Nat.le_of_ble_eq_true rfl) (ev_Judge_isFirst _ _ _ hv1 _ q3)) ?_
  refine Go.t (Go_sg bk_Judge_allowance 4 6 (c2 := (some 16, [some (.ref 126), some (.ref v1), some (.int v2), some (.int v3), some (.int x1)], [.int x1, .ref v1, .int (99 : Int32), .int (102 : Int32), .ref 126], σ)) (ps := []) rfl trivial) ?_
  refine Go_if_eq bk_Judge_allowance 10 rfl (fun c8 => ?_) (fun c8 => ?_)
  · have h := ifT c8 h
    refine Go.t (Go_sg bk_Judge_allowance 13 1 (c2 := (some 24, [some (.ref 126), some (.ref v1), some (.int v2), some (.int v3), some (.int x1)], [.int v3, .ref v1, .int (99 : Int32), .int (102 : Int32), .ref 126], σ)) (ps := []) rfl trivial) ?_
    exact Go.t (Go.fg (LSub.cn (LSub.cn (LSub.cs (LSub.cs (LSub.cs (LSub.nil))))))) (t_Judge_allowance_b24 v2 v3 x1 v3 v1 hv1 σ h)
  · have h := ifF c8 h
    refine Go.t (Go_sg bk_Judge_allowance 11 2 (c2 := (some 24, [some (.ref 126), some (.ref v1), some (.int v2), some (.int v3), some (.int x1)], [.int v2, .ref v1, .int (99 : Int32), .int (102 : Int32), .ref 126], σ)) (ps := []) rfl trivial) ?_
    exact Go.t (Go.fg (LSub.cn (LSub.cn (LSub.cs (LSub.cs (LSub.cs (LSub.nil))))))) (t_Judge_allowance_b24 v2 v3 x1 v2 v1 hv1 σ h)
def Judge_allowance (v1 : Nat) (v2 : Int32) (v3 : Int32) (σ : MH) : Option (Int32 × MH) := Judge_allowance0 v1 v2 v3 σ
set_option maxRecDepth 20000 in
set_option maxHeartbeats 2000000 in
theorem ev_Judge_allowance (v1 : Nat) (v2 : Int32) (v3 : Int32) (hv1 : isLd v1) (σ : MH) {o} (h : Judge_allowance v1 v2 v3 σ = some o) : Ev m_Judge_allowance 4 [.ref 126, .ref v1, .int v2, .int v3] σ (some (.int o.1)) o.2 := Ev.of2 (by decide +kernel) rfl (Nat.le_of_ble_eq_true rfl) ⟨.int, rfl, rfl⟩ (t_Judge_allowance0 v1 v2 v3 hv1 σ h)
def Judge_fit0 (v1 : Nat) (v2 : Int32) (v3 : Int32) (σ : MH) : Option (Int32 × MH) := (Judge_slackOf v1 v2 v3 σ).bind fun x1 => if x1 < (0 : Int32) then some ((0 : Int32), σ) else ((Judge_allowance v1 v2 v3 σ).bind fun (x4, σ5) => if x4 < x1 then some ((0 : Int32), σ5) else some ((1 : Int32), σ5))
set_option maxRecDepth 20000 in
set_option maxHeartbeats 2000000 in
theorem t_Judge_fit0 (v1 : Nat) (v2 : Int32) (v3 : Int32) (hv1 : isLd v1) (σ : MH) {o} (h : Judge_fit0 v1 v2 v3 σ = some o) : Go m_Judge_fit 5 (some 0, [some (.ref 126), some (.ref v1), some (.int v2), some (.int v3), none], [], σ) ((none, [], [.int o.1], o.2)) := by
  unfold Judge_fit0 at h
  refine Go.t (Go_sg bk_Judge_fit 0 4 (c2 := (some 4, [some (.ref 126), some (.ref v1), some (.int v2), some (.int v3), none], [.int v3, .int v2, .ref v1, .ref 126], σ)) (ps := []) rfl trivial) ?_
  obtain ⟨x1, q3, h⟩ := bdS h
  refine Go.t (Go_callV bk_Judge_fit 4 rfl nk_Judge_slackOf tw867 tw868 tw869 (ci := 2) rfl (as := [.ref v1, .int v2, .int v3]) (S := []) rfl rfl rfl rfl (Nat.le_of_ble_eq_true rfl) (Nat.le_of_ble_eq_true rfl) (ev_Judge_slackOf _ _ _ hv1 _ q3)) ?_
  refine Go.t (Go_sg bk_Judge_fit 5 2 (c2 := (some 11, [some (.ref 126), some (.ref v1), some (.int v2), some (.int v3), some (.int x1)], [.int x1], σ)) (ps := []) rfl trivial) ?_
  refine Go_if_lt bk_Judge_fit 7 rfl (fun c8 => ?_) (fun c8 => ?_)
  · have h := ifT c8 h
    have h := Option.some.inj h
    subst h
    refine Go.t (Go_sg bk_Judge_fit 17 1 (c2 := (some 31, [some (.ref 126), some (.ref v1), some (.int v2), some (.int v3), some (.int x1)], [.int (0 : Int32)], σ)) (ps := []) rfl trivial) ?_
    exact Go_reti bk_Judge_fit 18 rfl
  · have h := ifF c8 h
    refine Go.t (Go_sg bk_Judge_fit 8 5 (c2 := (some 20, [some (.ref 126), some (.ref v1), some (.int v2), some (.int v3), some (.int x1)], [.int v3, .int v2, .ref v1, .ref 126, .int x1], σ)) (ps := []) rfl trivial) ?_
    obtain ⟨⟨x4, σ5⟩, q6, h⟩ := bdS h
    dsimp only at h
    refine Go.t (Go_callV bk_Judge_fit 13 rfl nk_Judge_allowance tw877 tw878 tw879 (ci := 2) rfl (as := [.ref v1, .int v2, .int v3]) (S := [.int x1]) rfl rfl rfl rfl (Nat.le_of_ble_eq_true rfl) (Nat.le_of_ble_eq_true rfl) (ev_Judge_allowance _ _ _ hv1 _ q6)) ?_
    refine Go_icmp_gt bk_Judge_fit 14 rfl (fun c7 => ?_) (fun c7 => ?_)
    · have h := ifT c7 h
      have h := Option.some.inj h
      subst h
      refine Go.t (Go_sg bk_Judge_fit 17 1 (c2 := (some 31, [some (.ref 126), some (.ref v1), some (.int v2), some (.int v3), some (.int x1)], [.int (0 : Int32)], σ5)) (ps := []) rfl trivial) ?_
      exact Go_reti bk_Judge_fit 18 rfl
    · have h := ifF c7 h
      refine Go.t (Go_sg bk_Judge_fit 15 2 (c2 := (some 31, [some (.ref 126), some (.ref v1), some (.int v2), some (.int v3), some (.int x1)], [.int (1 : Int32)], σ5)) (ps := []) rfl trivial) ?_
      have h := Option.some.inj h
      subst h
      exact Go_reti bk_Judge_fit 18 rfl
def Judge_fit (v1 : Nat) (v2 : Int32) (v3 : Int32) (σ : MH) : Option (Int32 × MH) := bzo (Judge_fit0 v1 v2 v3 σ)
set_option maxRecDepth 20000 in
set_option maxHeartbeats 2000000 in
theorem ev_Judge_fit (v1 : Nat) (v2 : Int32) (v3 : Int32) (hv1 : isLd v1) (σ : MH) {o} (h : Judge_fit v1 v2 v3 σ = some o) : Ev m_Judge_fit 5 [.ref 126, .ref v1, .int v2, .int v3] σ (some (.int o.1)) o.2 := Ev.of2 (by decide +kernel) rfl (Nat.le_of_ble_eq_true rfl) ⟨.boolean, rfl, nrB (bzo2 h)⟩ (t_Judge_fit0 v1 v2 v3 hv1 σ (bzo1 h))
def Judge_wearOf_b76 (v1 : Nat) (v2 : Int32) (v3 : Int32) (s0 : Int32) (s1 : Int32) (s2 : Nat) (σ : MH) : Option (Int32 × MH) := (Judge_slackOf v1 v2 v3 σ).bind fun x7 => (Judge_rule (119 : Int32) (9 : Int32) s2 s1 s0 x7 σ).bind fun (x10, σ11) => some (x10, σ11)
set_option maxRecDepth 20000 in
set_option maxHeartbeats 2000000 in
theorem t_Judge_wearOf_b76 (v1 : Nat) (v2 : Int32) (v3 : Int32) (s0 : Int32) (s1 : Int32) (s2 : Nat) (hv1 : isLd v1) (hs2 : isLd s2)  (σ : MH) {o} (h : Judge_wearOf_b76 v1 v2 v3 s0 s1 s2 σ = some o) : Go m_Judge_wearOf 4 (some 76, [some (.ref 126), some (.ref v1), some (.int v2), some (.int v3), none, none], [.int s0, .int s1, .ref s2, .int (9 : Int32), .int (119 : Int32), .ref 126], σ) ((none, [], [.int o.1], o.2)) := by
  unfold Judge_wearOf_b76 at h
  refine Go.t (Go_sg bk_Judge_wearOf 41 4 (c2 := (some 80, [some (.ref 126), some (.ref v1), some (.int v2), some (.int v3), none, none], [.int v3, .int v2, .ref v1, .ref 126, .int s0, .int s1, .ref s2, .int (9 : Int32), .int (119 : Int32), .ref 126], σ)) (ps := []) rfl trivial) ?_
  obtain ⟨x7, q9, h⟩ := bdS h
  refine Go.t (Go_callV bk_Judge_wearOf 45 rfl nk_Judge_slackOf tw867 tw868 tw869 (ci := 2) rfl (as := [.ref v1, .int v2, .int v3]) (S := [.int s0, .int s1, .ref s2, .int (9 : Int32), .int (119 : Int32), .ref 126]) rfl rfl rfl rfl (Nat.le_of_ble_eq_true rfl) (Nat.le_of_ble_eq_true rfl) (ev_Judge_slackOf _ _ _ hv1 _ q9)) ?_
  obtain ⟨⟨x10, σ11⟩, q12, h⟩ := bdS h
  dsimp only at h
  refine Go.t (Go_callV bk_Judge_wearOf 46 rfl nk_Judge_rule tw885 tw886 tw887 (ci := 2) rfl (as := [.int (119 : Int32), .int (9 : Int32), .ref s2, .int s1, .int s0, .int x7]) (S := []) rfl rfl rfl rfl (Nat.le_of_ble_eq_true rfl) (Nat.le_of_ble_eq_true rfl) (ev_Judge_rule _ _ _ _ _ _ hs2 _ q12)) ?_
  have h := Option.some.inj h
  subst h
  exact Go_reti bk_Judge_wearOf 47 rfl
def Judge_wearOf_b66 (v1 : Nat) (v2 : Int32) (v3 : Int32) (v5 : Int32) (s0 : Int32) (s1 : Nat) (σ : MH) : Option (Int32 × MH) := if v5 = (0 : Int32) then (Judge_wearOf_b76 v1 v2 v3 v2 s0 s1 σ) else (Judge_wearOf_b76 v1 v2 v3 v3 s0 s1 σ)
set_option maxRecDepth 20000 in
set_option maxHeartbeats 2000000 in
theorem t_Judge_wearOf_b66 (v1 : Nat) (v2 : Int32) (v3 : Int32) (v5 : Int32) (s0 : Int32) (s1 : Nat) (hv1 : isLd v1) (hs1 : isLd s1)  (σ : MH) {o} (h : Judge_wearOf_b66 v1 v2 v3 v5 s0 s1 σ = some o) : Go m_Judge_wearOf 4 (some 66, [some (.ref 126), some (.ref v1), some (.int v2), some (.int v3), none, some (.int v5)], [.int s0, .ref s1, .int (9 : Int32), .int (119 : Int32), .ref 126], σ) ((none, [], [.int o.1], o.2)) := by
  unfold Judge_wearOf_b66 at h
  refine Go.t (Go_sg bk_Judge_wearOf 36 1 (c2 := (some 68, [some (.ref 126), some (.ref v1), some (.int v2), some (.int v3), none, some (.int v5)], [.int v5, .int s0, .ref s1, .int (9 : Int32), .int (119 : Int32), .ref 126], σ)) (ps := []) rfl trivial) ?_
  refine Go_if_eq bk_Judge_wearOf 37 rfl (fun c13 => ?_) (fun c13 => ?_)
  · have h := ifT c13 h
    refine Go.t (Go_sg bk_Judge_wearOf 40 1 (c2 := (some 76, [some (.ref 126), some (.ref v1), some (.int v2), some (.int v3), none, some (.int v5)], [.int v2, .int s0, .ref s1, .int (9 : Int32), .int (119 : Int32), .ref 126], σ)) (ps := []) rfl trivial) ?_
    exact Go.t (Go.fg (LSub.cs (LSub.cs (LSub.cs (LSub.cs (LSub.cn (LSub.cn (LSub.nil)))))))) (t_Judge_wearOf_b76 v1 v2 v3 v2 s0 s1 hv1 hs1 σ h)
  · have h := ifF c13 h
    refine Go.t (Go_sg bk_Judge_wearOf 38 2 (c2 := (some 76, [some (.ref 126), some (.ref v1), some (.int v2), some (.int v3), none, some (.int v5)], [.int v3, .int s0, .ref s1, .int (9 : Int32), .int (119 : Int32), .ref 126], σ)) (ps := []) rfl trivial) ?_
    exact Go.t (Go.fg (LSub.cs (LSub.cs (LSub.cs (LSub.cs (LSub.cn (LSub.cn (LSub.nil)))))))) (t_Judge_wearOf_b76 v1 v2 v3 v3 s0 s1 hv1 hs1 σ h)
def Judge_wearOf_b48 (v1 : Nat) (v2 : Int32) (v3 : Int32) (s0 : Int32) (σ : MH) : Option (Int32 × MH) := if s0 = (0 : Int32) then (Judge_wearOf_b66 v1 v2 v3 s0 v3 v1 σ) else (Judge_wearOf_b66 v1 v2 v3 s0 v2 v1 σ)
set_option maxRecDepth 20000 in
set_option maxHeartbeats 2000000 in
theorem t_Judge_wearOf_b48 (v1 : Nat) (v2 : Int32) (v3 : Int32) (s0 : Int32) (hv1 : isLd v1)  (σ : MH) {o} (h : Judge_wearOf_b48 v1 v2 v3 s0 σ = some o) : Go m_Judge_wearOf 4 (some 48, [some (.ref 126), some (.ref v1), some (.int v2), some (.int v3), none, none], [.int s0], σ) ((none, [], [.int o.1], o.2)) := by
  unfold Judge_wearOf_b48 at h
  refine Go.t (Go_sg bk_Judge_wearOf 26 6 (c2 := (some 58, [some (.ref 126), some (.ref v1), some (.int v2), some (.int v3), none, some (.int s0)], [.int s0, .ref v1, .int (9 : Int32), .int (119 : Int32), .ref 126], σ)) (ps := []) rfl trivial) ?_
  refine Go_if_eq bk_Judge_wearOf 32 rfl (fun c14 => ?_) (fun c14 => ?_)
  · have h := ifT c14 h
    refine Go.t (Go_sg bk_Judge_wearOf 35 1 (c2 := (some 66, [some (.ref 126), some (.ref v1), some (.int v2), some (.int v3), none, some (.int s0)], [.int v3, .ref v1, .int (9 : Int32), .int (119 : Int32), .ref 126], σ)) (ps := []) rfl trivial) ?_
    exact Go.t (Go.fg (LSub.cs (LSub.cs (LSub.cs (LSub.cs (LSub.cn (LSub.cs (LSub.nil)))))))) (t_Judge_wearOf_b66 v1 v2 v3 s0 v3 v1 hv1 hv1 σ h)
  · have h := ifF c14 h
    refine Go.t (Go_sg bk_Judge_wearOf 33 2 (c2 := (some 66, [some (.ref 126), some (.ref v1), some (.int v2), some (.int v3), none, some (.int s0)], [.int v2, .ref v1, .int (9 : Int32), .int (119 : Int32), .ref 126], σ)) (ps := []) rfl trivial) ?_
    exact Go.t (Go.fg (LSub.cs (LSub.cs (LSub.cs (LSub.cs (LSub.cn (LSub.cs (LSub.nil)))))))) (t_Judge_wearOf_b66 v1 v2 v3 s0 v2 v1 hv1 hv1 σ h)
def Judge_wearOf_b22 (v1 : Nat) (v2 : Int32) (v3 : Int32) (s0 : Int32) (σ : MH) : Option (Int32 × MH) := if s0 = (0 : Int32) then ((Judge_isFirst v1 v2 v3 σ).bind fun x4 => Judge_wearOf_b48 v1 v2 v3 x4 σ) else (if v3 ≤ v2 then (Judge_wearOf_b48 v1 v2 v3 (0 : Int32) σ) else (Judge_wearOf_b48 v1 v2 v3 (1 : Int32) σ))
set_option maxRecDepth 20000 in
set_option maxHeartbeats 2000000 in
theorem t_Judge_wearOf_b22 (v1 : Nat) (v2 : Int32) (v3 : Int32) (s0 : Int32) (hv1 : isLd v1)  (σ : MH) {o} (h : Judge_wearOf_b22 v1 v2 v3 s0 σ = some o) : Go m_Judge_wearOf 4 (some 22, [some (.ref 126), some (.ref v1), some (.int v2), some (.int v3), none, none], [.int s0], σ) ((none, [], [.int o.1], o.2)) := by
  unfold Judge_wearOf_b22 at h
  refine Go.t (Go_sg bk_Judge_wearOf 12 2 (c2 := (some 26, [some (.ref 126), some (.ref v1), some (.int v2), some (.int v3), some (.int s0), none], [.int s0], σ)) (ps := []) rfl trivial) ?_
  refine Go_if_eq bk_Judge_wearOf 14 rfl (fun c16 => ?_) (fun c16 => ?_)
  · have h := ifT c16 h
    refine Go.t (Go_sg bk_Judge_wearOf 22 3 (c2 := (some 45, [some (.ref 126), some (.ref v1), some (.int v2), some (.int v3), some (.int s0), none], [.int v3, .int v2, .ref v1], σ)) (ps := []) rfl trivial) ?_
    obtain ⟨x4, q6, h⟩ := bdS h
    refine Go.t (Go_callS bk_Judge_wearOf 25 rfl nk_Judge_isFirst tw881 tw882 (as := [.ref v1, .int v2, .int v3]) (S := []) rfl rfl rfl (Nat.le_of_ble_eq_true rfl) (Nat.le_of_ble_eq_true rfl) (ev_Judge_isFirst _ _ _ hv1 _ q6)) ?_
    exact Go.t (Go.fg (LSub.cs (LSub.cs (LSub.cs (LSub.cs (LSub.cn (LSub.cn (LSub.nil)))))))) (t_Judge_wearOf_b48 v1 v2 v3 x4 hv1 σ h)
  · have h := ifF c16 h
    refine Go.t (Go_sg bk_Judge_wearOf 15 2 (c2 := (some 31, [some (.ref 126), some (.ref v1), some (.int v2), some (.int v3), some (.int s0), none], [.int v3, .int v2], σ)) (ps := []) rfl trivial) ?_
    refine Go_icmp_ge bk_Judge_wearOf 17 rfl (fun c15 => ?_) (fun c15 => ?_)
    · have h := ifT c15 h
      refine Go.t (Go_sg bk_Judge_wearOf 20 2 (c2 := (some 48, [some (.ref 126), some (.ref v1), some (.int v2), some (.int v3), some (.int s0), none], [.int (0 : Int32)], σ)) (ps := []) rfl trivial) ?_
      exact Go.t (Go.fg (LSub.cs (LSub.cs (LSub.cs (LSub.cs (LSub.cn (LSub.cn (LSub.nil)))))))) (t_Judge_wearOf_b48 v1 v2 v3 (0 : Int32) hv1 σ h)
    · have h := ifF c15 h
      refine Go.t (Go_sg bk_Judge_wearOf 18 2 (c2 := (some 48, [some (.ref 126), some (.ref v1), some (.int v2), some (.int v3), some (.int s0), none], [.int (1 : Int32)], σ)) (ps := []) rfl trivial) ?_
      exact Go.t (Go.fg (LSub.cs (LSub.cs (LSub.cs (LSub.cs (LSub.cn (LSub.cn (LSub.nil)))))))) (t_Judge_wearOf_b48 v1 v2 v3 (1 : Int32) hv1 σ h)
def Judge_wearOf_b21 (v1 : Nat) (v2 : Int32) (v3 : Int32) (σ : MH) : Option (Int32 × MH) := Judge_wearOf_b22 v1 v2 v3 (0 : Int32) σ
set_option maxRecDepth 20000 in
set_option maxHeartbeats 2000000 in
theorem t_Judge_wearOf_b21 (v1 : Nat) (v2 : Int32) (v3 : Int32) (hv1 : isLd v1)  (σ : MH) {o} (h : Judge_wearOf_b21 v1 v2 v3 σ = some o) : Go m_Judge_wearOf 4 (some 21, [some (.ref 126), some (.ref v1), some (.int v2), some (.int v3), none, none], [], σ) ((none, [], [.int o.1], o.2)) := by
  unfold Judge_wearOf_b21 at h
  refine Go.t (Go_sg bk_Judge_wearOf 11 1 (c2 := (some 22, [some (.ref 126), some (.ref v1), some (.int v2), some (.int v3), none, none], [.int (0 : Int32)], σ)) (ps := []) rfl trivial) ?_
  exact Go.t (Go.fg (LSub.cs (LSub.cs (LSub.cs (LSub.cs (LSub.cn (LSub.cn (LSub.nil)))))))) (t_Judge_wearOf_b22 v1 v2 v3 (0 : Int32) hv1 σ h)
def Judge_wearOf0 (v1 : Nat) (v2 : Int32) (v3 : Int32) (σ : MH) : Option (Int32 × MH) := (Pz_isNumber v2 σ).bind fun x1 => if x1 = (0 : Int32) then (Judge_wearOf_b21 v1 v2 v3 σ) else (if inb v2 12 = true then if σ.1 (rfv v1 4) v2.toNatClampNeg = v3 then (Judge_wearOf_b22 v1 v2 v3 (1 : Int32) σ) else (Judge_wearOf_b21 v1 v2 v3 σ) else none)
set_option maxRecDepth 20000 in
set_option maxHeartbeats 2000000 in
theorem t_Judge_wearOf0 (v1 : Nat) (v2 : Int32) (v3 : Int32) (hv1 : isLd v1) (σ : MH) {o} (h : Judge_wearOf0 v1 v2 v3 σ = some o) : Go m_Judge_wearOf 4 (some 0, [some (.ref 126), some (.ref v1), some (.int v2), some (.int v3), none, none], [], σ) ((none, [], [.int o.1], o.2)) := by
  unfold Judge_wearOf0 at h
  refine Go.t (Go_sg bk_Judge_wearOf 0 1 (c2 := (some 1, [some (.ref 126), some (.ref v1), some (.int v2), some (.int v3), none, none], [.int v2], σ)) (ps := []) rfl trivial) ?_
  obtain ⟨x1, q3, h⟩ := bdS h
  refine Go.t (Go_callN bk_Judge_wearOf 1 rfl nk_Pz_isNumber (host := RX11) (by decide +kernel) tw553 (as := [.int v2]) (S := []) rfl rfl rfl (Nat.le_of_ble_eq_true rfl) (Nat.le_of_ble_eq_true rfl) (ev_Pz_isNumber _ _ q3)) ?_
  refine Go_if_eq bk_Judge_wearOf 2 rfl (fun c19 => ?_) (fun c19 => ?_)
  · have h := ifT c19 h
    exact Go.t (Go.fg (LSub.cs (LSub.cs (LSub.cs (LSub.cs (LSub.cn (LSub.cn (LSub.nil)))))))) (t_Judge_wearOf_b21 v1 v2 v3 hv1 σ h)
  · have h := ifF c19 h
    obtain ⟨g17, h⟩ := gdS h
    refine Go.t (Go_sg bk_Judge_wearOf 3 5 (c2 := (some 14, [some (.ref 126), some (.ref v1), some (.int v2), some (.int v3), none, none], [.int v3, .int (σ.1 (rfv v1 4) v2.toNatClampNeg)], σ)) (ps := [shk v1 = 3, IA (rfv v1 4) 12 ∧ inb v2 12 = true]) rfl ⟨(ldk hv1), ⟨(ldA hv1 4 rfl), g17⟩, trivial⟩) ?_
    refine Go_icmp_ne bk_Judge_wearOf 8 rfl (fun c18 => ?_) (fun c18 => ?_)
    · have h := ifF c18 h
      exact Go.t (Go.fg (LSub.cs (LSub.cs (LSub.cs (LSub.cs (LSub.cn (LSub.cn (LSub.nil)))))))) (t_Judge_wearOf_b21 v1 v2 v3 hv1 σ h)
    · have h := ifT c18 h
      refine Go.t (Go_sg bk_Judge_wearOf 9 2 (c2 := (some 22, [some (.ref 126), some (.ref v1), some (.int v2), some (.int v3), none, none], [.int (1 : Int32)], σ)) (ps := []) rfl trivial) ?_
      exact Go.t (Go.fg (LSub.cs (LSub.cs (LSub.cs (LSub.cs (LSub.cn (LSub.cn (LSub.nil)))))))) (t_Judge_wearOf_b22 v1 v2 v3 (1 : Int32) hv1 σ h)
def Judge_wearOf (v1 : Nat) (v2 : Int32) (v3 : Int32) (σ : MH) : Option (Int32 × MH) := Judge_wearOf0 v1 v2 v3 σ
set_option maxRecDepth 20000 in
set_option maxHeartbeats 2000000 in
theorem ev_Judge_wearOf (v1 : Nat) (v2 : Int32) (v3 : Int32) (hv1 : isLd v1) (σ : MH) {o} (h : Judge_wearOf v1 v2 v3 σ = some o) : Ev m_Judge_wearOf 4 [.ref 126, .ref v1, .int v2, .int v3] σ (some (.int o.1)) o.2 := Ev.of2 (by decide +kernel) rfl (Nat.le_of_ble_eq_true rfl) ⟨.int, rfl, rfl⟩ (t_Judge_wearOf0 v1 v2 v3 hv1 σ h)
def cH_Land_wearDown_2 (v0 : Nat) (v1 : Int32) (v2 : Int32) (s : Int32 × MH) : MC := (some 2, [some (.ref v0), some (.int v1), some (.int v2), some (.int s.1)], [], s.2)
def cR_Land_wearDown_2 (v0 : Nat) (v1 : Int32) (v2 : Int32) : ((MH)) → MC := (fun r : MH => ((none, [], [], r) : MC))
def Land_wearDown_b37 (v0 : Nat) (v1 : Int32) (v2 : Int32) (v3 : Int32) (σ : MH) : Option (((Int32 × MH) ⊕ ((MH)))) := some (.inl (v3 + (1 : Int32), σ))
set_option maxRecDepth 20000 in
set_option maxHeartbeats 2000000 in
theorem t_Land_wearDown_b37 (v0 : Nat) (v1 : Int32) (v2 : Int32) (v3 : Int32) (hv0 : isLd v0)  (σ : MH) {o} (h : Land_wearDown_b37 v0 v1 v2 v3 σ = some o) : Go m_Land_wearDown 2 (some 37, [some (.ref v0), some (.int v1), some (.int v2), some (.int v3)], [], σ) (cS (cH_Land_wearDown_2 v0 v1 v2) (cR_Land_wearDown_2 v0 v1 v2) o) := by
  unfold Land_wearDown_b37 at h
  refine Go.t (Go_sg bk_Land_wearDown 23 2 (c2 := (some 2, [some (.ref v0), some (.int v1), some (.int v2), some (.int (v3 + (1 : Int32)))], [], σ)) (ps := []) rfl trivial) ?_
  have h := Option.some.inj h
  subst h
  exact Go.fg (LSub.cs (LSub.cs (LSub.cs (LSub.cs (LSub.nil)))))
def Land_wearDown_l2 (v0 : Nat) (v1 : Int32) (v2 : Int32) (v3 : Int32) (σ : MH) : Option (((Int32 × MH) ⊕ ((MH)))) := if (12 : Int32) ≤ v3 then some (.inr (σ)) else (if inb v3 12 = true then if σ.1 (rfv v0 7) v3.toNatClampNeg = v1 then Land_wearDown_b37 v0 v1 v2 v3 (sI σ (rfv v0 8) v3.toNatClampNeg (jmin (99 : Int32) ((σ.1 (rfv v0 8) v3.toNatClampNeg) + v2))) else (Land_wearDown_b37 v0 v1 v2 v3 σ) else none)
set_option maxRecDepth 20000 in
set_option maxHeartbeats 2000000 in
theorem t_Land_wearDown_l2 (v0 : Nat) (v1 : Int32) (v2 : Int32) (v3 : Int32) (hv0 : isLd v0) (σ : MH) {o} (h : Land_wearDown_l2 v0 v1 v2 v3 σ = some o) : Go m_Land_wearDown 2 (cH_Land_wearDown_2 v0 v1 v2 (v3, σ)) (cS (cH_Land_wearDown_2 v0 v1 v2) (cR_Land_wearDown_2 v0 v1 v2) o) := by
  unfold Land_wearDown_l2 at h
  unfold cH_Land_wearDown_2
  refine Go.t (Go_sg bk_Land_wearDown 2 2 (c2 := (some 5, [some (.ref v0), some (.int v1), some (.int v2), some (.int v3)], [.int (12 : Int32), .int v3], σ)) (ps := []) rfl trivial) ?_
  refine Go_icmp_ge bk_Land_wearDown 4 rfl (fun c3 => ?_) (fun c3 => ?_)
  · have h := ifT c3 h
    have h := Option.some.inj h
    subst h
    exact Go_ret0 bk_Land_wearDown 25 rfl
  · have h := ifF c3 h
    obtain ⟨g1, h⟩ := gdS h
    refine Go.t (Go_sg bk_Land_wearDown 5 5 (c2 := (some 15, [some (.ref v0), some (.int v1), some (.int v2), some (.int v3)], [.int v1, .int (σ.1 (rfv v0 7) v3.toNatClampNeg)], σ)) (ps := [shk v0 = 3, IA (rfv v0 7) 12 ∧ inb v3 12 = true]) rfl ⟨(ldk hv0), ⟨(ldA hv0 7 rfl), g1⟩, trivial⟩) ?_
    refine Go_icmp_ne bk_Land_wearDown 10 rfl (fun c2 => ?_) (fun c2 => ?_)
    · have h := ifF c2 h
      exact Go.t (Go.fg (LSub.cs (LSub.cs (LSub.cs (LSub.cs (LSub.nil)))))) (t_Land_wearDown_b37 v0 v1 v2 v3 hv0 σ h)
    · have h := ifT c2 h
      refine Go.t (Go_sg bk_Land_wearDown 11 10 (c2 := (some 33, [some (.ref v0), some (.int v1), some (.int v2), some (.int v3)], [.int ((σ.1 (rfv v0 8) v3.toNatClampNeg) + v2), .int (99 : Int32), .int v3, .ref (rfv v0 8)], σ)) (ps := [shk v0 = 3, shk v0 = 3, IA (rfv v0 8) 12 ∧ inb v3 12 = true]) rfl ⟨(ldk hv0), (ldk hv0), ⟨(ldA hv0 8 rfl), g1⟩, trivial⟩) ?_
      refine Go.t (Go_mmin bk_Land_wearDown 21 rfl tw925 (Nat.le_of_ble_eq_true rfl) (Nat.le_of_ble_eq_true rfl)) ?_
      refine Go.t (Go_sg bk_Land_wearDown 22 1 (c2 := (some 37, [some (.ref v0), some (.int v1), some (.int v2), some (.int v3)], [], sI σ (rfv v0 8) v3.toNatClampNeg (jmin (99 : Int32) ((σ.1 (rfv v0 8) v3.toNatClampNeg) + v2)))) (ps := [IA (rfv v0 8) 12 ∧ inb v3 12 = true]) rfl ⟨⟨(ldA hv0 8 rfl), g1⟩, trivial⟩) ?_
      exact Go.t (Go.fg (LSub.cs (LSub.cs (LSub.cs (LSub.cs (LSub.nil)))))) (t_Land_wearDown_b37 v0 v1 v2 v3 hv0 (sI σ (rfv v0 8) v3.toNatClampNeg (jmin (99 : Int32) ((σ.1 (rfv v0 8) v3.toNatClampNeg) + v2))) h)
def Land_wearDown_L2 (v0 : Nat) (v1 : Int32) (v2 : Int32) (s : Int32 × MH) : Option ((MH)) := itr (fun s : Int32 × MH => Land_wearDown_l2 v0 v1 v2 s.1 s.2) FU s
set_option maxRecDepth 20000 in
set_option maxHeartbeats 2000000 in
theorem t_Land_wearDown_L2 (v0 : Nat) (v1 : Int32) (v2 : Int32) (hv0 : isLd v0) (s : Int32 × MH) {r} (h : Land_wearDown_L2 v0 v1 v2 s = some r) : Go m_Land_wearDown 2 (cH_Land_wearDown_2 v0 v1 v2 s) (cR_Land_wearDown_2 v0 v1 v2 r) := Go_itr (fun s o ho => t_Land_wearDown_l2 v0 v1 v2 s.1 hv0 s.2 ho) FU s r h
def Land_wearDown0 (v0 : Nat) (v1 : Int32) (v2 : Int32) (σ : MH) : Option (MH) := (Land_wearDown_L2 v0 v1 v2 ((0 : Int32), σ)).bind fun z4 => some (z4)
set_option maxRecDepth 20000 in
set_option maxHeartbeats 2000000 in
theorem t_Land_wearDown0 (v0 : Nat) (v1 : Int32) (v2 : Int32) (hv0 : isLd v0) (σ : MH) {o} (h : Land_wearDown0 v0 v1 v2 σ = some o) : Go m_Land_wearDown 2 (some 0, [some (.ref v0), some (.int v1), some (.int v2), none], [], σ) ((none, [], [], o)) := by
  unfold Land_wearDown0 at h
  refine Go.t (Go_sg bk_Land_wearDown 0 2 (c2 := (some 2, [some (.ref v0), some (.int v1), some (.int v2), some (.int (0 : Int32))], [], σ)) (ps := []) rfl trivial) ?_
  obtain ⟨z4, q5, h⟩ := bdS h
  refine Go.t (Go.t (Go.fg (LSub.cs (LSub.cs (LSub.cs (LSub.cs (LSub.nil)))))) (t_Land_wearDown_L2 v0 v1 v2 hv0 _ q5)) ?_
  have h := Option.some.inj h
  subst h
  exact Go.rf
def Land_wearDown (v0 : Nat) (v1 : Int32) (v2 : Int32) (σ : MH) : Option (MH) := Land_wearDown0 v0 v1 v2 σ
set_option maxRecDepth 20000 in
set_option maxHeartbeats 2000000 in
theorem ev_Land_wearDown (v0 : Nat) (v1 : Int32) (v2 : Int32) (hv0 : isLd v0) (σ : MH) {o} (h : Land_wearDown v0 v1 v2 σ = some o) : Ev m_Land_wearDown 2 [.ref v0, .int v1, .int v2] σ none o := Ev.of2 (by decide +kernel) rfl (Nat.le_of_ble_eq_true rfl) rfl (t_Land_wearDown0 v0 v1 v2 hv0 σ h)
