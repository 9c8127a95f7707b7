/-! FUNCTIONS: Pz_steaming Pz_worn Pz_cut Pz_sameRow Pz_rulesAll Pz_madeBy Pz_cutter Pz_copies Pz_mate Pz_seed Pz_keep Pz_undo Pz_check Land_whoIsIn Pz_count Md_isTwelve Md_has Md_isPerson Md_in Md_person Md_wear Md_lives Md_parts Md_dies -/
def Pz_steaming0 (v1 : Int32) (v2 : Int32) (v3 : Int32) (v4 : Int32) (σ : MH) : Option (Int32 × MH) := (Pz_isNumber v1 σ).bind fun x1 => if x1 = (0 : Int32) then some ((-1 : Int32), σ) else ((Pz_isNumber v2 σ).bind fun x4 => if x4 = (0 : Int32) then some ((-1 : Int32), σ) else (if v1 = v2 then some ((-1 : Int32), σ) else (if v3 < (0 : Int32) then some ((-1 : Int32), σ) else (if v3 ≤ (99 : Int32) then (if v4 < (0 : Int32) then some ((-1 : Int32), σ) else (if v4 ≤ (2 : Int32) then (if inb v1 12 = true then if inb v2 12 = true then (Sander_steam (rfv 9 v1.toNatClampNeg) (rfv 9 v2.toNatClampNeg) ((v3 + (σ.1 8 v1.toNatClampNeg)) + (σ.1 8 v2.toNatClampNeg)) σ).bind fun σ10 => if σ10.1 159 1 = (0 : Int32) then some ((-2 : Int32), σ10) else (if v4 = (0 : Int32) then some (σ10.1 159 2, σ10) else (if v4 = (1 : Int32) then some (σ10.1 159 3, σ10) else some ((σ10.1 159 4) + (10 : Int32), σ10))) else none else none) else some ((-1 : Int32), σ))) else some ((-1 : Int32), σ)))))
set_option maxRecDepth 20000 in
set_option maxHeartbeats 2000000 in
theorem t_Pz_steaming0 (v1 : Int32) (v2 : Int32) (v3 : Int32) (v4 : Int32)  (σ : MH) {o} (h : Pz_steaming0 v1 v2 v3 v4 σ = some o) : Go m_Pz_steaming 4 (some 0, [some (.ref 0), some (.int v1), some (.int v2), some (.int v3), some (.int v4)], [], σ) ((none, [], [.int o.1], o.2)) := by
  unfold Pz_steaming0 at h
  refine Go.t (Go_sg bk_Pz_steaming 0 1 (c2 := (some 1, [some (.ref 0), some (.int v1), some (.int v2), some (.int v3), some (.int v4)], [.int v1], σ)) (ps := []) rfl trivial) ?_
  obtain ⟨x1, q3, h⟩ := bdS h
  refine Go.t (Go_callS bk_Pz_steaming 1 rfl nk_Pz_isNumber tw552 tw553 (as := [.int v1]) (S := []) rfl rfl rfl (Nat.le_of_ble_eq_true rfl) (Nat.le_of_ble_eq_true rfl) (ev_Pz_isNumber _ _ q3)) ?_
  refine Go_if_eq bk_Pz_steaming 2 rfl (fun c21 => ?_) (fun c21 => ?_)
  · have h := ifT c21 h
    have h := Option.some.inj h
    subst h
    refine Go.t (Go_sg bk_Pz_steaming 14 1 (c2 := (some 30, [some (.ref 0), some (.int v1), some (.int v2), some (.int v3), some (.int v4)], [.int (-1 : Int32)], σ)) (ps := []) rfl trivial) ?_
    exact Go_reti bk_Pz_steaming 15 rfl
  · have h := ifF c21 h
    refine Go.t (Go_sg bk_Pz_steaming 3 1 (c2 := (some 8, [some (.ref 0), some (.int v1), some (.int v2), some (.int v3), some (.int v4)], [.int v2], σ)) (ps := []) rfl trivial) ?_
    obtain ⟨x4, q6, h⟩ := bdS h
    refine Go.t (Go_callS bk_Pz_steaming 4 rfl nk_Pz_isNumber tw552 tw553 (as := [.int v2]) (S := []) rfl rfl rfl (Nat.le_of_ble_eq_true rfl) (Nat.le_of_ble_eq_true rfl) (ev_Pz_isNumber _ _ q6)) ?_
    refine Go_if_eq bk_Pz_steaming 5 rfl (fun c20 => ?_) (fun c20 => ?_)
    · have h := ifT c20 h
      have h := Option.some.inj h
      subst h
      refine Go.t (Go_sg bk_Pz_steaming 14 1 (c2 := (some 30, [some (.ref 0), some (.int v1), some (.int v2), some (.int v3), some (.int v4)], [.int (-1 : Int32)], σ)) (ps := []) rfl trivial) ?_
      exact Go_reti bk_Pz_steaming 15 rfl
    · have h := ifF c20 h
      refine Go.t (Go_sg bk_Pz_steaming 6 2 (c2 := (some 16, [some (.ref 0), some (.int v1), some (.int v2), some (.int v3), some (.int v4)], [.int v2, .int v1], σ)) (ps := []) rfl trivial) ?_
      refine Go_icmp_eq bk_Pz_steaming 8 rfl (fun c19 => ?_) (fun c19 => ?_)
      · have h := ifT c19 h
        have h := Option.some.inj h
        subst h
        refine Go.t (Go_sg bk_Pz_steaming 14 1 (c2 := (some 30, [some (.ref 0), some (.int v1), some (.int v2), some (.int v3), some (.int v4)], [.int (-1 : Int32)], σ)) (ps := []) rfl trivial) ?_
        exact Go_reti bk_Pz_steaming 15 rfl
      · have h := ifF c19 h
        refine Go.t (Go_sg bk_Pz_steaming 9 1 (c2 := (some 20, [some (.ref 0), some (.int v1), some (.int v2), some (.int v3), some (.int v4)], [.int v3], σ)) (ps := []) rfl trivial) ?_
        refine Go_if_lt bk_Pz_steaming 10 rfl (fun c18 => ?_) (fun c18 => ?_)
        · have h := ifT c18 h
          have h := Option.some.inj h
          subst h
          refine Go.t (Go_sg bk_Pz_steaming 14 1 (c2 := (some 30, [some (.ref 0), some (.int v1), some (.int v2), some (.int v3), some (.int v4)], [.int (-1 : Int32)], σ)) (ps := []) rfl trivial) ?_
          exact Go_reti bk_Pz_steaming 15 rfl
        · have h := ifF c18 h
          refine Go.t (Go_sg bk_Pz_steaming 11 2 (c2 := (some 26, [some (.ref 0), some (.int v1), some (.int v2), some (.int v3), some (.int v4)], [.int (99 : Int32), .int v3], σ)) (ps := []) rfl trivial) ?_
          refine Go_icmp_le bk_Pz_steaming 13 rfl (fun c17 => ?_) (fun c17 => ?_)
          · have h := ifT c17 h
            refine Go.t (Go_sg bk_Pz_steaming 16 1 (c2 := (some 33, [some (.ref 0), some (.int v1), some (.int v2), some (.int v3), some (.int v4)], [.int v4], σ)) (ps := []) rfl trivial) ?_
            refine Go_if_lt bk_Pz_steaming 17 rfl (fun c16 => ?_) (fun c16 => ?_)
            · have h := ifT c16 h
              have h := Option.some.inj h
              subst h
              refine Go.t (Go_sg bk_Pz_steaming 21 1 (c2 := (some 43, [some (.ref 0), some (.int v1), some (.int v2), some (.int v3), some (.int v4)], [.int (-1 : Int32)], σ)) (ps := []) rfl trivial) ?_
              exact Go_reti bk_Pz_steaming 22 rfl
            · have h := ifF c16 h
              refine Go.t (Go_sg bk_Pz_steaming 18 2 (c2 := (some 39, [some (.ref 0), some (.int v1), some (.int v2), some (.int v3), some (.int v4)], [.int (2 : Int32), .int v4], σ)) (ps := []) rfl trivial) ?_
              refine Go_icmp_le bk_Pz_steaming 20 rfl (fun c15 => ?_) (fun c15 => ?_)
              · have h := ifT c15 h
                obtain ⟨g7, h⟩ := gdS h
                obtain ⟨g8, h⟩ := gdS h
                refine Go.t (Go_sg bk_Pz_steaming 23 25 (c2 := (some 87, [some (.ref 0), some (.int v1), some (.int v2), some (.int v3), some (.int v4)], [.int ((v3 + (σ.1 8 v1.toNatClampNeg)) + (σ.1 8 v2.toNatClampNeg)), .ref (rfv 9 v2.toNatClampNeg), .ref (rfv 9 v1.toNatClampNeg), .ref 159], σ)) (ps := [shk 0 = 10, shk 0 = 10, shk 1 = 3, IR 9 12 ∧ inb v1 12 = true, shk 0 = 10, shk 1 = 3, IR 9 12 ∧ inb v2 12 = true, shk 0 = 10, shk 1 = 3, IA 8 12 ∧ inb v1 12 = true, shk 0 = 10, shk 1 = 3, IA 8 12 ∧ inb v2 12 = true]) rfl ⟨rfl, rfl, rfl, ⟨⟨rfl, rfl⟩, g7⟩, rfl, rfl, ⟨⟨rfl, rfl⟩, g8⟩, rfl, rfl, ⟨⟨rfl, rfl⟩, g7⟩, rfl, rfl, ⟨⟨rfl, rfl⟩, g8⟩, trivial⟩) ?_
                obtain ⟨σ10, q11, h⟩ := bdS h
                refine Go.t (Go_callV bk_Pz_steaming 48 rfl nk_Sander_steam tw1142 tw1143 tw1144 (ci := 7) rfl (as := [.ref (rfv 9 v1.toNatClampNeg), .ref (rfv 9 v2.toNatClampNeg), .int ((v3 + (σ.1 8 v1.toNatClampNeg)) + (σ.1 8 v2.toNatClampNeg))]) (S := []) rfl rfl rfl rfl (Nat.le_of_ble_eq_true rfl) (Nat.le_of_ble_eq_true rfl) (ev_Sander_steam _ _ _ (rw_9 g7) (rw_9 g8) _ q11)) ?_
                refine Go.t (Go_sg bk_Pz_steaming 49 3 (c2 := (some 97, [some (.ref 0), some (.int v1), some (.int v2), some (.int v3), some (.int v4)], [.int (σ10.1 159 1)], σ10)) (ps := [shk 0 = 10, shk 159 = 7]) rfl ⟨rfl, rfl, trivial⟩) ?_
                refine Go_if_ne bk_Pz_steaming 52 rfl (fun c14 => ?_) (fun c14 => ?_)
                · have h := ifF c14 h
                  refine Go.t (Go_sg bk_Pz_steaming 55 1 (c2 := (some 105, [some (.ref 0), some (.int v1), some (.int v2), some (.int v3), some (.int v4)], [.int v4], σ10)) (ps := []) rfl trivial) ?_
                  refine Go_if_ne bk_Pz_steaming 56 rfl (fun c13 => ?_) (fun c13 => ?_)
                  · have h := ifF c13 h
                    refine Go.t (Go_sg bk_Pz_steaming 61 2 (c2 := (some 119, [some (.ref 0), some (.int v1), some (.int v2), some (.int v3), some (.int v4)], [.int (1 : Int32), .int v4], σ10)) (ps := []) rfl trivial) ?_
                    refine Go_icmp_ne bk_Pz_steaming 63 rfl (fun c12 => ?_) (fun c12 => ?_)
                    · have h := ifF c12 h
                      have h := Option.some.inj h
                      subst h
                      refine Go.t (Go_sg bk_Pz_steaming 68 5 (c2 := (some 142, [some (.ref 0), some (.int v1), some (.int v2), some (.int v3), some (.int v4)], [.int ((σ10.1 159 4) + (10 : Int32))], σ10)) (ps := [shk 0 = 10, shk 159 = 7]) rfl ⟨rfl, rfl, trivial⟩) ?_
                      exact Go_reti bk_Pz_steaming 73 rfl
                    · have h := ifT c12 h
                      refine Go.t (Go_sg bk_Pz_steaming 64 4 (c2 := (some 142, [some (.ref 0), some (.int v1), some (.int v2), some (.int v3), some (.int v4)], [.int (σ10.1 159 3)], σ10)) (ps := [shk 0 = 10, shk 159 = 7]) rfl ⟨rfl, rfl, trivial⟩) ?_
                      have h := Option.some.inj h
                      subst h
                      exact Go_reti bk_Pz_steaming 73 rfl
                  · have h := ifT c13 h
                    have h := Option.some.inj h
                    subst h
                    refine Go.t (Go_sg bk_Pz_steaming 57 3 (c2 := (some 115, [some (.ref 0), some (.int v1), some (.int v2), some (.int v3), some (.int v4)], [.int (σ10.1 159 2)], σ10)) (ps := [shk 0 = 10, shk 159 = 7]) rfl ⟨rfl, rfl, trivial⟩) ?_
                    exact Go_reti bk_Pz_steaming 60 rfl
                · have h := ifT c14 h
                  have h := Option.some.inj h
                  subst h
                  refine Go.t (Go_sg bk_Pz_steaming 53 1 (c2 := (some 102, [some (.ref 0), some (.int v1), some (.int v2), some (.int v3), some (.int v4)], [.int (-2 : Int32)], σ10)) (ps := []) rfl trivial) ?_
                  exact Go_reti bk_Pz_steaming 54 rfl
              · have h := ifF c15 h
                have h := Option.some.inj h
                subst h
                refine Go.t (Go_sg bk_Pz_steaming 21 1 (c2 := (some 43, [some (.ref 0), some (.int v1), some (.int v2), some (.int v3), some (.int v4)], [.int (-1 : Int32)], σ)) (ps := []) rfl trivial) ?_
                exact Go_reti bk_Pz_steaming 22 rfl
          · have h := ifF c17 h
            have h := Option.some.inj h
            subst h
            refine Go.t (Go_sg bk_Pz_steaming 14 1 (c2 := (some 30, [some (.ref 0), some (.int v1), some (.int v2), some (.int v3), some (.int v4)], [.int (-1 : Int32)], σ)) (ps := []) rfl trivial) ?_
            exact Go_reti bk_Pz_steaming 15 rfl
def Pz_steaming (v1 : Int32) (v2 : Int32) (v3 : Int32) (v4 : Int32) (σ : MH) : Option (Int32 × MH) := Pz_steaming0 v1 v2 v3 v4 σ
set_option maxRecDepth 20000 in
set_option maxHeartbeats 2000000 in
theorem ev_Pz_steaming (v1 : Int32) (v2 : Int32) (v3 : Int32) (v4 : Int32)  (σ : MH) {o} (h : Pz_steaming v1 v2 v3 v4 σ = some o) : Ev m_Pz_steaming 4 [.ref 0, .int v1, .int v2, .int v3, .int v4] σ (some (.int o.1)) o.2 := Ev.of2 (by decide +kernel) rfl (Nat.le_of_ble_eq_true rfl) ⟨.int, rfl, rfl⟩ (t_Pz_steaming0 v1 v2 v3 v4 σ h)
def cH_Pz_worn_88 (v1 : Int32) (v2 : Int32) (v3 : Int32) (v4 : Int32) (s : Int32 × MH) : MC := (some 88, [some (.ref 0), some (.int v1), some (.int v2), some (.int v3), some (.int v4), some (.int s.1), none], [], s.2)
def cR_Pz_worn_88 (v1 : Int32) (v2 : Int32) (v3 : Int32) (v4 : Int32) : ((Int32 × MH)) → MC := (fun r : Int32 × MH => ((none, [], [.int r.1], r.2) : MC))
def Pz_worn_b124 (v1 : Int32) (v2 : Int32) (v3 : Int32) (v4 : Int32) (v5 : Int32) (σ : MH) : Option (((Int32 × MH) ⊕ ((Int32 × MH)))) := (Land_wearDown 73 v1 v4 σ).bind fun σ22 => (Land_wearDown 73 v2 v4 σ22).bind fun σ25 => some (.inl (v5 + (1 : Int32), σ25))
set_option maxRecDepth 20000 in
set_option maxHeartbeats 2000000 in
theorem t_Pz_worn_b124 (v1 : Int32) (v2 : Int32) (v3 : Int32) (v4 : Int32) (v5 : Int32)   (σ : MH) {o} (h : Pz_worn_b124 v1 v2 v3 v4 v5 σ = some o) : Go m_Pz_worn 5 (some 124, [some (.ref 0), some (.int v1), some (.int v2), some (.int v3), some (.int v4), some (.int v5), none], [], σ) (cS (cH_Pz_worn_88 v1 v2 v3 v4) (cR_Pz_worn_88 v1 v2 v3 v4) o) := by
  unfold Pz_worn_b124 at h
  refine Go.t (Go_sg bk_Pz_worn 64 4 (c2 := (some 131, [some (.ref 0), some (.int v1), some (.int v2), some (.int v3), some (.int v4), some (.int v5), none], [.int v4, .int v1, .ref 73], σ)) (ps := [shk 0 = 10]) rfl ⟨rfl, trivial⟩) ?_
  obtain ⟨σ22, q23, h⟩ := bdS h
  refine Go.t (Go_callV bk_Pz_worn 68 rfl nk_Land_wearDown tw1153 tw922 tw923 (ci := 3) rfl (as := [.int v1, .int v4]) (S := []) rfl rfl rfl rfl (Nat.le_of_ble_eq_true rfl) (Nat.le_of_ble_eq_true rfl) (ev_Land_wearDown _ _ _ (Or.inr (Or.inr rfl)) _ q23)) ?_
  refine Go.t (Go_sg bk_Pz_worn 69 4 (c2 := (some 141, [some (.ref 0), some (.int v1), some (.int v2), some (.int v3), some (.int v4), some (.int v5), none], [.int v4, .int v2, .ref 73], σ22)) (ps := [shk 0 = 10]) rfl ⟨rfl, trivial⟩) ?_
  obtain ⟨σ25, q26, h⟩ := bdS h
  refine Go.t (Go_callV bk_Pz_worn 73 rfl nk_Land_wearDown tw1153 tw922 tw923 (ci := 3) rfl (as := [.int v2, .int v4]) (S := []) rfl rfl rfl rfl (Nat.le_of_ble_eq_true rfl) (Nat.le_of_ble_eq_true rfl) (ev_Land_wearDown _ _ _ (Or.inr (Or.inr rfl)) _ q26)) ?_
  refine Go.t (Go_sg bk_Pz_worn 74 2 (c2 := (some 88, [some (.ref 0), some (.int v1), some (.int v2), some (.int v3), some (.int v4), some (.int (v5 + (1 : Int32))), none], [], σ25)) (ps := []) rfl trivial) ?_
  have h := Option.some.inj h
  subst h
  exact Go.fg (LSub.cs (LSub.cs (LSub.cs (LSub.cs (LSub.cs (LSub.cs (LSub.cn (LSub.nil))))))))
def Pz_worn_l88 (v1 : Int32) (v2 : Int32) (v3 : Int32) (v4 : Int32) (v5 : Int32) (σ : MH) : Option (((Int32 × MH) ⊕ ((Int32 × MH)))) := if (99 : Int32) < v5 then some (.inr ((-2 : Int32), σ)) else ((Judge_slackOf 73 v1 v2 σ).bind fun x18 => if x18 < (0 : Int32) then (Pz_worn_b124 v1 v2 v3 v4 v5 σ) else (if v3 < x18 then (Pz_worn_b124 v1 v2 v3 v4 v5 σ) else some (.inr (v5, σ))))
set_option maxRecDepth 20000 in
set_option maxHeartbeats 2000000 in
theorem t_Pz_worn_l88 (v1 : Int32) (v2 : Int32) (v3 : Int32) (v4 : Int32) (v5 : Int32)  (σ : MH) {o} (h : Pz_worn_l88 v1 v2 v3 v4 v5 σ = some o) : Go m_Pz_worn 5 (cH_Pz_worn_88 v1 v2 v3 v4 (v5, σ)) (cS (cH_Pz_worn_88 v1 v2 v3 v4) (cR_Pz_worn_88 v1 v2 v3 v4) o) := by
  unfold Pz_worn_l88 at h
  unfold cH_Pz_worn_88
  refine Go.t (Go_sg bk_Pz_worn 46 2 (c2 := (some 92, [some (.ref 0), some (.int v1), some (.int v2), some (.int v3), some (.int v4), some (.int v5), none], [.int (99 : Int32), .int v5], σ)) (ps := []) rfl trivial) ?_
  refine Go_icmp_gt bk_Pz_worn 48 rfl (fun c29 => ?_) (fun c29 => ?_)
  · have h := ifT c29 h
    have h := Option.some.inj h
    subst h
    refine Go.t (Go_sg bk_Pz_worn 76 1 (c2 := (some 152, [some (.ref 0), some (.int v1), some (.int v2), some (.int v3), some (.int v4), some (.int v5), none], [.int (-2 : Int32)], σ)) (ps := []) rfl trivial) ?_
    exact Go_reti bk_Pz_worn 77 rfl
  · have h := ifF c29 h
    refine Go.t (Go_sg bk_Pz_worn 49 6 (c2 := (some 105, [some (.ref 0), some (.int v1), some (.int v2), some (.int v3), some (.int v4), some (.int v5), none], [.int v2, .int v1, .ref 73, .ref 126], σ)) (ps := [shk 0 = 10, shk 0 = 10]) rfl ⟨rfl, rfl, trivial⟩) ?_
    obtain ⟨x18, q20, h⟩ := bdS h
    refine Go.t (Go_callV bk_Pz_worn 55 rfl nk_Judge_slackOf tw971 tw868 tw869 (ci := 2) rfl (as := [.ref 73, .int v1, .int v2]) (S := []) rfl rfl rfl rfl (Nat.le_of_ble_eq_true rfl) (Nat.le_of_ble_eq_true rfl) (ev_Judge_slackOf _ _ _ (Or.inr (Or.inr rfl)) _ q20)) ?_
    refine Go.t (Go_sg bk_Pz_worn 56 2 (c2 := (some 112, [some (.ref 0), some (.int v1), some (.int v2), some (.int v3), some (.int v4), some (.int v5), some (.int x18)], [.int x18], σ)) (ps := []) rfl trivial) ?_
    refine Go_if_lt bk_Pz_worn 58 rfl (fun c28 => ?_) (fun c28 => ?_)
    · have h := ifT c28 h
      exact Go.t (Go.fg (LSub.cs (LSub.cs (LSub.cs (LSub.cs (LSub.cs (LSub.cs (LSub.cn (LSub.nil))))))))) (t_Pz_worn_b124 v1 v2 v3 v4 v5 σ h)
    · have h := ifF c28 h
      refine Go.t (Go_sg bk_Pz_worn 59 2 (c2 := (some 118, [some (.ref 0), some (.int v1), some (.int v2), some (.int v3), some (.int v4), some (.int v5), some (.int x18)], [.int v3, .int x18], σ)) (ps := []) rfl trivial) ?_
      refine Go_icmp_gt bk_Pz_worn 61 rfl (fun c27 => ?_) (fun c27 => ?_)
      · have h := ifT c27 h
        exact Go.t (Go.fg (LSub.cs (LSub.cs (LSub.cs (LSub.cs (LSub.cs (LSub.cs (LSub.cn (LSub.nil))))))))) (t_Pz_worn_b124 v1 v2 v3 v4 v5 σ h)
      · have h := ifF c27 h
        have h := Option.some.inj h
        subst h
        refine Go.t (Go_sg bk_Pz_worn 62 1 (c2 := (some 123, [some (.ref 0), some (.int v1), some (.int v2), some (.int v3), some (.int v4), some (.int v5), some (.int x18)], [.int v5], σ)) (ps := []) rfl trivial) ?_
        exact Go_reti bk_Pz_worn 63 rfl
def Pz_worn_L88 (v1 : Int32) (v2 : Int32) (v3 : Int32) (v4 : Int32) (s : Int32 × MH) : Option ((Int32 × MH)) := itr (fun s : Int32 × MH => Pz_worn_l88 v1 v2 v3 v4 s.1 s.2) FU s
set_option maxRecDepth 20000 in
set_option maxHeartbeats 2000000 in
theorem t_Pz_worn_L88 (v1 : Int32) (v2 : Int32) (v3 : Int32) (v4 : Int32)  (s : Int32 × MH) {r} (h : Pz_worn_L88 v1 v2 v3 v4 s = some r) : Go m_Pz_worn 5 (cH_Pz_worn_88 v1 v2 v3 v4 s) (cR_Pz_worn_88 v1 v2 v3 v4 r) := Go_itr (fun s o ho => t_Pz_worn_l88 v1 v2 v3 v4 s.1 s.2 ho) FU s r h
def Pz_worn0 (v1 : Int32) (v2 : Int32) (σ : MH) : Option (Int32 × MH) := (Land_isAlive 1 v1 σ).bind fun x1 => if x1 = (0 : Int32) then some ((-1 : Int32), σ) else ((Land_isAlive 1 v2 σ).bind fun x4 => if x4 = (0 : Int32) then some ((-1 : Int32), σ) else (if inb v1 12 = true then if inb v2 12 = true then if σ.1 2 v1.toNatClampNeg = σ.1 2 v2.toNatClampNeg then some ((-1 : Int32), σ) else ((Judge_allowance 1 v1 v2 σ).bind fun (x9, σ10) => (Judge_wearOf 1 v1 v2 σ10).bind fun (x12, σ13) => (Land_copyFrom 73 1 σ13).bind fun σ16 => (Pz_worn_L88 v1 v2 x9 x12 ((0 : Int32), σ16)).bind fun z30 => some (z30.1, z30.2)) else none else none))
set_option maxRecDepth 20000 in
set_option maxHeartbeats 2000000 in
theorem t_Pz_worn0 (v1 : Int32) (v2 : Int32)  (σ : MH) {o} (h : Pz_worn0 v1 v2 σ = some o) : Go m_Pz_worn 5 (some 0, [some (.ref 0), some (.int v1), some (.int v2), none, none, none, none], [], σ) ((none, [], [.int o.1], o.2)) := by
  unfold Pz_worn0 at h
  refine Go.t (Go_sg bk_Pz_worn 0 3 (c2 := (some 5, [some (.ref 0), some (.int v1), some (.int v2), none, none, none, none], [.int v1, .ref 1], σ)) (ps := [shk 0 = 10]) rfl ⟨rfl, trivial⟩) ?_
  obtain ⟨x1, q3, h⟩ := bdS h
  refine Go.t (Go_callV bk_Pz_worn 3 rfl nk_Land_isAlive tw568 tw569 tw570 (ci := 3) rfl (as := [.int v1]) (S := []) rfl rfl rfl rfl (Nat.le_of_ble_eq_true rfl) (Nat.le_of_ble_eq_true rfl) (ev_Land_isAlive _ _ (Or.inl rfl) _ q3)) ?_
  refine Go_if_eq bk_Pz_worn 4 rfl (fun c34 => ?_) (fun c34 => ?_)
  · have h := ifT c34 h
    have h := Option.some.inj h
    subst h
    refine Go.t (Go_sg bk_Pz_worn 21 1 (c2 := (some 44, [some (.ref 0), some (.int v1), some (.int v2), none, none, none, none], [.int (-1 : Int32)], σ)) (ps := []) rfl trivial) ?_
    exact Go_reti bk_Pz_worn 22 rfl
  · have h := ifF c34 h
    refine Go.t (Go_sg bk_Pz_worn 5 3 (c2 := (some 16, [some (.ref 0), some (.int v1), some (.int v2), none, none, none, none], [.int v2, .ref 1], σ)) (ps := [shk 0 = 10]) rfl ⟨rfl, trivial⟩) ?_
    obtain ⟨x4, q6, h⟩ := bdS h
    refine Go.t (Go_callV bk_Pz_worn 8 rfl nk_Land_isAlive tw568 tw569 tw570 (ci := 3) rfl (as := [.int v2]) (S := []) rfl rfl rfl rfl (Nat.le_of_ble_eq_true rfl) (Nat.le_of_ble_eq_true rfl) (ev_Land_isAlive _ _ (Or.inl rfl) _ q6)) ?_
    refine Go_if_eq bk_Pz_worn 9 rfl (fun c33 => ?_) (fun c33 => ?_)
    · have h := ifT c33 h
      have h := Option.some.inj h
      subst h
      refine Go.t (Go_sg bk_Pz_worn 21 1 (c2 := (some 44, [some (.ref 0), some (.int v1), some (.int v2), none, none, none, none], [.int (-1 : Int32)], σ)) (ps := []) rfl trivial) ?_
      exact Go_reti bk_Pz_worn 22 rfl
    · have h := ifF c33 h
      obtain ⟨g7, h⟩ := gdS h
      obtain ⟨g8, h⟩ := gdS h
      refine Go.t (Go_sg bk_Pz_worn 10 10 (c2 := (some 40, [some (.ref 0), some (.int v1), some (.int v2), none, none, none, none], [.int (σ.1 2 v2.toNatClampNeg), .int (σ.1 2 v1.toNatClampNeg)], σ)) (ps := [shk 0 = 10, shk 1 = 3, IA 2 12 ∧ inb v1 12 = true, shk 0 = 10, shk 1 = 3, IA 2 12 ∧ inb v2 12 = true]) rfl ⟨rfl, rfl, ⟨⟨rfl, rfl⟩, g7⟩, rfl, rfl, ⟨⟨rfl, rfl⟩, g8⟩, trivial⟩) ?_
      refine Go_icmp_ne bk_Pz_worn 20 rfl (fun c32 => ?_) (fun c32 => ?_)
      · have h := ifF c32 h
        refine Go.t (Go_sg bk_Pz_worn 23 6 (c2 := (some 55, [some (.ref 0), some (.int v1), some (.int v2), none, none, none, none], [.int v2, .int v1, .ref 1, .ref 126], σ)) (ps := [shk 0 = 10, shk 0 = 10]) rfl ⟨rfl, rfl, trivial⟩) ?_
        obtain ⟨⟨x9, σ10⟩, q11, h⟩ := bdS h
        dsimp only at h
        refine Go.t (Go_callV bk_Pz_worn 29 rfl nk_Judge_allowance tw1151 tw878 tw879 (ci := 2) rfl (as := [.ref 1, .int v1, .int v2]) (S := []) rfl rfl rfl rfl (Nat.le_of_ble_eq_true rfl) (Nat.le_of_ble_eq_true rfl) (ev_Judge_allowance _ _ _ (Or.inl rfl) _ q11)) ?_
        refine Go.t (Go_sg bk_Pz_worn 30 7 (c2 := (some 69, [some (.ref 0), some (.int v1), some (.int v2), some (.int x9), none, none, none], [.int v2, .int v1, .ref 1, .ref 126], σ10)) (ps := [shk 0 = 10, shk 0 = 10]) rfl ⟨rfl, rfl, trivial⟩) ?_
        obtain ⟨⟨x12, σ13⟩, q14, h⟩ := bdS h
        dsimp only at h
        refine Go.t (Go_callV bk_Pz_worn 37 rfl nk_Judge_wearOf tw1152 tw918 tw919 (ci := 2) rfl (as := [.ref 1, .int v1, .int v2]) (S := []) rfl rfl rfl rfl (Nat.le_of_ble_eq_true rfl) (Nat.le_of_ble_eq_true rfl) (ev_Judge_wearOf _ _ _ (Or.inl rfl) _ q14)) ?_
        refine Go.t (Go_sg bk_Pz_worn 38 5 (c2 := (some 82, [some (.ref 0), some (.int v1), some (.int v2), some (.int x9), some (.int x12), none, none], [.ref 1, .ref 73], σ13)) (ps := [shk 0 = 10, shk 0 = 10]) rfl ⟨rfl, rfl, trivial⟩) ?_
        obtain ⟨σ16, q17, h⟩ := bdS h
        refine Go.t (Go_callV bk_Pz_worn 43 rfl nk_Land_copyFrom tw944 tw945 tw946 (ci := 3) rfl (as := [.ref 1]) (S := []) rfl rfl rfl rfl (Nat.le_of_ble_eq_true rfl) (Nat.le_of_ble_eq_true rfl) (ev_Land_copyFrom _ _ (Or.inr (Or.inr rfl)) (Or.inl rfl) _ q17)) ?_
        refine Go.t (Go_sg bk_Pz_worn 44 2 (c2 := (some 88, [some (.ref 0), some (.int v1), some (.int v2), some (.int x9), some (.int x12), some (.int (0 : Int32)), none], [], σ16)) (ps := []) rfl trivial) ?_
        obtain ⟨z30, q31, h⟩ := bdS h
        refine Go.t (Go.t (Go.fg (LSub.cs (LSub.cs (LSub.cs (LSub.cs (LSub.cs (LSub.cs (LSub.cn (LSub.nil))))))))) (t_Pz_worn_L88 v1 v2 x9 x12 _ q31)) ?_
        have h := Option.some.inj h
        subst h
        exact Go.rf
      · have h := ifT c32 h
        have h := Option.some.inj h
        subst h
        refine Go.t (Go_sg bk_Pz_worn 21 1 (c2 := (some 44, [some (.ref 0), some (.int v1), some (.int v2), none, none, none, none], [.int (-1 : Int32)], σ)) (ps := []) rfl trivial) ?_
        exact Go_reti bk_Pz_worn 22 rfl
def Pz_worn (v1 : Int32) (v2 : Int32) (σ : MH) : Option (Int32 × MH) := Pz_worn0 v1 v2 σ
set_option maxRecDepth 20000 in
set_option maxHeartbeats 2000000 in
theorem ev_Pz_worn (v1 : Int32) (v2 : Int32)  (σ : MH) {o} (h : Pz_worn v1 v2 σ = some o) : Ev m_Pz_worn 5 [.ref 0, .int v1, .int v2] σ (some (.int o.1)) o.2 := Ev.of2 (by decide +kernel) rfl (Nat.le_of_ble_eq_true rfl) ⟨.int, rfl, rfl⟩ (t_Pz_worn0 v1 v2 σ h)
def cH_Pz_cut_25 (v2 : Nat) (v3 : Int32) (v4 : Int32) (v5 : Int32) (s : Int32 × MH) : MC := (some 25, [some (.ref 0), none, some (.ref v2), some (.int v3), some (.int v4), some (.int v5), some (.int s.1)], [], s.2)
def cR_Pz_cut_25 (v2 : Nat) (v3 : Int32) (v4 : Int32) (v5 : Int32) : ((MH)) → MC := (fun r : MH => ((none, [], [], r) : MC))
def Pz_cut_b60 (v2 : Nat) (v3 : Int32) (v4 : Int32) (v5 : Int32) (v6 : Int32) (s0 : Int32) (s1 : Int32) (σ : MH) : Option (((Int32 × MH) ⊕ ((MH)))) := if inb s1 8 = true then some (.inl (v6 + (1 : Int32), sI σ 165 s1.toNatClampNeg (s0 + v5))) else none
set_option maxRecDepth 20000 in
set_option maxHeartbeats 2000000 in
theorem t_Pz_cut_b60 (v2 : Nat) (v3 : Int32) (v4 : Int32) (v5 : Int32) (v6 : Int32) (s0 : Int32) (s1 : Int32) (hv2 : IA v2 8)  (σ : MH) {o} (h : Pz_cut_b60 v2 v3 v4 v5 v6 s0 s1 σ = some o) : Go m_Pz_cut 1 (some 60, [some (.ref 0), none, some (.ref v2), some (.int v3), some (.int v4), some (.int v5), some (.int v6)], [.int s0, .int s1, .ref 165], σ) (cS (cH_Pz_cut_25 v2 v3 v4 v5) (cR_Pz_cut_25 v2 v3 v4 v5) o) := by
  unfold Pz_cut_b60 at h
  obtain ⟨g2, h⟩ := gdS h
  refine Go.t (Go_sg bk_Pz_cut 38 5 (c2 := (some 25, [some (.ref 0), none, some (.ref v2), some (.int v3), some (.int v4), some (.int v5), some (.int (v6 + (1 : Int32)))], [], sI σ 165 s1.toNatClampNeg (s0 + v5))) (ps := [IA 165 8 ∧ inb s1 8 = true]) rfl ⟨⟨⟨rfl, rfl⟩, g2⟩, trivial⟩) ?_
  have h := Option.some.inj h
  subst h
  exact Go.fg (LSub.cs (LSub.cn (LSub.cs (LSub.cs (LSub.cs (LSub.cs (LSub.cs (LSub.nil))))))))
def Pz_cut_l25 (v2 : Nat) (v3 : Int32) (v4 : Int32) (v5 : Int32) (v6 : Int32) (σ : MH) : Option (((Int32 × MH) ⊕ ((MH)))) := if (8 : Int32) ≤ v6 then some (.inr (σ)) else (if v4 = (0 : Int32) then (if inb v6 8 = true then Pz_cut_b60 v2 v3 v4 v5 v6 (σ.1 v2 v6.toNatClampNeg) ((v6 + v3) &&& (7 : Int32)) σ else none) else (if inb v6 8 = true then Pz_cut_b60 v2 v3 v4 v5 v6 (-(σ.1 v2 v6.toNatClampNeg)) ((v6 + v3) &&& (7 : Int32)) σ else none))
set_option maxRecDepth 20000 in
set_option maxHeartbeats 2000000 in
theorem t_Pz_cut_l25 (v2 : Nat) (v3 : Int32) (v4 : Int32) (v5 : Int32) (v6 : Int32) (hv2 : IA v2 8) (σ : MH) {o} (h : Pz_cut_l25 v2 v3 v4 v5 v6 σ = some o) : Go m_Pz_cut 1 (cH_Pz_cut_25 v2 v3 v4 v5 (v6, σ)) (cS (cH_Pz_cut_25 v2 v3 v4 v5) (cR_Pz_cut_25 v2 v3 v4 v5) o) := by
  unfold Pz_cut_l25 at h
  unfold cH_Pz_cut_25
  refine Go.t (Go_sg bk_Pz_cut 18 2 (c2 := (some 29, [some (.ref 0), none, some (.ref v2), some (.int v3), some (.int v4), some (.int v5), some (.int v6)], [.int (8 : Int32), .int v6], σ)) (ps := []) rfl trivial) ?_
  refine Go_icmp_ge bk_Pz_cut 20 rfl (fun c5 => ?_) (fun c5 => ?_)
  · have h := ifT c5 h
    have h := Option.some.inj h
    subst h
    exact Go_ret0 bk_Pz_cut 43 rfl
  · have h := ifF c5 h
    refine Go.t (Go_sg bk_Pz_cut 21 8 (c2 := (some 45, [some (.ref 0), none, some (.ref v2), some (.int v3), some (.int v4), some (.int v5), some (.int v6)], [.int v4, .int ((v6 + v3) &&& (7 : Int32)), .ref 165], σ)) (ps := [shk 0 = 10]) rfl ⟨rfl, trivial⟩) ?_
    refine Go_if_ne bk_Pz_cut 29 rfl (fun c4 => ?_) (fun c4 => ?_)
    · have h := ifF c4 h
      obtain ⟨g1, h⟩ := gdS h
      refine Go.t (Go_sg bk_Pz_cut 34 4 (c2 := (some 60, [some (.ref 0), none, some (.ref v2), some (.int v3), some (.int v4), some (.int v5), some (.int v6)], [.int (-(σ.1 v2 v6.toNatClampNeg)), .int ((v6 + v3) &&& (7 : Int32)), .ref 165], σ)) (ps := [IA v2 8 ∧ inb v6 8 = true]) rfl ⟨⟨hv2, g1⟩, trivial⟩) ?_
      exact Go.t (Go.fg (LSub.cs (LSub.cn (LSub.cs (LSub.cs (LSub.cs (LSub.cs (LSub.cs (LSub.nil))))))))) (t_Pz_cut_b60 v2 v3 v4 v5 v6 (-(σ.1 v2 v6.toNatClampNeg)) ((v6 + v3) &&& (7 : Int32)) hv2 σ h)
    · have h := ifT c4 h
      obtain ⟨g3, h⟩ := gdS h
      refine Go.t (Go_sg bk_Pz_cut 30 4 (c2 := (some 60, [some (.ref 0), none, some (.ref v2), some (.int v3), some (.int v4), some (.int v5), some (.int v6)], [.int (σ.1 v2 v6.toNatClampNeg), .int ((v6 + v3) &&& (7 : Int32)), .ref 165], σ)) (ps := [IA v2 8 ∧ inb v6 8 = true]) rfl ⟨⟨hv2, g3⟩, trivial⟩) ?_
      exact Go.t (Go.fg (LSub.cs (LSub.cn (LSub.cs (LSub.cs (LSub.cs (LSub.cs (LSub.cs (LSub.nil))))))))) (t_Pz_cut_b60 v2 v3 v4 v5 v6 (σ.1 v2 v6.toNatClampNeg) ((v6 + v3) &&& (7 : Int32)) hv2 σ h)
def Pz_cut_L25 (v2 : Nat) (v3 : Int32) (v4 : Int32) (v5 : Int32) (s : Int32 × MH) : Option ((MH)) := itr (fun s : Int32 × MH => Pz_cut_l25 v2 v3 v4 v5 s.1 s.2) FU s
set_option maxRecDepth 20000 in
set_option maxHeartbeats 2000000 in
theorem t_Pz_cut_L25 (v2 : Nat) (v3 : Int32) (v4 : Int32) (v5 : Int32) (hv2 : IA v2 8) (s : Int32 × MH) {r} (h : Pz_cut_L25 v2 v3 v4 v5 s = some r) : Go m_Pz_cut 1 (cH_Pz_cut_25 v2 v3 v4 v5 s) (cR_Pz_cut_25 v2 v3 v4 v5 r) := Go_itr (fun s o ho => t_Pz_cut_l25 v2 v3 v4 v5 s.1 hv2 s.2 ho) FU s r h
def Pz_cut0 (v1 : Int32) (v2 : Nat) (σ : MH) : Option (MH) := (Pz_cut_L25 v2 (v1 / (14 : Int32)) ((jrem v1 (14 : Int32)) / (7 : Int32)) ((jrem v1 (7 : Int32)) - (3 : Int32)) ((0 : Int32), σ)).bind fun z6 => some (z6)
set_option maxRecDepth 20000 in
set_option maxHeartbeats 2000000 in
theorem t_Pz_cut0 (v1 : Int32) (v2 : Nat) (hv2 : IA v2 8) (σ : MH) {o} (h : Pz_cut0 v1 v2 σ = some o) : Go m_Pz_cut 1 (some 0, [some (.ref 0), some (.int v1), some (.ref v2), none, none, none, none], [], σ) ((none, [], [], o)) := by
  unfold Pz_cut0 at h
  refine Go.t (Go_sg bk_Pz_cut 0 18 (c2 := (some 25, [some (.ref 0), some (.int v1), some (.ref v2), some (.int (v1 / (14 : Int32))), some (.int ((jrem v1 (14 : Int32)) / (7 : Int32))), some (.int ((jrem v1 (7 : Int32)) - (3 : Int32))), some (.int (0 : Int32))], [], σ)) (ps := [(14 : Int32) ≠ 0, (14 : Int32) ≠ 0, (7 : Int32) ≠ 0, (7 : Int32) ≠ 0]) rfl ⟨(by decide), (by decide), (by decide), (by decide), trivial⟩) ?_
  obtain ⟨z6, q7, h⟩ := bdS h
  refine Go.t (Go.t (Go.fg (LSub.cs (LSub.cn (LSub.cs (LSub.cs (LSub.cs (LSub.cs (LSub.cs (LSub.nil))))))))) (t_Pz_cut_L25 v2 (v1 / (14 : Int32)) ((jrem v1 (14 : Int32)) / (7 : Int32)) ((jrem v1 (7 : Int32)) - (3 : Int32)) hv2 _ q7)) ?_
  have h := Option.some.inj h
  subst h
  exact Go.rf
def Pz_cut (v1 : Int32) (v2 : Nat) (σ : MH) : Option (MH) := Pz_cut0 v1 v2 σ
set_option maxRecDepth 20000 in
set_option maxHeartbeats 2000000 in
theorem ev_Pz_cut (v1 : Int32) (v2 : Nat) (hv2 : IA v2 8) (σ : MH) {o} (h : Pz_cut v1 v2 σ = some o) : Ev m_Pz_cut 1 [.ref 0, .int v1, .ref v2] σ none o := Ev.of2 (by decide +kernel) rfl (Nat.le_of_ble_eq_true rfl) rfl (t_Pz_cut0 v1 v2 hv2 σ h)
def cH_Pz_sameRow_2 (v0 : Nat) (v1 : Nat) (σ : MH) (s : Int32) : MC := (some 2, [some (.ref v0), some (.ref v1), some (.int s)], [], σ)
def cR_Pz_sameRow_2 (v0 : Nat) (v1 : Nat) (σ : MH) : ((Int32)) → MC := (fun r : Int32 => ((none, [], [.int r], σ) : MC))
def Pz_sameRow_l2 (v0 : Nat) (v1 : Nat) (v2 : Int32) (σ : MH) : Option (((Int32) ⊕ ((Int32)))) := if (8 : Int32) ≤ v2 then some (.inr ((1 : Int32))) else (if inb v2 8 = true then if σ.1 v0 v2.toNatClampNeg = σ.1 v1 v2.toNatClampNeg then some (.inl (v2 + (1 : Int32))) else some (.inr ((0 : Int32))) else none)
set_option maxRecDepth 20000 in
set_option maxHeartbeats 2000000 in
theorem t_Pz_sameRow_l2 (v0 : Nat) (v1 : Nat) (v2 : Int32) (hv0 : IA v0 8) (hv1 : IA v1 8) (σ : MH) {o} (h : Pz_sameRow_l2 v0 v1 v2 σ = some o) : Go m_Pz_sameRow 1 (cH_Pz_sameRow_2 v0 v1 σ (v2)) (cS (cH_Pz_sameRow_2 v0 v1 σ) (cR_Pz_sameRow_2 v0 v1 σ) o) := by
  unfold Pz_sameRow_l2 at h
  unfold cH_Pz_sameRow_2
  refine Go.t (Go_sg bk_Pz_sameRow 2 2 (c2 := (some 5, [some (.ref v0), some (.ref v1), some (.int v2)], [.int (8 : Int32), .int v2], σ)) (ps := []) rfl trivial) ?_
  refine Go_icmp_ge bk_Pz_sameRow 4 rfl (fun c3 => ?_) (fun c3 => ?_)
  · have h := ifT c3 h
    have h := Option.some.inj h
    subst h
    refine Go.t (Go_sg bk_Pz_sameRow 16 1 (c2 := (some 26, [some (.ref v0), some (.ref v1), some (.int v2)], [.int (1 : Int32)], σ)) (ps := []) rfl trivial) ?_
    exact Go_reti bk_Pz_sameRow 17 rfl
  · have h := ifF c3 h
    obtain ⟨g1, h⟩ := gdS h
    refine Go.t (Go_sg bk_Pz_sameRow 5 6 (c2 := (some 14, [some (.ref v0), some (.ref v1), some (.int v2)], [.int (σ.1 v1 v2.toNatClampNeg), .int (σ.1 v0 v2.toNatClampNeg)], σ)) (ps := [IA v0 8 ∧ inb v2 8 = true, IA v1 8 ∧ inb v2 8 = true]) rfl ⟨⟨hv0, g1⟩, ⟨hv1, g1⟩, trivial⟩) ?_
    refine Go_icmp_eq bk_Pz_sameRow 11 rfl (fun c2 => ?_) (fun c2 => ?_)
    · have h := ifT c2 h
      refine Go.t (Go_sg bk_Pz_sameRow 14 2 (c2 := (some 2, [some (.ref v0), some (.ref v1), some (.int (v2 + (1 : Int32)))], [], σ)) (ps := []) rfl trivial) ?_
      have h := Option.some.inj h
      subst h
      exact Go.fg (LSub.cs (LSub.cs (LSub.cs (LSub.nil))))
    · have h := ifF c2 h
      have h := Option.some.inj h
      subst h
      refine Go.t (Go_sg bk_Pz_sameRow 12 1 (c2 := (some 18, [some (.ref v0), some (.ref v1), some (.int v2)], [.int (0 : Int32)], σ)) (ps := []) rfl trivial) ?_
      exact Go_reti bk_Pz_sameRow 13 rfl
def Pz_sameRow_L2 (v0 : Nat) (v1 : Nat) (σ : MH) (s : Int32) : Option ((Int32)) := itr (fun s : Int32 => Pz_sameRow_l2 v0 v1 s σ) FU s
set_option maxRecDepth 20000 in
set_option maxHeartbeats 2000000 in
theorem t_Pz_sameRow_L2 (v0 : Nat) (v1 : Nat) (hv0 : IA v0 8) (hv1 : IA v1 8) (σ : MH) (s : Int32) {r} (h : Pz_sameRow_L2 v0 v1 σ s = some r) : Go m_Pz_sameRow 1 (cH_Pz_sameRow_2 v0 v1 σ s) (cR_Pz_sameRow_2 v0 v1 σ r) := Go_itr (fun s o ho => t_Pz_sameRow_l2 v0 v1 s hv0 hv1 σ ho) FU s r h
def Pz_sameRow0 (v0 : Nat) (v1 : Nat) (σ : MH) : Option (Int32) := (Pz_sameRow_L2 v0 v1 σ ((0 : Int32))).bind fun z4 => some (z4)
set_option maxRecDepth 20000 in
set_option maxHeartbeats 2000000 in
theorem t_Pz_sameRow0 (v0 : Nat) (v1 : Nat) (hv0 : IA v0 8) (hv1 : IA v1 8) (σ : MH) {o} (h : Pz_sameRow0 v0 v1 σ = some o) : Go m_Pz_sameRow 1 (some 0, [some (.ref v0), some (.ref v1), none], [], σ) ((none, [], [.int o], σ)) := by
  unfold Pz_sameRow0 at h
  refine Go.t (Go_sg bk_Pz_sameRow 0 2 (c2 := (some 2, [some (.ref v0), some (.ref v1), some (.int (0 : Int32))], [], σ)) (ps := []) rfl trivial) ?_
  obtain ⟨z4, q5, h⟩ := bdS h
  refine Go.t (Go.t (Go.fg (LSub.cs (LSub.cs (LSub.cs (LSub.nil))))) (t_Pz_sameRow_L2 v0 v1 hv0 hv1 σ _ q5)) ?_
  have h := Option.some.inj h
  subst h
  exact Go.rf
def Pz_sameRow (v0 : Nat) (v1 : Nat) (σ : MH) : Option (Int32) := bzp (Pz_sameRow0 v0 v1 σ)
set_option maxRecDepth 20000 in
set_option maxHeartbeats 2000000 in
theorem ev_Pz_sameRow (v0 : Nat) (v1 : Nat) (hv0 : IA v0 8) (hv1 : IA v1 8) (σ : MH) {o} (h : Pz_sameRow v0 v1 σ = some o) : Ev m_Pz_sameRow 1 [.ref v0, .ref v1] σ (some (.int o)) σ := Ev.of2 (by decide +kernel) rfl (Nat.le_of_ble_eq_true rfl) ⟨.boolean, rfl, nrB (bzp2 h)⟩ (t_Pz_sameRow0 v0 v1 hv0 hv1 σ (bzp1 h))
def cH_Pz_rulesAll_2 (v1 : Int32) (v2 : Int32) (s : Int32 × MH) : MC := (some 2, [some (.ref 0), some (.int v1), some (.int v2), some (.int s.1), none, none], [], s.2)
def cR_Pz_rulesAll_2 (v1 : Int32) (v2 : Int32) : ((Int32 × MH)) → MC := (fun r : Int32 × MH => ((none, [], [.int r.1], r.2) : MC))
def Pz_rulesAll_l2 (v1 : Int32) (v2 : Int32) (v3 : Int32) (σ : MH) : Option (((Int32 × MH) ⊕ ((Int32 × MH)))) := if v2 ≤ v3 then some (.inr ((1 : Int32), σ)) else (if inb ((2 : Int32) * v3) 260 = true then if inb (((2 : Int32) * v3) + (1 : Int32)) 260 = true then (Pz_isNumber (σ.1 110 ((2 : Int32) * v3).toNatClampNeg) σ).bind fun x3 => if x3 = (0 : Int32) then some (.inr ((0 : Int32), σ)) else ((Pz_isNumber (σ.1 110 (((2 : Int32) * v3) + (1 : Int32)).toNatClampNeg) σ).bind fun x6 => if x6 = (0 : Int32) then some (.inr ((0 : Int32), σ)) else (if inb (σ.1 110 ((2 : Int32) * v3).toNatClampNeg) 12 = true then (Pz_cut v1 (rfv 9 (σ.1 110 ((2 : Int32) * v3).toNatClampNeg).toNatClampNeg) σ).bind fun σ11 => if inb (σ.1 110 (((2 : Int32) * v3) + (1 : Int32)).toNatClampNeg) 12 = true then (Pz_sameRow 165 (rfv 9 (σ.1 110 (((2 : Int32) * v3) + (1 : Int32)).toNatClampNeg).toNatClampNeg) σ11).bind fun x14 => if x14 = (0 : Int32) then some (.inr ((0 : Int32), σ11)) else some (.inl (v3 + (1 : Int32), σ11)) else none else none)) else none else none)
set_option maxRecDepth 20000 in
set_option maxHeartbeats 2000000 in
theorem t_Pz_rulesAll_l2 (v1 : Int32) (v2 : Int32) (v3 : Int32)  (σ : MH) {o} (h : Pz_rulesAll_l2 v1 v2 v3 σ = some o) : Go m_Pz_rulesAll 2 (cH_Pz_rulesAll_2 v1 v2 (v3, σ)) (cS (cH_Pz_rulesAll_2 v1 v2) (cR_Pz_rulesAll_2 v1 v2) o) := by
  unfold Pz_rulesAll_l2 at h
  unfold cH_Pz_rulesAll_2
  refine Go.t (Go_sg bk_Pz_rulesAll 2 2 (c2 := (some 4, [some (.ref 0), some (.int v1), some (.int v2), some (.int v3), none, none], [.int v2, .int v3], σ)) (ps := []) rfl trivial) ?_
  refine Go_icmp_ge bk_Pz_rulesAll 4 rfl (fun c20 => ?_) (fun c20 => ?_)
  · have h := ifT c20 h
    have h := Option.some.inj h
    subst h
    refine Go.t (Go_sg bk_Pz_rulesAll 52 1 (c2 := (some 97, [some (.ref 0), some (.int v1), some (.int v2), some (.int v3), none, none], [.int (1 : Int32)], σ)) (ps := []) rfl trivial) ?_
    exact Go_reti bk_Pz_rulesAll 53 rfl
  · have h := ifF c20 h
    obtain ⟨g1, h⟩ := gdS h
    obtain ⟨g2, h⟩ := gdS h
    refine Go.t (Go_sg bk_Pz_rulesAll 5 19 (c2 := (some 37, [some (.ref 0), some (.int v1), some (.int v2), some (.int v3), some (.int (σ.1 110 ((2 : Int32) * v3).toNatClampNeg)), some (.int (σ.1 110 (((2 : Int32) * v3) + (1 : Int32)).toNatClampNeg))], [.int (σ.1 110 ((2 : Int32) * v3).toNatClampNeg)], σ)) (ps := [shk 0 = 10, shk 109 = 9, IA 110 260 ∧ inb ((2 : Int32) * v3) 260 = true, shk 0 = 10, shk 109 = 9, IA 110 260 ∧ inb (((2 : Int32) * v3) + (1 : Int32)) 260 = true]) rfl ⟨rfl, rfl, ⟨⟨rfl, rfl⟩, g1⟩, rfl, rfl, ⟨⟨rfl, rfl⟩, g2⟩, trivial⟩) ?_
    obtain ⟨x3, q5, h⟩ := bdS h
    refine Go.t (Go_callS bk_Pz_rulesAll 24 rfl nk_Pz_isNumber tw552 tw553 (as := [.int (σ.1 110 ((2 : Int32) * v3).toNatClampNeg)]) (S := []) rfl rfl rfl (Nat.le_of_ble_eq_true rfl) (Nat.le_of_ble_eq_true rfl) (ev_Pz_isNumber _ _ q5)) ?_
    refine Go_if_eq bk_Pz_rulesAll 25 rfl (fun c19 => ?_) (fun c19 => ?_)
    · have h := ifT c19 h
      have h := Option.some.inj h
      subst h
      refine Go.t (Go_sg bk_Pz_rulesAll 29 1 (c2 := (some 52, [some (.ref 0), some (.int v1), some (.int v2), some (.int v3), some (.int (σ.1 110 ((2 : Int32) * v3).toNatClampNeg)), some (.int (σ.1 110 (((2 : Int32) * v3) + (1 : Int32)).toNatClampNeg))], [.int (0 : Int32)], σ)) (ps := []) rfl trivial) ?_
      exact Go_reti bk_Pz_rulesAll 30 rfl
    · have h := ifF c19 h
      refine Go.t (Go_sg bk_Pz_rulesAll 26 1 (c2 := (some 45, [some (.ref 0), some (.int v1), some (.int v2), some (.int v3), some (.int (σ.1 110 ((2 : Int32) * v3).toNatClampNeg)), some (.int (σ.1 110 (((2 : Int32) * v3) + (1 : Int32)).toNatClampNeg))], [.int (σ.1 110 (((2 : Int32) * v3) + (1 : Int32)).toNatClampNeg)], σ)) (ps := []) rfl trivial) ?_
      obtain ⟨x6, q8, h⟩ := bdS h
      refine Go.t (Go_callS bk_Pz_rulesAll 27 rfl nk_Pz_isNumber tw552 tw553 (as := [.int (σ.1 110 (((2 : Int32) * v3) + (1 : Int32)).toNatClampNeg)]) (S := []) rfl rfl rfl (Nat.le_of_ble_eq_true rfl) (Nat.le_of_ble_eq_true rfl) (ev_Pz_isNumber _ _ q8)) ?_
      refine Go_if_ne bk_Pz_rulesAll 28 rfl (fun c18 => ?_) (fun c18 => ?_)
      · have h := ifF c18 h
        obtain ⟨g9, h⟩ := gdS h
        refine Go.t (Go_sg bk_Pz_rulesAll 31 7 (c2 := (some 65, [some (.ref 0), some (.int v1), some (.int v2), some (.int v3), some (.int (σ.1 110 ((2 : Int32) * v3).toNatClampNeg)), some (.int (σ.1 110 (((2 : Int32) * v3) + (1 : Int32)).toNatClampNeg))], [.ref (rfv 9 (σ.1 110 ((2 : Int32) * v3).toNatClampNeg).toNatClampNeg), .int v1, .ref 0], σ)) (ps := [shk 0 = 10, shk 1 = 3, IR 9 12 ∧ inb (σ.1 110 ((2 : Int32) * v3).toNatClampNeg) 12 = true]) rfl ⟨rfl, rfl, ⟨⟨rfl, rfl⟩, g9⟩, trivial⟩) ?_
        obtain ⟨σ11, q12, h⟩ := bdS h
        refine Go.t (Go_callV bk_Pz_rulesAll 38 rfl nk_Pz_cut tw1162 tw1164 tw42 (ci := 10) rfl (as := [.int v1, .ref (rfv 9 (σ.1 110 ((2 : Int32) * v3).toNatClampNeg).toNatClampNeg)]) (S := []) rfl rfl rfl rfl (Nat.le_of_ble_eq_true rfl) (Nat.le_of_ble_eq_true rfl) (ev_Pz_cut _ _ (rw_9 g9) _ q12)) ?_
        obtain ⟨g13, h⟩ := gdS h
        refine Go.t (Go_sg bk_Pz_rulesAll 39 7 (c2 := (some 82, [some (.ref 0), some (.int v1), some (.int v2), some (.int v3), some (.int (σ.1 110 ((2 : Int32) * v3).toNatClampNeg)), some (.int (σ.1 110 (((2 : Int32) * v3) + (1 : Int32)).toNatClampNeg))], [.ref (rfv 9 (σ.1 110 (((2 : Int32) * v3) + (1 : Int32)).toNatClampNeg).toNatClampNeg), .ref 165], σ11)) (ps := [shk 0 = 10, shk 0 = 10, shk 1 = 3, IR 9 12 ∧ inb (σ.1 110 (((2 : Int32) * v3) + (1 : Int32)).toNatClampNeg) 12 = true]) rfl ⟨rfl, rfl, rfl, ⟨⟨rfl, rfl⟩, g13⟩, trivial⟩) ?_
        obtain ⟨x14, q16, h⟩ := bdS h
        refine Go.t (Go_callS bk_Pz_rulesAll 46 rfl nk_Pz_sameRow tw1166 tw1167 (as := [.ref 165, .ref (rfv 9 (σ.1 110 (((2 : Int32) * v3) + (1 : Int32)).toNatClampNeg).toNatClampNeg)]) (S := []) rfl rfl rfl (Nat.le_of_ble_eq_true rfl) (Nat.le_of_ble_eq_true rfl) (ev_Pz_sameRow _ _ ⟨rfl, rfl⟩ (rw_9 g13) _ q16)) ?_
        refine Go_if_ne bk_Pz_rulesAll 47 rfl (fun c17 => ?_) (fun c17 => ?_)
        · have h := ifF c17 h
          refine Go.t (Go_sg bk_Pz_rulesAll 50 2 (c2 := (some 2, [some (.ref 0), some (.int v1), some (.int v2), some (.int (v3 + (1 : Int32))), some (.int (σ.1 110 ((2 : Int32) * v3).toNatClampNeg)), some (.int (σ.1 110 (((2 : Int32) * v3) + (1 : Int32)).toNatClampNeg))], [], σ11)) (ps := []) rfl trivial) ?_
          have h := Option.some.inj h
          subst h
          exact Go.fg (LSub.cs (LSub.cs (LSub.cs (LSub.cs (LSub.cn (LSub.cn (LSub.nil)))))))
        · have h := ifT c17 h
          have h := Option.some.inj h
          subst h
          refine Go.t (Go_sg bk_Pz_rulesAll 48 1 (c2 := (some 89, [some (.ref 0), some (.int v1), some (.int v2), some (.int v3), some (.int (σ.1 110 ((2 : Int32) * v3).toNatClampNeg)), some (.int (σ.1 110 (((2 : Int32) * v3) + (1 : Int32)).toNatClampNeg))], [.int (0 : Int32)], σ11)) (ps := []) rfl trivial) ?_
          exact Go_reti bk_Pz_rulesAll 49 rfl
      · have h := ifT c18 h
        have h := Option.some.inj h
        subst h
        refine Go.t (Go_sg bk_Pz_rulesAll 29 1 (c2 := (some 52, [some (.ref 0), some (.int v1), some (.int v2), some (.int v3), some (.int (σ.1 110 ((2 : Int32) * v3).toNatClampNeg)), some (.int (σ.1 110 (((2 : Int32) * v3) + (1 : Int32)).toNatClampNeg))], [.int (0 : Int32)], σ)) (ps := []) rfl trivial) ?_
        exact Go_reti bk_Pz_rulesAll 30 rfl
def Pz_rulesAll_L2 (v1 : Int32) (v2 : Int32) (s : Int32 × MH) : Option ((Int32 × MH)) := itr (fun s : Int32 × MH => Pz_rulesAll_l2 v1 v2 s.1 s.2) FU s
set_option maxRecDepth 20000 in
set_option maxHeartbeats 2000000 in
theorem t_Pz_rulesAll_L2 (v1 : Int32) (v2 : Int32)  (s : Int32 × MH) {r} (h : Pz_rulesAll_L2 v1 v2 s = some r) : Go m_Pz_rulesAll 2 (cH_Pz_rulesAll_2 v1 v2 s) (cR_Pz_rulesAll_2 v1 v2 r) := Go_itr (fun s o ho => t_Pz_rulesAll_l2 v1 v2 s.1 s.2 ho) FU s r h
def Pz_rulesAll0 (v1 : Int32) (v2 : Int32) (σ : MH) : Option (Int32 × MH) := (Pz_rulesAll_L2 v1 v2 ((0 : Int32), σ)).bind fun z21 => some (z21.1, z21.2)
set_option maxRecDepth 20000 in
set_option maxHeartbeats 2000000 in
theorem t_Pz_rulesAll0 (v1 : Int32) (v2 : Int32)  (σ : MH) {o} (h : Pz_rulesAll0 v1 v2 σ = some o) : Go m_Pz_rulesAll 2 (some 0, [some (.ref 0), some (.int v1), some (.int v2), none, none, none], [], σ) ((none, [], [.int o.1], o.2)) := by
  unfold Pz_rulesAll0 at h
  refine Go.t (Go_sg bk_Pz_rulesAll 0 2 (c2 := (some 2, [some (.ref 0), some (.int v1), some (.int v2), some (.int (0 : Int32)), none, none], [], σ)) (ps := []) rfl trivial) ?_
  obtain ⟨z21, q22, h⟩ := bdS h
  refine Go.t (Go.t (Go.fg (LSub.cs (LSub.cs (LSub.cs (LSub.cs (LSub.cn (LSub.cn (LSub.nil)))))))) (t_Pz_rulesAll_L2 v1 v2 _ q22)) ?_
  have h := Option.some.inj h
  subst h
  exact Go.rf
def Pz_rulesAll (v1 : Int32) (v2 : Int32) (σ : MH) : Option (Int32 × MH) := bzo (Pz_rulesAll0 v1 v2 σ)
set_option maxRecDepth 20000 in
set_option maxHeartbeats 2000000 in
theorem ev_Pz_rulesAll (v1 : Int32) (v2 : Int32)  (σ : MH) {o} (h : Pz_rulesAll v1 v2 σ = some o) : Ev m_Pz_rulesAll 2 [.ref 0, .int v1, .int v2] σ (some (.int o.1)) o.2 := Ev.of2 (by decide +kernel) rfl (Nat.le_of_ble_eq_true rfl) ⟨.boolean, rfl, nrB (bzo2 h)⟩ (t_Pz_rulesAll0 v1 v2 σ (bzo1 h))
def cH_Pz_madeBy_26  (σ : MH) (s : Int32) : MC := (some 26, [some (.ref 0), none, none, some (.int s)], [], σ)
def cR_Pz_madeBy_26  (σ : MH) : ((Int32)) → MC := (fun r : Int32 => ((none, [], [.int r], σ) : MC))
def Pz_madeBy_l26 (v3 : Int32) (σ : MH) : Option (((Int32) ⊕ ((Int32)))) := if (12 : Int32) ≤ v3 then some (.inr ((-2 : Int32))) else (if inb v3 12 = true then (Pz_sameRow 165 (rfv 9 v3.toNatClampNeg) σ).bind fun x9 => if x9 = (0 : Int32) then some (.inl (v3 + (1 : Int32))) else some (.inr (v3)) else none)
set_option maxRecDepth 20000 in
set_option maxHeartbeats 2000000 in
theorem t_Pz_madeBy_l26 (v3 : Int32)  (σ : MH) {o} (h : Pz_madeBy_l26 v3 σ = some o) : Go m_Pz_madeBy 2 (cH_Pz_madeBy_26 σ (v3)) (cS (cH_Pz_madeBy_26  σ) (cR_Pz_madeBy_26  σ) o) := by
  unfold Pz_madeBy_l26 at h
  unfold cH_Pz_madeBy_26
  refine Go.t (Go_sg bk_Pz_madeBy 15 2 (c2 := (some 29, [some (.ref 0), none, none, some (.int v3)], [.int (12 : Int32), .int v3], σ)) (ps := []) rfl trivial) ?_
  refine Go_icmp_ge bk_Pz_madeBy 17 rfl (fun c13 => ?_) (fun c13 => ?_)
  · have h := ifT c13 h
    have h := Option.some.inj h
    subst h
    refine Go.t (Go_sg bk_Pz_madeBy 31 1 (c2 := (some 61, [some (.ref 0), none, none, some (.int v3)], [.int (-2 : Int32)], σ)) (ps := []) rfl trivial) ?_
    exact Go_reti bk_Pz_madeBy 32 rfl
  · have h := ifF c13 h
    obtain ⟨g8, h⟩ := gdS h
    refine Go.t (Go_sg bk_Pz_madeBy 18 7 (c2 := (some 45, [some (.ref 0), none, none, some (.int v3)], [.ref (rfv 9 v3.toNatClampNeg), .ref 165], σ)) (ps := [shk 0 = 10, shk 0 = 10, shk 1 = 3, IR 9 12 ∧ inb v3 12 = true]) rfl ⟨rfl, rfl, rfl, ⟨⟨rfl, rfl⟩, g8⟩, trivial⟩) ?_
    obtain ⟨x9, q11, h⟩ := bdS h
    refine Go.t (Go_callS bk_Pz_madeBy 25 rfl nk_Pz_sameRow tw1166 tw1167 (as := [.ref 165, .ref (rfv 9 v3.toNatClampNeg)]) (S := []) rfl rfl rfl (Nat.le_of_ble_eq_true rfl) (Nat.le_of_ble_eq_true rfl) (ev_Pz_sameRow _ _ ⟨rfl, rfl⟩ (rw_9 g8) _ q11)) ?_
    refine Go_if_eq bk_Pz_madeBy 26 rfl (fun c12 => ?_) (fun c12 => ?_)
    · have h := ifT c12 h
      refine Go.t (Go_sg bk_Pz_madeBy 29 2 (c2 := (some 26, [some (.ref 0), none, none, some (.int (v3 + (1 : Int32)))], [], σ)) (ps := []) rfl trivial) ?_
      have h := Option.some.inj h
      subst h
      exact Go.fg (LSub.cs (LSub.cn (LSub.cn (LSub.cs (LSub.nil)))))
    · have h := ifF c12 h
      have h := Option.some.inj h
      subst h
      refine Go.t (Go_sg bk_Pz_madeBy 27 1 (c2 := (some 52, [some (.ref 0), none, none, some (.int v3)], [.int v3], σ)) (ps := []) rfl trivial) ?_
      exact Go_reti bk_Pz_madeBy 28 rfl
def Pz_madeBy_L26  (σ : MH) (s : Int32) : Option ((Int32)) := itr (fun s : Int32 => Pz_madeBy_l26 s σ) FU s
set_option maxRecDepth 20000 in
set_option maxHeartbeats 2000000 in
theorem t_Pz_madeBy_L26   (σ : MH) (s : Int32) {r} (h : Pz_madeBy_L26 σ s = some r) : Go m_Pz_madeBy 2 (cH_Pz_madeBy_26 σ s) (cR_Pz_madeBy_26 σ r) := Go_itr (fun s o ho => t_Pz_madeBy_l26 s σ ho) FU s r h
def Pz_madeBy0 (v1 : Int32) (v2 : Int32) (σ : MH) : Option (Int32 × MH) := (Pz_isNumber v2 σ).bind fun x1 => if x1 = (0 : Int32) then some ((-2 : Int32), σ) else (if inb v2 12 = true then (Pz_cut v1 (rfv 9 v2.toNatClampNeg) σ).bind fun σ6 => (Pz_madeBy_L26 σ6 ((0 : Int32))).bind fun z14 => some (z14, σ6) else none)
set_option maxRecDepth 20000 in
set_option maxHeartbeats 2000000 in
theorem t_Pz_madeBy0 (v1 : Int32) (v2 : Int32)  (σ : MH) {o} (h : Pz_madeBy0 v1 v2 σ = some o) : Go m_Pz_madeBy 2 (some 0, [some (.ref 0), some (.int v1), some (.int v2), none], [], σ) ((none, [], [.int o.1], o.2)) := by
  unfold Pz_madeBy0 at h
  refine Go.t (Go_sg bk_Pz_madeBy 0 1 (c2 := (some 1, [some (.ref 0), some (.int v1), some (.int v2), none], [.int v2], σ)) (ps := []) rfl trivial) ?_
  obtain ⟨x1, q3, h⟩ := bdS h
  refine Go.t (Go_callS bk_Pz_madeBy 1 rfl nk_Pz_isNumber tw552 tw553 (as := [.int v2]) (S := []) rfl rfl rfl (Nat.le_of_ble_eq_true rfl) (Nat.le_of_ble_eq_true rfl) (ev_Pz_isNumber _ _ q3)) ?_
  refine Go_if_ne bk_Pz_madeBy 2 rfl (fun c16 => ?_) (fun c16 => ?_)
  · have h := ifF c16 h
    obtain ⟨g4, h⟩ := gdS h
    refine Go.t (Go_sg bk_Pz_madeBy 5 7 (c2 := (some 21, [some (.ref 0), some (.int v1), some (.int v2), none], [.ref (rfv 9 v2.toNatClampNeg), .int v1, .ref 0], σ)) (ps := [shk 0 = 10, shk 1 = 3, IR 9 12 ∧ inb v2 12 = true]) rfl ⟨rfl, rfl, ⟨⟨rfl, rfl⟩, g4⟩, trivial⟩) ?_
    obtain ⟨σ6, q7, h⟩ := bdS h
    refine Go.t (Go_callV bk_Pz_madeBy 12 rfl nk_Pz_cut tw1162 tw1164 tw42 (ci := 10) rfl (as := [.int v1, .ref (rfv 9 v2.toNatClampNeg)]) (S := []) rfl rfl rfl rfl (Nat.le_of_ble_eq_true rfl) (Nat.le_of_ble_eq_true rfl) (ev_Pz_cut _ _ (rw_9 g4) _ q7)) ?_
    refine Go.t (Go_sg bk_Pz_madeBy 13 2 (c2 := (some 26, [some (.ref 0), some (.int v1), some (.int v2), some (.int (0 : Int32))], [], σ6)) (ps := []) rfl trivial) ?_
    obtain ⟨z14, q15, h⟩ := bdS h
    refine Go.t (Go.t (Go.fg (LSub.cs (LSub.cn (LSub.cn (LSub.cs (LSub.nil)))))) (t_Pz_madeBy_L26 σ6 _ q15)) ?_
    have h := Option.some.inj h
    subst h
    exact Go.rf
  · have h := ifT c16 h
    have h := Option.some.inj h
    subst h
    refine Go.t (Go_sg bk_Pz_madeBy 3 1 (c2 := (some 9, [some (.ref 0), some (.int v1), some (.int v2), none], [.int (-2 : Int32)], σ)) (ps := []) rfl trivial) ?_
    exact Go_reti bk_Pz_madeBy 4 rfl
def Pz_madeBy (v1 : Int32) (v2 : Int32) (σ : MH) : Option (Int32 × MH) := Pz_madeBy0 v1 v2 σ
set_option maxRecDepth 20000 in
set_option maxHeartbeats 2000000 in
theorem ev_Pz_madeBy (v1 : Int32) (v2 : Int32)  (σ : MH) {o} (h : Pz_madeBy v1 v2 σ = some o) : Ev m_Pz_madeBy 2 [.ref 0, .int v1, .int v2] σ (some (.int o.1)) o.2 := Ev.of2 (by decide +kernel) rfl (Nat.le_of_ble_eq_true rfl) ⟨.int, rfl, rfl⟩ (t_Pz_madeBy0 v1 v2 σ h)
def cH_Pz_cutter_67 (v1 : Int32) (v2 : Int32) (v3 : Int32) (σ : MH) (s : Int32) : MC := (some 67, [some (.ref 0), some (.int v1), some (.int v2), some (.int v3), some (.int s), none, none], [], σ)
def cR_Pz_cutter_67 (v1 : Int32) (v2 : Int32) (v3 : Int32) (σ : MH) : ((Unit) ⊕ (Int32)) → MC := (cS (fun r : Unit => ((some 147, [some (.ref 0), some (.int v1), some (.int v2), some (.int v3), none, none, none], [], σ) : MC)) (fun r : Int32 => ((none, [], [.int r], σ) : MC)))
def Pz_cutter_l67 (v1 : Int32) (v2 : Int32) (v3 : Int32) (v4 : Int32) (σ : MH) : Option (((Int32) ⊕ ((Unit) ⊕ (Int32)))) := if v1 ≤ v4 then some (.inr (.inl ())) else (if inb ((2 : Int32) * v4) 260 = true then if (12 : Int32) ≤ σ.1 110 ((2 : Int32) * v4).toNatClampNeg then some (.inr (.inr ((-3 : Int32)))) else (if inb (((2 : Int32) * v4) + (1 : Int32)) 260 = true then if (12 : Int32) ≤ σ.1 110 (((2 : Int32) * v4) + (1 : Int32)).toNatClampNeg then some (.inr (.inr ((-3 : Int32)))) else (if σ.1 110 ((2 : Int32) * v4).toNatClampNeg = σ.1 110 (((2 : Int32) * v4) + (1 : Int32)).toNatClampNeg then some (.inr (.inr ((-3 : Int32)))) else some (.inl (v4 + (1 : Int32)))) else none) else none)
set_option maxRecDepth 20000 in
set_option maxHeartbeats 2000000 in
theorem t_Pz_cutter_l67 (v1 : Int32) (v2 : Int32) (v3 : Int32) (v4 : Int32)  (σ : MH) {o} (h : Pz_cutter_l67 v1 v2 v3 v4 σ = some o) : Go m_Pz_cutter 3 (cH_Pz_cutter_67 v1 v2 v3 σ (v4)) (cS (cH_Pz_cutter_67 v1 v2 v3 σ) (cR_Pz_cutter_67 v1 v2 v3 σ) o) := by
  unfold Pz_cutter_l67 at h
  unfold cH_Pz_cutter_67
  refine Go.t (Go_sg bk_Pz_cutter 38 2 (c2 := (some 70, [some (.ref 0), some (.int v1), some (.int v2), some (.int v3), some (.int v4), none, none], [.int v1, .int v4], σ)) (ps := []) rfl trivial) ?_
  refine Go_icmp_ge bk_Pz_cutter 40 rfl (fun c6 => ?_) (fun c6 => ?_)
  · have h := ifT c6 h
    have h := Option.some.inj h
    subst h
    exact Go.fg (LSub.cs (LSub.cs (LSub.cs (LSub.cs (LSub.cn (LSub.cn (LSub.cn (LSub.nil))))))))
  · have h := ifF c6 h
    obtain ⟨g1, h⟩ := gdS h
    refine Go.t (Go_sg bk_Pz_cutter 41 8 (c2 := (some 87, [some (.ref 0), some (.int v1), some (.int v2), some (.int v3), some (.int v4), none, none], [.int (12 : Int32), .int (σ.1 110 ((2 : Int32) * v4).toNatClampNeg)], σ)) (ps := [shk 0 = 10, shk 109 = 9, IA 110 260 ∧ inb ((2 : Int32) * v4) 260 = true]) rfl ⟨rfl, rfl, ⟨⟨rfl, rfl⟩, g1⟩, trivial⟩) ?_
    refine Go_icmp_ge bk_Pz_cutter 49 rfl (fun c5 => ?_) (fun c5 => ?_)
    · have h := ifT c5 h
      have h := Option.some.inj h
      subst h
      refine Go.t (Go_sg bk_Pz_cutter 78 1 (c2 := (some 140, [some (.ref 0), some (.int v1), some (.int v2), some (.int v3), some (.int v4), none, none], [.int (-3 : Int32)], σ)) (ps := []) rfl trivial) ?_
      exact Go_reti bk_Pz_cutter 79 rfl
    · have h := ifF c5 h
      obtain ⟨g2, h⟩ := gdS h
      refine Go.t (Go_sg bk_Pz_cutter 50 10 (c2 := (some 106, [some (.ref 0), some (.int v1), some (.int v2), some (.int v3), some (.int v4), none, none], [.int (12 : Int32), .int (σ.1 110 (((2 : Int32) * v4) + (1 : Int32)).toNatClampNeg)], σ)) (ps := [shk 0 = 10, shk 109 = 9, IA 110 260 ∧ inb (((2 : Int32) * v4) + (1 : Int32)) 260 = true]) rfl ⟨rfl, rfl, ⟨⟨rfl, rfl⟩, g2⟩, trivial⟩) ?_
      refine Go_icmp_ge bk_Pz_cutter 60 rfl (fun c4 => ?_) (fun c4 => ?_)
      · have h := ifT c4 h
        have h := Option.some.inj h
        subst h
        refine Go.t (Go_sg bk_Pz_cutter 78 1 (c2 := (some 140, [some (.ref 0), some (.int v1), some (.int v2), some (.int v3), some (.int v4), none, none], [.int (-3 : Int32)], σ)) (ps := []) rfl trivial) ?_
        exact Go_reti bk_Pz_cutter 79 rfl
      · have h := ifF c4 h
        refine Go.t (Go_sg bk_Pz_cutter 61 16 (c2 := (some 135, [some (.ref 0), some (.int v1), some (.int v2), some (.int v3), some (.int v4), none, none], [.int (σ.1 110 (((2 : Int32) * v4) + (1 : Int32)).toNatClampNeg), .int (σ.1 110 ((2 : Int32) * v4).toNatClampNeg)], σ)) (ps := [shk 0 = 10, shk 109 = 9, IA 110 260 ∧ inb ((2 : Int32) * v4) 260 = true, shk 0 = 10, shk 109 = 9, IA 110 260 ∧ inb (((2 : Int32) * v4) + (1 : Int32)) 260 = true]) rfl ⟨rfl, rfl, ⟨⟨rfl, rfl⟩, g1⟩, rfl, rfl, ⟨⟨rfl, rfl⟩, g2⟩, trivial⟩) ?_
        refine Go_icmp_ne bk_Pz_cutter 77 rfl (fun c3 => ?_) (fun c3 => ?_)
        · have h := ifF c3 h
          refine Go.t (Go_sg bk_Pz_cutter 80 2 (c2 := (some 67, [some (.ref 0), some (.int v1), some (.int v2), some (.int v3), some (.int (v4 + (1 : Int32))), none, none], [], σ)) (ps := []) rfl trivial) ?_
          have h := Option.some.inj h
          subst h
          exact Go.fg (LSub.cs (LSub.cs (LSub.cs (LSub.cs (LSub.cs (LSub.cn (LSub.cn (LSub.nil))))))))
        · have h := ifT c3 h
          have h := Option.some.inj h
          subst h
          refine Go.t (Go_sg bk_Pz_cutter 78 1 (c2 := (some 140, [some (.ref 0), some (.int v1), some (.int v2), some (.int v3), some (.int v4), none, none], [.int (-3 : Int32)], σ)) (ps := []) rfl trivial) ?_
          exact Go_reti bk_Pz_cutter 79 rfl
def Pz_cutter_L67 (v1 : Int32) (v2 : Int32) (v3 : Int32) (σ : MH) (s : Int32) : Option ((Unit) ⊕ (Int32)) := itr (fun s : Int32 => Pz_cutter_l67 v1 v2 v3 s σ) FU s
set_option maxRecDepth 20000 in
set_option maxHeartbeats 2000000 in
theorem t_Pz_cutter_L67 (v1 : Int32) (v2 : Int32) (v3 : Int32)  (σ : MH) (s : Int32) {r} (h : Pz_cutter_L67 v1 v2 v3 σ s = some r) : Go m_Pz_cutter 3 (cH_Pz_cutter_67 v1 v2 v3 σ s) (cR_Pz_cutter_67 v1 v2 v3 σ r) := Go_itr (fun s o ho => t_Pz_cutter_l67 v1 v2 v3 s σ ho) FU s r h
def cH_Pz_cutter_157 (v1 : Int32) (v2 : Int32) (v3 : Int32) (s : Int32 × Int32 × Int32 × MH) : MC := (some 157, [some (.ref 0), some (.int v1), some (.int v2), some (.int v3), some (.int s.1), some (.int s.2.1), some (.int s.2.2.1)], [], s.2.2.2)
def cR_Pz_cutter_157 (v1 : Int32) (v2 : Int32) (v3 : Int32) : ((Int32 × Int32 × MH)) → MC := (fun r : Int32 × Int32 × MH => ((some 197, [some (.ref 0), none, some (.int v2), some (.int v3), some (.int r.1), some (.int r.2.1), none], [], r.2.2) : MC))
def Pz_cutter_b191 (v1 : Int32) (v2 : Int32) (v3 : Int32) (v4 : Int32) (v5 : Int32) (v6 : Int32) (σ : MH) : Option (((Int32 × Int32 × Int32 × MH) ⊕ ((Int32 × Int32 × MH)))) := some (.inl (v4, v5, v6 + (1 : Int32), σ))
set_option maxRecDepth 20000 in
set_option maxHeartbeats 2000000 in
theorem t_Pz_cutter_b191 (v1 : Int32) (v2 : Int32) (v3 : Int32) (v4 : Int32) (v5 : Int32) (v6 : Int32)   (σ : MH) {o} (h : Pz_cutter_b191 v1 v2 v3 v4 v5 v6 σ = some o) : Go m_Pz_cutter 3 (some 191, [some (.ref 0), some (.int v1), some (.int v2), some (.int v3), some (.int v4), some (.int v5), some (.int v6)], [], σ) (cS (cH_Pz_cutter_157 v1 v2 v3) (cR_Pz_cutter_157 v1 v2 v3) o) := by
  unfold Pz_cutter_b191 at h
  refine Go.t (Go_sg bk_Pz_cutter 103 2 (c2 := (some 157, [some (.ref 0), some (.int v1), some (.int v2), some (.int v3), some (.int v4), some (.int v5), some (.int (v6 + (1 : Int32)))], [], σ)) (ps := []) rfl trivial) ?_
  have h := Option.some.inj h
  subst h
  exact Go.fg (LSub.cs (LSub.cs (LSub.cs (LSub.cs (LSub.cs (LSub.cs (LSub.cs (LSub.nil))))))))
def Pz_cutter_b186 (v1 : Int32) (v2 : Int32) (v3 : Int32) (v4 : Int32) (v6 : Int32) (s0 : Int32) (σ : MH) : Option (((Int32 × Int32 × Int32 × MH) ⊕ ((Int32 × Int32 × MH)))) := Pz_cutter_b191 v1 v2 v3 (v4 + (1 : Int32)) s0 v6 σ
set_option maxRecDepth 20000 in
set_option maxHeartbeats 2000000 in
theorem t_Pz_cutter_b186 (v1 : Int32) (v2 : Int32) (v3 : Int32) (v4 : Int32) (v6 : Int32) (s0 : Int32)   (σ : MH) {o} (h : Pz_cutter_b186 v1 v2 v3 v4 v6 s0 σ = some o) : Go m_Pz_cutter 3 (some 186, [some (.ref 0), some (.int v1), some (.int v2), some (.int v3), some (.int v4), none, some (.int v6)], [.int s0], σ) (cS (cH_Pz_cutter_157 v1 v2 v3) (cR_Pz_cutter_157 v1 v2 v3) o) := by
  unfold Pz_cutter_b186 at h
  refine Go.t (Go_sg bk_Pz_cutter 101 2 (c2 := (some 191, [some (.ref 0), some (.int v1), some (.int v2), some (.int v3), some (.int (v4 + (1 : Int32))), some (.int s0), some (.int v6)], [], σ)) (ps := []) rfl trivial) ?_
  exact Go.t (Go.fg (LSub.cs (LSub.cs (LSub.cs (LSub.cs (LSub.cs (LSub.cs (LSub.cs (LSub.nil))))))))) (t_Pz_cutter_b191 v1 v2 v3 (v4 + (1 : Int32)) s0 v6 σ h)
def Pz_cutter_l157 (v1 : Int32) (v2 : Int32) (v3 : Int32) (v4 : Int32) (v5 : Int32) (v6 : Int32) (σ : MH) : Option (((Int32 × Int32 × Int32 × MH) ⊕ ((Int32 × Int32 × MH)))) := if (112 : Int32) ≤ v6 then some (.inr (v4, v5, σ)) else ((Pz_rulesAll v6 v1 σ).bind fun (x9, σ10) => if x9 = (0 : Int32) then (Pz_cutter_b191 v1 v2 v3 v4 v5 v6 σ10) else (if v4 = (0 : Int32) then (Pz_cutter_b186 v1 v2 v3 v4 v6 v6 σ10) else (Pz_cutter_b186 v1 v2 v3 v4 v6 v5 σ10)))
set_option maxRecDepth 20000 in
set_option maxHeartbeats 2000000 in
theorem t_Pz_cutter_l157 (v1 : Int32) (v2 : Int32) (v3 : Int32) (v4 : Int32) (v5 : Int32) (v6 : Int32)  (σ : MH) {o} (h : Pz_cutter_l157 v1 v2 v3 v4 v5 v6 σ = some o) : Go m_Pz_cutter 3 (cH_Pz_cutter_157 v1 v2 v3 (v4, v5, v6, σ)) (cS (cH_Pz_cutter_157 v1 v2 v3) (cR_Pz_cutter_157 v1 v2 v3) o) := by
  unfold Pz_cutter_l157 at h
  unfold cH_Pz_cutter_157
  refine Go.t (Go_sg bk_Pz_cutter 88 2 (c2 := (some 161, [some (.ref 0), some (.int v1), some (.int v2), some (.int v3), some (.int v4), some (.int v5), some (.int v6)], [.int (112 : Int32), .int v6], σ)) (ps := []) rfl trivial) ?_
  refine Go_icmp_ge bk_Pz_cutter 90 rfl (fun c14 => ?_) (fun c14 => ?_)
  · have h := ifT c14 h
    have h := Option.some.inj h
    subst h
    exact Go.fg (LSub.cs (LSub.cn (LSub.cs (LSub.cs (LSub.cs (LSub.cs (LSub.cn (LSub.nil))))))))
  · have h := ifF c14 h
    refine Go.t (Go_sg bk_Pz_cutter 91 3 (c2 := (some 168, [some (.ref 0), some (.int v1), some (.int v2), some (.int v3), some (.int v4), some (.int v5), some (.int v6)], [.int v1, .int v6, .ref 0], σ)) (ps := []) rfl trivial) ?_
    obtain ⟨⟨x9, σ10⟩, q11, h⟩ := bdS h
    dsimp only at h
    refine Go.t (Go_callV bk_Pz_cutter 94 rfl nk_Pz_rulesAll tw1158 tw1160 tw41 (ci := 10) rfl (as := [.int v6, .int v1]) (S := []) rfl rfl rfl rfl (Nat.le_of_ble_eq_true rfl) (Nat.le_of_ble_eq_true rfl) (ev_Pz_rulesAll _ _ _ q11)) ?_
    refine Go_if_eq bk_Pz_cutter 95 rfl (fun c13 => ?_) (fun c13 => ?_)
    · have h := ifT c13 h
      exact Go.t (Go.fg (LSub.cs (LSub.cs (LSub.cs (LSub.cs (LSub.cs (LSub.cs (LSub.cs (LSub.nil))))))))) (t_Pz_cutter_b191 v1 v2 v3 v4 v5 v6 σ10 h)
    · have h := ifF c13 h
      refine Go.t (Go_sg bk_Pz_cutter 96 1 (c2 := (some 176, [some (.ref 0), some (.int v1), some (.int v2), some (.int v3), some (.int v4), some (.int v5), some (.int v6)], [.int v4], σ10)) (ps := []) rfl trivial) ?_
      refine Go_if_ne bk_Pz_cutter 97 rfl (fun c12 => ?_) (fun c12 => ?_)
      · have h := ifF c12 h
        refine Go.t (Go_sg bk_Pz_cutter 100 1 (c2 := (some 186, [some (.ref 0), some (.int v1), some (.int v2), some (.int v3), some (.int v4), some (.int v5), some (.int v6)], [.int v5], σ10)) (ps := []) rfl trivial) ?_
        exact Go.t (Go.fg (LSub.cs (LSub.cs (LSub.cs (LSub.cs (LSub.cs (LSub.cn (LSub.cs (LSub.nil))))))))) (t_Pz_cutter_b186 v1 v2 v3 v4 v6 v5 σ10 h)
      · have h := ifT c12 h
        refine Go.t (Go_sg bk_Pz_cutter 98 2 (c2 := (some 186, [some (.ref 0), some (.int v1), some (.int v2), some (.int v3), some (.int v4), some (.int v5), some (.int v6)], [.int v6], σ10)) (ps := []) rfl trivial) ?_
        exact Go.t (Go.fg (LSub.cs (LSub.cs (LSub.cs (LSub.cs (LSub.cs (LSub.cn (LSub.cs (LSub.nil))))))))) (t_Pz_cutter_b186 v1 v2 v3 v4 v6 v6 σ10 h)
def Pz_cutter_L157 (v1 : Int32) (v2 : Int32) (v3 : Int32) (s : Int32 × Int32 × Int32 × MH) : Option ((Int32 × Int32 × MH)) := itr (fun s : Int32 × Int32 × Int32 × MH => Pz_cutter_l157 v1 v2 v3 s.1 s.2.1 s.2.2.1 s.2.2.2) FU s
set_option maxRecDepth 20000 in
set_option maxHeartbeats 2000000 in
theorem t_Pz_cutter_L157 (v1 : Int32) (v2 : Int32) (v3 : Int32)  (s : Int32 × Int32 × Int32 × MH) {r} (h : Pz_cutter_L157 v1 v2 v3 s = some r) : Go m_Pz_cutter 3 (cH_Pz_cutter_157 v1 v2 v3 s) (cR_Pz_cutter_157 v1 v2 v3 r) := Go_itr (fun s o ho => t_Pz_cutter_l157 v1 v2 v3 s.1 s.2.1 s.2.2.1 s.2.2.2 ho) FU s r h
def Pz_cutter_b226 (v3 : Int32) (v5 : Int32) (σ : MH) : Option (Int32 × MH) := if v3 = (0 : Int32) then some (v5, σ) else some ((-2 : Int32), σ)
set_option maxRecDepth 20000 in
set_option maxHeartbeats 2000000 in
theorem t_Pz_cutter_b226 (v3 : Int32) (v5 : Int32)   (σ : MH) {o} (h : Pz_cutter_b226 v3 v5 σ = some o) : Go m_Pz_cutter 3 (some 226, [none, none, none, some (.int v3), none, some (.int v5), none], [], σ) ((none, [], [.int o.1], o.2)) := by
  unfold Pz_cutter_b226 at h
  refine Go.t (Go_sg bk_Pz_cutter 120 1 (c2 := (some 227, [none, none, none, some (.int v3), none, some (.int v5), none], [.int v3], σ)) (ps := []) rfl trivial) ?_
  refine Go_if_eq bk_Pz_cutter 121 rfl (fun c17 => ?_) (fun c17 => ?_)
  · have h := ifT c17 h
    have h := Option.some.inj h
    subst h
    refine Go.t (Go_sg bk_Pz_cutter 124 1 (c2 := (some 237, [none, none, none, some (.int v3), none, some (.int v5), none], [.int v5], σ)) (ps := []) rfl trivial) ?_
    exact Go_reti bk_Pz_cutter 125 rfl
  · have h := ifF c17 h
    refine Go.t (Go_sg bk_Pz_cutter 122 2 (c2 := (some 237, [none, none, none, some (.int v3), none, some (.int v5), none], [.int (-2 : Int32)], σ)) (ps := []) rfl trivial) ?_
    have h := Option.some.inj h
    subst h
    exact Go_reti bk_Pz_cutter 125 rfl
def Pz_cutter_b56 (v1 : Int32) (v2 : Int32) (v3 : Int32) (σ : MH) : Option (Int32 × MH) := (Pz_cutter_L67 v1 v2 v3 (sI σ 109 1 (0 : Int32)) ((0 : Int32))).bind fun z7 => (match z7 with | .inl z7a => (Pz_cutter_L157 v1 v2 v3 ((0 : Int32), (-2 : Int32), (0 : Int32), sI σ 109 1 (0 : Int32))).bind fun z15 => if v2 = (0 : Int32) then some (z15.1, z15.2.2) else (if v3 = (0 : Int32) then (Pz_cutter_b226 v3 z15.2.1 z15.2.2) else (if z15.2.1 < (0 : Int32) then (Pz_cutter_b226 v3 z15.2.1 z15.2.2) else ((Pz_madeBy z15.2.1 (v2 - (10 : Int32)) z15.2.2).bind fun (x18, σ19) => some (x18, σ19)))) | .inr z7b => some (z7b, sI σ 109 1 (0 : Int32)))
set_option maxRecDepth 20000 in
set_option maxHeartbeats 2000000 in
theorem t_Pz_cutter_b56 (v1 : Int32) (v2 : Int32) (v3 : Int32)   (σ : MH) {o} (h : Pz_cutter_b56 v1 v2 v3 σ = some o) : Go m_Pz_cutter 3 (some 56, [some (.ref 0), some (.int v1), some (.int v2), some (.int v3), none, none, none], [], σ) ((none, [], [.int o.1], o.2)) := by
  unfold Pz_cutter_b56 at h
  refine Go.t (Go_sg bk_Pz_cutter 32 6 (c2 := (some 67, [some (.ref 0), some (.int v1), some (.int v2), some (.int v3), some (.int (0 : Int32)), none, none], [], sI σ 109 1 (0 : Int32))) (ps := [shk 0 = 10, shk 109 = 9]) rfl ⟨rfl, rfl, trivial⟩) ?_
  obtain ⟨z7, q8, h⟩ := bdS h
  refine Go.t (Go.t (Go.fg (LSub.cs (LSub.cs (LSub.cs (LSub.cs (LSub.cs (LSub.cn (LSub.cn (LSub.nil))))))))) (t_Pz_cutter_L67 v1 v2 v3 (sI σ 109 1 (0 : Int32)) _ q8)) ?_
  rcases z7 with z7a | z7b
  · dsimp only at h
    refine Go.t (Go_sg bk_Pz_cutter 82 6 (c2 := (some 157, [some (.ref 0), some (.int v1), some (.int v2), some (.int v3), some (.int (0 : Int32)), some (.int (-2 : Int32)), some (.int (0 : Int32))], [], sI σ 109 1 (0 : Int32))) (ps := []) rfl trivial) ?_
    obtain ⟨z15, q16, h⟩ := bdS h
    refine Go.t (Go.t (Go.fg (LSub.cs (LSub.cs (LSub.cs (LSub.cs (LSub.cs (LSub.cs (LSub.cs (LSub.nil))))))))) (t_Pz_cutter_L157 v1 v2 v3 _ q16)) ?_
    refine Go.t (Go_sg bk_Pz_cutter 105 1 (c2 := (some 198, [some (.ref 0), none, some (.int v2), some (.int v3), some (.int z15.1), some (.int z15.2.1), none], [.int v2], z15.2.2)) (ps := []) rfl trivial) ?_
    refine Go_if_ne bk_Pz_cutter 106 rfl (fun c23 => ?_) (fun c23 => ?_)
    · have h := ifF c23 h
      refine Go.t (Go_sg bk_Pz_cutter 109 1 (c2 := (some 205, [some (.ref 0), none, some (.int v2), some (.int v3), some (.int z15.1), some (.int z15.2.1), none], [.int v3], z15.2.2)) (ps := []) rfl trivial) ?_
      refine Go_if_eq bk_Pz_cutter 110 rfl (fun c22 => ?_) (fun c22 => ?_)
      · have h := ifT c22 h
        exact Go.t (Go.fg (LSub.cn (LSub.cn (LSub.cn (LSub.cs (LSub.cn (LSub.cs (LSub.cn (LSub.nil))))))))) (t_Pz_cutter_b226 v3 z15.2.1 z15.2.2 h)
      · have h := ifF c22 h
        refine Go.t (Go_sg bk_Pz_cutter 111 1 (c2 := (some 210, [some (.ref 0), none, some (.int v2), some (.int v3), some (.int z15.1), some (.int z15.2.1), none], [.int z15.2.1], z15.2.2)) (ps := []) rfl trivial) ?_
        refine Go_if_lt bk_Pz_cutter 112 rfl (fun c21 => ?_) (fun c21 => ?_)
        · have h := ifT c21 h
          exact Go.t (Go.fg (LSub.cn (LSub.cn (LSub.cn (LSub.cs (LSub.cn (LSub.cs (LSub.cn (LSub.nil))))))))) (t_Pz_cutter_b226 v3 z15.2.1 z15.2.2 h)
        · have h := ifF c21 h
          refine Go.t (Go_sg bk_Pz_cutter 113 5 (c2 := (some 220, [some (.ref 0), none, some (.int v2), some (.int v3), some (.int z15.1), some (.int z15.2.1), none], [.int (v2 - (10 : Int32)), .int z15.2.1, .ref 0], z15.2.2)) (ps := []) rfl trivial) ?_
          obtain ⟨⟨x18, σ19⟩, q20, h⟩ := bdS h
          dsimp only at h
          refine Go.t (Go_callV bk_Pz_cutter 118 rfl nk_Pz_madeBy tw1169 tw1171 tw43 (ci := 10) rfl (as := [.int z15.2.1, .int (v2 - (10 : Int32))]) (S := []) rfl rfl rfl rfl (Nat.le_of_ble_eq_true rfl) (Nat.le_of_ble_eq_true rfl) (ev_Pz_madeBy _ _ _ q20)) ?_
          refine Go.t (Go_sg bk_Pz_cutter 119 1 (c2 := (some 237, [some (.ref 0), none, some (.int v2), some (.int v3), some (.int z15.1), some (.int z15.2.1), none], [.int x18], σ19)) (ps := []) rfl trivial) ?_
          have h := Option.some.inj h
          subst h
          exact Go_reti bk_Pz_cutter 125 rfl
    · have h := ifT c23 h
      have h := Option.some.inj h
      subst h
      refine Go.t (Go_sg bk_Pz_cutter 107 1 (c2 := (some 203, [some (.ref 0), none, some (.int v2), some (.int v3), some (.int z15.1), some (.int z15.2.1), none], [.int z15.1], z15.2.2)) (ps := []) rfl trivial) ?_
      exact Go_reti bk_Pz_cutter 108 rfl
  · dsimp only at h
    have h := Option.some.inj h
    subst h
    exact Go.rf
def Pz_cutter_b17 (v1 : Int32) (v2 : Int32) (s0 : Int32) (σ : MH) : Option (Int32 × MH) := if v1 < (1 : Int32) then some ((-1 : Int32), σ) else (if (5 : Int32) < v1 then some ((-1 : Int32), σ) else (if σ.1 109 1 < (2 : Int32) * v1 then some ((-1 : Int32), σ) else (if v2 = (0 : Int32) then (Pz_cutter_b56 v1 v2 s0 σ) else (if v2 = (1 : Int32) then (Pz_cutter_b56 v1 v2 s0 σ) else (if s0 = (0 : Int32) then some ((-1 : Int32), σ) else (Pz_cutter_b56 v1 v2 s0 σ))))))
set_option maxRecDepth 20000 in
set_option maxHeartbeats 2000000 in
theorem t_Pz_cutter_b17 (v1 : Int32) (v2 : Int32) (s0 : Int32)   (σ : MH) {o} (h : Pz_cutter_b17 v1 v2 s0 σ = some o) : Go m_Pz_cutter 3 (some 17, [some (.ref 0), some (.int v1), some (.int v2), none, none, none, none], [.int s0], σ) ((none, [], [.int o.1], o.2)) := by
  unfold Pz_cutter_b17 at h
  refine Go.t (Go_sg bk_Pz_cutter 9 3 (c2 := (some 20, [some (.ref 0), some (.int v1), some (.int v2), some (.int s0), none, none, none], [.int (1 : Int32), .int v1], σ)) (ps := []) rfl trivial) ?_
  refine Go_icmp_lt bk_Pz_cutter 12 rfl (fun c29 => ?_) (fun c29 => ?_)
  · have h := ifT c29 h
    have h := Option.some.inj h
    subst h
    refine Go.t (Go_sg bk_Pz_cutter 30 1 (c2 := (some 55, [some (.ref 0), some (.int v1), some (.int v2), some (.int s0), none, none, none], [.int (-1 : Int32)], σ)) (ps := []) rfl trivial) ?_
    exact Go_reti bk_Pz_cutter 31 rfl
  · have h := ifF c29 h
    refine Go.t (Go_sg bk_Pz_cutter 13 2 (c2 := (some 25, [some (.ref 0), some (.int v1), some (.int v2), some (.int s0), none, none, none], [.int (5 : Int32), .int v1], σ)) (ps := []) rfl trivial) ?_
    refine Go_icmp_gt bk_Pz_cutter 15 rfl (fun c28 => ?_) (fun c28 => ?_)
    · have h := ifT c28 h
      have h := Option.some.inj h
      subst h
      refine Go.t (Go_sg bk_Pz_cutter 30 1 (c2 := (some 55, [some (.ref 0), some (.int v1), some (.int v2), some (.int s0), none, none, none], [.int (-1 : Int32)], σ)) (ps := []) rfl trivial) ?_
      exact Go_reti bk_Pz_cutter 31 rfl
    · have h := ifF c28 h
      refine Go.t (Go_sg bk_Pz_cutter 16 6 (c2 := (some 38, [some (.ref 0), some (.int v1), some (.int v2), some (.int s0), none, none, none], [.int (σ.1 109 1), .int ((2 : Int32) * v1)], σ)) (ps := [shk 0 = 10, shk 109 = 9]) rfl ⟨rfl, rfl, trivial⟩) ?_
      refine Go_icmp_gt bk_Pz_cutter 22 rfl (fun c27 => ?_) (fun c27 => ?_)
      · have h := ifT c27 h
        have h := Option.some.inj h
        subst h
        refine Go.t (Go_sg bk_Pz_cutter 30 1 (c2 := (some 55, [some (.ref 0), some (.int v1), some (.int v2), some (.int s0), none, none, none], [.int (-1 : Int32)], σ)) (ps := []) rfl trivial) ?_
        exact Go_reti bk_Pz_cutter 31 rfl
      · have h := ifF c27 h
        refine Go.t (Go_sg bk_Pz_cutter 23 1 (c2 := (some 42, [some (.ref 0), some (.int v1), some (.int v2), some (.int s0), none, none, none], [.int v2], σ)) (ps := []) rfl trivial) ?_
        refine Go_if_eq bk_Pz_cutter 24 rfl (fun c26 => ?_) (fun c26 => ?_)
        · have h := ifT c26 h
          exact Go.t (Go.fg (LSub.cs (LSub.cs (LSub.cs (LSub.cs (LSub.cn (LSub.cn (LSub.cn (LSub.nil))))))))) (t_Pz_cutter_b56 v1 v2 s0 σ h)
        · have h := ifF c26 h
          refine Go.t (Go_sg bk_Pz_cutter 25 2 (c2 := (some 47, [some (.ref 0), some (.int v1), some (.int v2), some (.int s0), none, none, none], [.int (1 : Int32), .int v2], σ)) (ps := []) rfl trivial) ?_
          refine Go_icmp_eq bk_Pz_cutter 27 rfl (fun c25 => ?_) (fun c25 => ?_)
          · have h := ifT c25 h
            exact Go.t (Go.fg (LSub.cs (LSub.cs (LSub.cs (LSub.cs (LSub.cn (LSub.cn (LSub.cn (LSub.nil))))))))) (t_Pz_cutter_b56 v1 v2 s0 σ h)
          · have h := ifF c25 h
            refine Go.t (Go_sg bk_Pz_cutter 28 1 (c2 := (some 51, [some (.ref 0), some (.int v1), some (.int v2), some (.int s0), none, none, none], [.int s0], σ)) (ps := []) rfl trivial) ?_
            refine Go_if_ne bk_Pz_cutter 29 rfl (fun c24 => ?_) (fun c24 => ?_)
            · have h := ifF c24 h
              exact Go.t (Go.fg (LSub.cs (LSub.cs (LSub.cs (LSub.cs (LSub.cn (LSub.cn (LSub.cn (LSub.nil))))))))) (t_Pz_cutter_b56 v1 v2 s0 σ h)
            · have h := ifT c24 h
              have h := Option.some.inj h
              subst h
              refine Go.t (Go_sg bk_Pz_cutter 30 1 (c2 := (some 55, [some (.ref 0), some (.int v1), some (.int v2), some (.int s0), none, none, none], [.int (-1 : Int32)], σ)) (ps := []) rfl trivial) ?_
              exact Go_reti bk_Pz_cutter 31 rfl
def Pz_cutter_b16 (v1 : Int32) (v2 : Int32) (σ : MH) : Option (Int32 × MH) := Pz_cutter_b17 v1 v2 (0 : Int32) σ
set_option maxRecDepth 20000 in
set_option maxHeartbeats 2000000 in
theorem t_Pz_cutter_b16 (v1 : Int32) (v2 : Int32)   (σ : MH) {o} (h : Pz_cutter_b16 v1 v2 σ = some o) : Go m_Pz_cutter 3 (some 16, [some (.ref 0), some (.int v1), some (.int v2), none, none, none, none], [], σ) ((none, [], [.int o.1], o.2)) := by
  unfold Pz_cutter_b16 at h
  refine Go.t (Go_sg bk_Pz_cutter 8 1 (c2 := (some 17, [some (.ref 0), some (.int v1), some (.int v2), none, none, none, none], [.int (0 : Int32)], σ)) (ps := []) rfl trivial) ?_
  exact Go.t (Go.fg (LSub.cs (LSub.cs (LSub.cs (LSub.cn (LSub.cn (LSub.cn (LSub.cn (LSub.nil))))))))) (t_Pz_cutter_b17 v1 v2 (0 : Int32) σ h)
def Pz_cutter0 (v1 : Int32) (v2 : Int32) (σ : MH) : Option (Int32 × MH) := if v2 < (10 : Int32) then (Pz_cutter_b16 v1 v2 σ) else (if (22 : Int32) ≤ v2 then (Pz_cutter_b16 v1 v2 σ) else (Pz_cutter_b17 v1 v2 (1 : Int32) σ))
set_option maxRecDepth 20000 in
set_option maxHeartbeats 2000000 in
theorem t_Pz_cutter0 (v1 : Int32) (v2 : Int32)  (σ : MH) {o} (h : Pz_cutter0 v1 v2 σ = some o) : Go m_Pz_cutter 3 (some 0, [some (.ref 0), some (.int v1), some (.int v2), none, none, none, none], [], σ) ((none, [], [.int o.1], o.2)) := by
  unfold Pz_cutter0 at h
  refine Go.t (Go_sg bk_Pz_cutter 0 2 (c2 := (some 3, [some (.ref 0), some (.int v1), some (.int v2), none, none, none, none], [.int (10 : Int32), .int v2], σ)) (ps := []) rfl trivial) ?_
  refine Go_icmp_lt bk_Pz_cutter 2 rfl (fun c31 => ?_) (fun c31 => ?_)
  · have h := ifT c31 h
    exact Go.t (Go.fg (LSub.cs (LSub.cs (LSub.cs (LSub.cn (LSub.cn (LSub.cn (LSub.cn (LSub.nil))))))))) (t_Pz_cutter_b16 v1 v2 σ h)
  · have h := ifF c31 h
    refine Go.t (Go_sg bk_Pz_cutter 3 2 (c2 := (some 9, [some (.ref 0), some (.int v1), some (.int v2), none, none, none, none], [.int (22 : Int32), .int v2], σ)) (ps := []) rfl trivial) ?_
    refine Go_icmp_ge bk_Pz_cutter 5 rfl (fun c30 => ?_) (fun c30 => ?_)
    · have h := ifT c30 h
      exact Go.t (Go.fg (LSub.cs (LSub.cs (LSub.cs (LSub.cn (LSub.cn (LSub.cn (LSub.cn (LSub.nil))))))))) (t_Pz_cutter_b16 v1 v2 σ h)
    · have h := ifF c30 h
      refine Go.t (Go_sg bk_Pz_cutter 6 2 (c2 := (some 17, [some (.ref 0), some (.int v1), some (.int v2), none, none, none, none], [.int (1 : Int32)], σ)) (ps := []) rfl trivial) ?_
      exact Go.t (Go.fg (LSub.cs (LSub.cs (LSub.cs (LSub.cn (LSub.cn (LSub.cn (LSub.cn (LSub.nil))))))))) (t_Pz_cutter_b17 v1 v2 (1 : Int32) σ h)
def Pz_cutter (v1 : Int32) (v2 : Int32) (σ : MH) : Option (Int32 × MH) := Pz_cutter0 v1 v2 σ
set_option maxRecDepth 20000 in
set_option maxHeartbeats 2000000 in
theorem ev_Pz_cutter (v1 : Int32) (v2 : Int32)  (σ : MH) {o} (h : Pz_cutter v1 v2 σ = some o) : Ev m_Pz_cutter 3 [.ref 0, .int v1, .int v2] σ (some (.int o.1)) o.2 := Ev.of2 (by decide +kernel) rfl (Nat.le_of_ble_eq_true rfl) ⟨.int, rfl, rfl⟩ (t_Pz_cutter0 v1 v2 σ h)
def cH_Pz_copies_19 (v1 : Int32) (σ : MH) (s : Int32 × Int32 × Int32) : MC := (some 19, [some (.ref 0), some (.int v1), some (.int s.1), some (.int s.2.1), some (.int s.2.2), none, none], [], σ)
def cR_Pz_copies_19 (v1 : Int32) (σ : MH) : ((Int32 × Int32)) → MC := (fun r : Int32 × Int32 => ((some 163, [none, some (.int v1), some (.int r.1), some (.int r.2), none, none, none], [], σ) : MC))
def cH_Pz_copies_32 (v1 : Int32) (v4 : Int32) (σ : MH) (s : Int32 × Int32 × Int32) : MC := (some 32, [some (.ref 0), some (.int v1), some (.int s.1), some (.int s.2.1), some (.int v4), some (.int s.2.2), none], [], σ)
def cR_Pz_copies_32 (v1 : Int32) (v4 : Int32) (σ : MH) : ((Int32 × Int32)) → MC := (fun r : Int32 × Int32 => ((some 157, [some (.ref 0), some (.int v1), some (.int r.1), some (.int r.2), some (.int v4), none, none], [], σ) : MC))
def Pz_copies_b151 (v1 : Int32) (v2 : Int32) (v3 : Int32) (v4 : Int32) (v5 : Int32) (σ : MH) : Option (((Int32 × Int32 × Int32) ⊕ ((Int32 × Int32)))) := some (.inl (v2, v3, v5 + (1 : Int32)))
set_option maxRecDepth 20000 in
set_option maxHeartbeats 2000000 in
theorem t_Pz_copies_b151 (v1 : Int32) (v2 : Int32) (v3 : Int32) (v4 : Int32) (v5 : Int32)   (σ : MH) {o} (h : Pz_copies_b151 v1 v2 v3 v4 v5 σ = some o) : Go m_Pz_copies 3 (some 151, [some (.ref 0), some (.int v1), some (.int v2), some (.int v3), some (.int v4), some (.int v5), none], [], σ) (cS (cH_Pz_copies_32 v1 v4 σ) (cR_Pz_copies_32 v1 v4 σ) o) := by
  unfold Pz_copies_b151 at h
  refine Go.t (Go_sg bk_Pz_copies 75 2 (c2 := (some 32, [some (.ref 0), some (.int v1), some (.int v2), some (.int v3), some (.int v4), some (.int (v5 + (1 : Int32))), none], [], σ)) (ps := []) rfl trivial) ?_
  have h := Option.some.inj h
  subst h
  exact Go.fg (LSub.cs (LSub.cs (LSub.cs (LSub.cs (LSub.cs (LSub.cs (LSub.cn (LSub.nil))))))))
def Pz_copies_b148 (v1 : Int32) (v2 : Int32) (v3 : Int32) (v4 : Int32) (v5 : Int32) (σ : MH) : Option (((Int32 × Int32 × Int32) ⊕ ((Int32 × Int32)))) := Pz_copies_b151 v1 (v2 + (1 : Int32)) v3 v4 v5 σ
set_option maxRecDepth 20000 in
set_option maxHeartbeats 2000000 in
theorem t_Pz_copies_b148 (v1 : Int32) (v2 : Int32) (v3 : Int32) (v4 : Int32) (v5 : Int32)   (σ : MH) {o} (h : Pz_copies_b148 v1 v2 v3 v4 v5 σ = some o) : Go m_Pz_copies 3 (some 148, [some (.ref 0), some (.int v1), some (.int v2), some (.int v3), some (.int v4), some (.int v5), none], [], σ) (cS (cH_Pz_copies_32 v1 v4 σ) (cR_Pz_copies_32 v1 v4 σ) o) := by
  unfold Pz_copies_b148 at h
  refine Go.t (Go_sg bk_Pz_copies 74 1 (c2 := (some 151, [some (.ref 0), some (.int v1), some (.int (v2 + (1 : Int32))), some (.int v3), some (.int v4), some (.int v5), none], [], σ)) (ps := []) rfl trivial) ?_
  exact Go.t (Go.fg (LSub.cs (LSub.cs (LSub.cs (LSub.cs (LSub.cs (LSub.cs (LSub.cn (LSub.nil))))))))) (t_Pz_copies_b151 v1 (v2 + (1 : Int32)) v3 v4 v5 σ h)
def Pz_copies_b147 (v1 : Int32) (v2 : Int32) (v4 : Int32) (v5 : Int32) (s0 : Int32) (σ : MH) : Option (((Int32 × Int32 × Int32) ⊕ ((Int32 × Int32)))) := Pz_copies_b148 v1 v2 s0 v4 v5 σ
set_option maxRecDepth 20000 in
set_option maxHeartbeats 2000000 in
theorem t_Pz_copies_b147 (v1 : Int32) (v2 : Int32) (v4 : Int32) (v5 : Int32) (s0 : Int32)   (σ : MH) {o} (h : Pz_copies_b147 v1 v2 v4 v5 s0 σ = some o) : Go m_Pz_copies 3 (some 147, [some (.ref 0), some (.int v1), some (.int v2), none, some (.int v4), some (.int v5), none], [.int s0], σ) (cS (cH_Pz_copies_32 v1 v4 σ) (cR_Pz_copies_32 v1 v4 σ) o) := by
  unfold Pz_copies_b147 at h
  refine Go.t (Go_sg bk_Pz_copies 73 1 (c2 := (some 148, [some (.ref 0), some (.int v1), some (.int v2), some (.int s0), some (.int v4), some (.int v5), none], [], σ)) (ps := []) rfl trivial) ?_
  exact Go.t (Go.fg (LSub.cs (LSub.cs (LSub.cs (LSub.cs (LSub.cs (LSub.cs (LSub.cn (LSub.nil))))))))) (t_Pz_copies_b148 v1 v2 s0 v4 v5 σ h)
def Pz_copies_b123 (v1 : Int32) (v2 : Int32) (v4 : Int32) (v5 : Int32) (s0 : Int32) (σ : MH) : Option (((Int32 × Int32 × Int32) ⊕ ((Int32 × Int32)))) := if v1 = (1 : Int32) then (Pz_copies_b147 v1 v2 v4 v5 v4 σ) else (if v1 = (2 : Int32) then (Pz_copies_b147 v1 v2 v4 v5 v5 σ) else (Pz_copies_b147 v1 v2 v4 v5 s0 σ))
set_option maxRecDepth 20000 in
set_option maxHeartbeats 2000000 in
theorem t_Pz_copies_b123 (v1 : Int32) (v2 : Int32) (v4 : Int32) (v5 : Int32) (s0 : Int32)   (σ : MH) {o} (h : Pz_copies_b123 v1 v2 v4 v5 s0 σ = some o) : Go m_Pz_copies 3 (some 123, [some (.ref 0), some (.int v1), some (.int v2), none, some (.int v4), some (.int v5), none], [.int s0], σ) (cS (cH_Pz_copies_32 v1 v4 σ) (cR_Pz_copies_32 v1 v4 σ) o) := by
  unfold Pz_copies_b123 at h
  refine Go.t (Go_sg bk_Pz_copies 61 3 (c2 := (some 127, [some (.ref 0), some (.int v1), some (.int v2), none, some (.int v4), some (.int v5), some (.int s0)], [.int (1 : Int32), .int v1], σ)) (ps := []) rfl trivial) ?_
  refine Go_icmp_ne bk_Pz_copies 64 rfl (fun c13 => ?_) (fun c13 => ?_)
  · have h := ifF c13 h
    refine Go.t (Go_sg bk_Pz_copies 67 2 (c2 := (some 137, [some (.ref 0), some (.int v1), some (.int v2), none, some (.int v4), some (.int v5), some (.int s0)], [.int (2 : Int32), .int v1], σ)) (ps := []) rfl trivial) ?_
    refine Go_icmp_ne bk_Pz_copies 69 rfl (fun c12 => ?_) (fun c12 => ?_)
    · have h := ifF c12 h
      refine Go.t (Go_sg bk_Pz_copies 72 1 (c2 := (some 147, [some (.ref 0), some (.int v1), some (.int v2), none, some (.int v4), some (.int v5), some (.int s0)], [.int s0], σ)) (ps := []) rfl trivial) ?_
      exact Go.t (Go.fg (LSub.cs (LSub.cs (LSub.cs (LSub.cn (LSub.cs (LSub.cs (LSub.cn (LSub.nil))))))))) (t_Pz_copies_b147 v1 v2 v4 v5 s0 σ h)
    · have h := ifT c12 h
      refine Go.t (Go_sg bk_Pz_copies 70 2 (c2 := (some 147, [some (.ref 0), some (.int v1), some (.int v2), none, some (.int v4), some (.int v5), some (.int s0)], [.int v5], σ)) (ps := []) rfl trivial) ?_
      exact Go.t (Go.fg (LSub.cs (LSub.cs (LSub.cs (LSub.cn (LSub.cs (LSub.cs (LSub.cn (LSub.nil))))))))) (t_Pz_copies_b147 v1 v2 v4 v5 v5 σ h)
  · have h := ifT c13 h
    refine Go.t (Go_sg bk_Pz_copies 65 2 (c2 := (some 147, [some (.ref 0), some (.int v1), some (.int v2), none, some (.int v4), some (.int v5), some (.int s0)], [.int v4], σ)) (ps := []) rfl trivial) ?_
    exact Go.t (Go.fg (LSub.cs (LSub.cs (LSub.cs (LSub.cn (LSub.cs (LSub.cs (LSub.cn (LSub.nil))))))))) (t_Pz_copies_b147 v1 v2 v4 v5 v4 σ h)
def Pz_copies_l32 (v1 : Int32) (v4 : Int32) (v2 : Int32) (v3 : Int32) (v5 : Int32) (σ : MH) : Option (((Int32 × Int32 × Int32) ⊕ ((Int32 × Int32)))) := if (12 : Int32) ≤ v5 then some (.inr (v2, v3)) else ((Land_isTold 1 v4 σ).bind fun x1 => if x1 = (0 : Int32) then (Pz_copies_b151 v1 v2 v3 v4 v5 σ) else ((Land_isTold 1 v5 σ).bind fun x4 => if x4 = (0 : Int32) then (Pz_copies_b151 v1 v2 v3 v4 v5 σ) else (if inb v4 12 = true then if inb v5 12 = true then (Pz_sameRow (rfv 9 v4.toNatClampNeg) (rfv 9 v5.toNatClampNeg) σ).bind fun x9 => if x9 = (0 : Int32) then (Pz_copies_b151 v1 v2 v3 v4 v5 σ) else (if v2 = (0 : Int32) then (if σ.1 8 v5.toNatClampNeg ≤ σ.1 8 v4.toNatClampNeg then (Pz_copies_b123 v1 v2 v4 v5 v5 σ) else (Pz_copies_b123 v1 v2 v4 v5 v4 σ)) else (Pz_copies_b148 v1 v2 v3 v4 v5 σ)) else none else none)))
set_option maxRecDepth 20000 in
set_option maxHeartbeats 2000000 in
theorem t_Pz_copies_l32 (v1 : Int32) (v4 : Int32) (v2 : Int32) (v3 : Int32) (v5 : Int32)  (σ : MH) {o} (h : Pz_copies_l32 v1 v4 v2 v3 v5 σ = some o) : Go m_Pz_copies 3 (cH_Pz_copies_32 v1 v4 σ (v2, v3, v5)) (cS (cH_Pz_copies_32 v1 v4 σ) (cR_Pz_copies_32 v1 v4 σ) o) := by
  unfold Pz_copies_l32 at h
  unfold cH_Pz_copies_32
  refine Go.t (Go_sg bk_Pz_copies 20 2 (c2 := (some 36, [some (.ref 0), some (.int v1), some (.int v2), some (.int v3), some (.int v4), some (.int v5), none], [.int (12 : Int32), .int v5], σ)) (ps := []) rfl trivial) ?_
  refine Go_icmp_ge bk_Pz_copies 22 rfl (fun c19 => ?_) (fun c19 => ?_)
  · have h := ifT c19 h
    have h := Option.some.inj h
    subst h
    exact Go.fg (LSub.cs (LSub.cs (LSub.cs (LSub.cs (LSub.cs (LSub.cn (LSub.cn (LSub.nil))))))))
  · have h := ifF c19 h
    refine Go.t (Go_sg bk_Pz_copies 23 3 (c2 := (some 45, [some (.ref 0), some (.int v1), some (.int v2), some (.int v3), some (.int v4), some (.int v5), none], [.int v4, .ref 1], σ)) (ps := [shk 0 = 10]) rfl ⟨rfl, trivial⟩) ?_
    obtain ⟨x1, q3, h⟩ := bdS h
    refine Go.t (Go_callV bk_Pz_copies 26 rfl nk_Land_isTold tw555 tw556 tw557 (ci := 3) rfl (as := [.int v4]) (S := []) rfl rfl rfl rfl (Nat.le_of_ble_eq_true rfl) (Nat.le_of_ble_eq_true rfl) (ev_Land_isTold _ _ (Or.inl rfl) _ q3)) ?_
    refine Go_if_eq bk_Pz_copies 27 rfl (fun c18 => ?_) (fun c18 => ?_)
    · have h := ifT c18 h
      exact Go.t (Go.fg (LSub.cs (LSub.cs (LSub.cs (LSub.cs (LSub.cs (LSub.cs (LSub.cn (LSub.nil))))))))) (t_Pz_copies_b151 v1 v2 v3 v4 v5 σ h)
    · have h := ifF c18 h
      refine Go.t (Go_sg bk_Pz_copies 28 3 (c2 := (some 57, [some (.ref 0), some (.int v1), some (.int v2), some (.int v3), some (.int v4), some (.int v5), none], [.int v5, .ref 1], σ)) (ps := [shk 0 = 10]) rfl ⟨rfl, trivial⟩) ?_
      obtain ⟨x4, q6, h⟩ := bdS h
      refine Go.t (Go_callV bk_Pz_copies 31 rfl nk_Land_isTold tw555 tw556 tw557 (ci := 3) rfl (as := [.int v5]) (S := []) rfl rfl rfl rfl (Nat.le_of_ble_eq_true rfl) (Nat.le_of_ble_eq_true rfl) (ev_Land_isTold _ _ (Or.inl rfl) _ q6)) ?_
      refine Go_if_eq bk_Pz_copies 32 rfl (fun c17 => ?_) (fun c17 => ?_)
      · have h := ifT c17 h
        exact Go.t (Go.fg (LSub.cs (LSub.cs (LSub.cs (LSub.cs (LSub.cs (LSub.cs (LSub.cn (LSub.nil))))))))) (t_Pz_copies_b151 v1 v2 v3 v4 v5 σ h)
      · have h := ifF c17 h
        obtain ⟨g7, h⟩ := gdS h
        obtain ⟨g8, h⟩ := gdS h
        refine Go.t (Go_sg bk_Pz_copies 33 10 (c2 := (some 83, [some (.ref 0), some (.int v1), some (.int v2), some (.int v3), some (.int v4), some (.int v5), none], [.ref (rfv 9 v5.toNatClampNeg), .ref (rfv 9 v4.toNatClampNeg)], σ)) (ps := [shk 0 = 10, shk 1 = 3, IR 9 12 ∧ inb v4 12 = true, shk 0 = 10, shk 1 = 3, IR 9 12 ∧ inb v5 12 = true]) rfl ⟨rfl, rfl, ⟨⟨rfl, rfl⟩, g7⟩, rfl, rfl, ⟨⟨rfl, rfl⟩, g8⟩, trivial⟩) ?_
        obtain ⟨x9, q11, h⟩ := bdS h
        refine Go.t (Go_callS bk_Pz_copies 43 rfl nk_Pz_sameRow tw1166 tw1167 (as := [.ref (rfv 9 v4.toNatClampNeg), .ref (rfv 9 v5.toNatClampNeg)]) (S := []) rfl rfl rfl (Nat.le_of_ble_eq_true rfl) (Nat.le_of_ble_eq_true rfl) (ev_Pz_sameRow _ _ (rw_9 g7) (rw_9 g8) _ q11)) ?_
        refine Go_if_eq bk_Pz_copies 44 rfl (fun c16 => ?_) (fun c16 => ?_)
        · have h := ifT c16 h
          exact Go.t (Go.fg (LSub.cs (LSub.cs (LSub.cs (LSub.cs (LSub.cs (LSub.cs (LSub.cn (LSub.nil))))))))) (t_Pz_copies_b151 v1 v2 v3 v4 v5 σ h)
        · have h := ifF c16 h
          refine Go.t (Go_sg bk_Pz_copies 45 1 (c2 := (some 90, [some (.ref 0), some (.int v1), some (.int v2), some (.int v3), some (.int v4), some (.int v5), none], [.int v2], σ)) (ps := []) rfl trivial) ?_
          refine Go_if_ne bk_Pz_copies 46 rfl (fun c15 => ?_) (fun c15 => ?_)
          · have h := ifF c15 h
            exact Go.t (Go.fg (LSub.cs (LSub.cs (LSub.cs (LSub.cs (LSub.cs (LSub.cs (LSub.cn (LSub.nil))))))))) (t_Pz_copies_b148 v1 v2 v3 v4 v5 σ h)
          · have h := ifT c15 h
            refine Go.t (Go_sg bk_Pz_copies 47 10 (c2 := (some 113, [some (.ref 0), some (.int v1), some (.int v2), some (.int v3), some (.int v4), some (.int v5), none], [.int (σ.1 8 v5.toNatClampNeg), .int (σ.1 8 v4.toNatClampNeg)], σ)) (ps := [shk 0 = 10, shk 1 = 3, IA 8 12 ∧ inb v4 12 = true, shk 0 = 10, shk 1 = 3, IA 8 12 ∧ inb v5 12 = true]) rfl ⟨rfl, rfl, ⟨⟨rfl, rfl⟩, g7⟩, rfl, rfl, ⟨⟨rfl, rfl⟩, g8⟩, trivial⟩) ?_
            refine Go_icmp_ge bk_Pz_copies 57 rfl (fun c14 => ?_) (fun c14 => ?_)
            · have h := ifT c14 h
              refine Go.t (Go_sg bk_Pz_copies 60 1 (c2 := (some 123, [some (.ref 0), some (.int v1), some (.int v2), some (.int v3), some (.int v4), some (.int v5), none], [.int v5], σ)) (ps := []) rfl trivial) ?_
              exact Go.t (Go.fg (LSub.cs (LSub.cs (LSub.cs (LSub.cn (LSub.cs (LSub.cs (LSub.cn (LSub.nil))))))))) (t_Pz_copies_b123 v1 v2 v4 v5 v5 σ h)
            · have h := ifF c14 h
              refine Go.t (Go_sg bk_Pz_copies 58 2 (c2 := (some 123, [some (.ref 0), some (.int v1), some (.int v2), some (.int v3), some (.int v4), some (.int v5), none], [.int v4], σ)) (ps := []) rfl trivial) ?_
              exact Go.t (Go.fg (LSub.cs (LSub.cs (LSub.cs (LSub.cn (LSub.cs (LSub.cs (LSub.cn (LSub.nil))))))))) (t_Pz_copies_b123 v1 v2 v4 v5 v4 σ h)
def Pz_copies_L32 (v1 : Int32) (v4 : Int32) (σ : MH) (s : Int32 × Int32 × Int32) : Option ((Int32 × Int32)) := itr (fun s : Int32 × Int32 × Int32 => Pz_copies_l32 v1 v4 s.1 s.2.1 s.2.2 σ) FU s
set_option maxRecDepth 20000 in
set_option maxHeartbeats 2000000 in
theorem t_Pz_copies_L32 (v1 : Int32) (v4 : Int32)  (σ : MH) (s : Int32 × Int32 × Int32) {r} (h : Pz_copies_L32 v1 v4 σ s = some r) : Go m_Pz_copies 3 (cH_Pz_copies_32 v1 v4 σ s) (cR_Pz_copies_32 v1 v4 σ r) := Go_itr (fun s o ho => t_Pz_copies_l32 v1 v4 s.1 s.2.1 s.2.2 σ ho) FU s r h
def Pz_copies_l19 (v1 : Int32) (v2 : Int32) (v3 : Int32) (v4 : Int32) (σ : MH) : Option (((Int32 × Int32 × Int32) ⊕ ((Int32 × Int32)))) := if (12 : Int32) ≤ v4 then some (.inr (v2, v3)) else ((Pz_copies_L32 v1 v4 σ (v2, v3, v4 + (1 : Int32))).bind fun z20 => some (.inl (z20.1, z20.2, v4 + (1 : Int32))))
set_option maxRecDepth 20000 in
set_option maxHeartbeats 2000000 in
theorem t_Pz_copies_l19 (v1 : Int32) (v2 : Int32) (v3 : Int32) (v4 : Int32)  (σ : MH) {o} (h : Pz_copies_l19 v1 v2 v3 v4 σ = some o) : Go m_Pz_copies 3 (cH_Pz_copies_19 v1 σ (v2, v3, v4)) (cS (cH_Pz_copies_19 v1 σ) (cR_Pz_copies_19 v1 σ) o) := by
  unfold Pz_copies_l19 at h
  unfold cH_Pz_copies_19
  refine Go.t (Go_sg bk_Pz_copies 13 2 (c2 := (some 23, [some (.ref 0), some (.int v1), some (.int v2), some (.int v3), some (.int v4), none, none], [.int (12 : Int32), .int v4], σ)) (ps := []) rfl trivial) ?_
  refine Go_icmp_ge bk_Pz_copies 15 rfl (fun c22 => ?_) (fun c22 => ?_)
  · have h := ifT c22 h
    have h := Option.some.inj h
    subst h
    exact Go.fg (LSub.cn (LSub.cs (LSub.cs (LSub.cs (LSub.cn (LSub.cn (LSub.cn (LSub.nil))))))))
  · have h := ifF c22 h
    refine Go.t (Go_sg bk_Pz_copies 16 4 (c2 := (some 32, [some (.ref 0), some (.int v1), some (.int v2), some (.int v3), some (.int v4), some (.int (v4 + (1 : Int32))), none], [], σ)) (ps := []) rfl trivial) ?_
    obtain ⟨z20, q21, h⟩ := bdS h
    refine Go.t (Go.t (Go.fg (LSub.cs (LSub.cs (LSub.cs (LSub.cs (LSub.cs (LSub.cs (LSub.cn (LSub.nil))))))))) (t_Pz_copies_L32 v1 v4 σ _ q21)) ?_
    refine Go.t (Go_sg bk_Pz_copies 77 2 (c2 := (some 19, [some (.ref 0), some (.int v1), some (.int z20.1), some (.int z20.2), some (.int (v4 + (1 : Int32))), none, none], [], σ)) (ps := []) rfl trivial) ?_
    have h := Option.some.inj h
    subst h
    exact Go.fg (LSub.cs (LSub.cs (LSub.cs (LSub.cs (LSub.cs (LSub.cn (LSub.cn (LSub.nil))))))))
def Pz_copies_L19 (v1 : Int32) (σ : MH) (s : Int32 × Int32 × Int32) : Option ((Int32 × Int32)) := itr (fun s : Int32 × Int32 × Int32 => Pz_copies_l19 v1 s.1 s.2.1 s.2.2 σ) FU s
set_option maxRecDepth 20000 in
set_option maxHeartbeats 2000000 in
theorem t_Pz_copies_L19 (v1 : Int32)  (σ : MH) (s : Int32 × Int32 × Int32) {r} (h : Pz_copies_L19 v1 σ s = some r) : Go m_Pz_copies 3 (cH_Pz_copies_19 v1 σ s) (cR_Pz_copies_19 v1 σ r) := Go_itr (fun s o ho => t_Pz_copies_l19 v1 s.1 s.2.1 s.2.2 σ ho) FU s r h
def Pz_copies0 (v1 : Int32) (σ : MH) : Option (Int32) := if v1 < (0 : Int32) then some ((-1 : Int32)) else (if v1 ≤ (3 : Int32) then ((Pz_copies_L19 v1 σ ((0 : Int32), (-2 : Int32), (0 : Int32))).bind fun z23 => if v1 = (0 : Int32) then some (z23.1) else some (z23.2)) else some ((-1 : Int32)))
set_option maxRecDepth 20000 in
set_option maxHeartbeats 2000000 in
theorem t_Pz_copies0 (v1 : Int32)  (σ : MH) {o} (h : Pz_copies0 v1 σ = some o) : Go m_Pz_copies 3 (some 0, [some (.ref 0), some (.int v1), none, none, none, none, none], [], σ) ((none, [], [.int o], σ)) := by
  unfold Pz_copies0 at h
  refine Go.t (Go_sg bk_Pz_copies 0 1 (c2 := (some 1, [some (.ref 0), some (.int v1), none, none, none, none, none], [.int v1], σ)) (ps := []) rfl trivial) ?_
  refine Go_if_lt bk_Pz_copies 1 rfl (fun c27 => ?_) (fun c27 => ?_)
  · have h := ifT c27 h
    have h := Option.some.inj h
    subst h
    refine Go.t (Go_sg bk_Pz_copies 5 1 (c2 := (some 10, [some (.ref 0), some (.int v1), none, none, none, none, none], [.int (-1 : Int32)], σ)) (ps := []) rfl trivial) ?_
    exact Go_reti bk_Pz_copies 6 rfl
  · have h := ifF c27 h
    refine Go.t (Go_sg bk_Pz_copies 2 2 (c2 := (some 6, [some (.ref 0), some (.int v1), none, none, none, none, none], [.int (3 : Int32), .int v1], σ)) (ps := []) rfl trivial) ?_
    refine Go_icmp_le bk_Pz_copies 4 rfl (fun c26 => ?_) (fun c26 => ?_)
    · have h := ifT c26 h
      refine Go.t (Go_sg bk_Pz_copies 7 6 (c2 := (some 19, [some (.ref 0), some (.int v1), some (.int (0 : Int32)), some (.int (-2 : Int32)), some (.int (0 : Int32)), none, none], [], σ)) (ps := []) rfl trivial) ?_
      obtain ⟨z23, q24, h⟩ := bdS h
      refine Go.t (Go.t (Go.fg (LSub.cs (LSub.cs (LSub.cs (LSub.cs (LSub.cs (LSub.cn (LSub.cn (LSub.nil))))))))) (t_Pz_copies_L19 v1 σ _ q24)) ?_
      refine Go.t (Go_sg bk_Pz_copies 79 1 (c2 := (some 164, [none, some (.int v1), some (.int z23.1), some (.int z23.2), none, none, none], [.int v1], σ)) (ps := []) rfl trivial) ?_
      refine Go_if_ne bk_Pz_copies 80 rfl (fun c25 => ?_) (fun c25 => ?_)
      · have h := ifF c25 h
        have h := Option.some.inj h
        subst h
        refine Go.t (Go_sg bk_Pz_copies 83 1 (c2 := (some 172, [none, some (.int v1), some (.int z23.1), some (.int z23.2), none, none, none], [.int z23.2], σ)) (ps := []) rfl trivial) ?_
        exact Go_reti bk_Pz_copies 84 rfl
      · have h := ifT c25 h
        refine Go.t (Go_sg bk_Pz_copies 81 2 (c2 := (some 172, [none, some (.int v1), some (.int z23.1), some (.int z23.2), none, none, none], [.int z23.1], σ)) (ps := []) rfl trivial) ?_
        have h := Option.some.inj h
        subst h
        exact Go_reti bk_Pz_copies 84 rfl
    · have h := ifF c26 h
      have h := Option.some.inj h
      subst h
      refine Go.t (Go_sg bk_Pz_copies 5 1 (c2 := (some 10, [some (.ref 0), some (.int v1), none, none, none, none, none], [.int (-1 : Int32)], σ)) (ps := []) rfl trivial) ?_
      exact Go_reti bk_Pz_copies 6 rfl
def Pz_copies (v1 : Int32) (σ : MH) : Option (Int32) := Pz_copies0 v1 σ
set_option maxRecDepth 20000 in
set_option maxHeartbeats 2000000 in
theorem ev_Pz_copies (v1 : Int32)  (σ : MH) {o} (h : Pz_copies v1 σ = some o) : Ev m_Pz_copies 3 [.ref 0, .int v1] σ (some (.int o)) σ := Ev.of2 (by decide +kernel) rfl (Nat.le_of_ble_eq_true rfl) ⟨.int, rfl, rfl⟩ (t_Pz_copies0 v1 σ h)
def Pz_mate0 (v1 : Int32) (v2 : Int32) (σ : MH) : Option (Int32) := (Pz_isNumber v1 σ).bind fun x1 => if x1 = (0 : Int32) then some ((-1 : Int32)) else (if v2 < (0 : Int32) then some ((-1 : Int32)) else (if v2 < (8 : Int32) then (if inb v1 12 = true then if inb ((7 : Int32) - v2) 8 = true then some ((10 : Int32) - (σ.1 (rfv 9 v1.toNatClampNeg) ((7 : Int32) - v2).toNatClampNeg)) else none else none) else some ((-1 : Int32))))
set_option maxRecDepth 20000 in
set_option maxHeartbeats 2000000 in
theorem t_Pz_mate0 (v1 : Int32) (v2 : Int32)  (σ : MH) {o} (h : Pz_mate0 v1 v2 σ = some o) : Go m_Pz_mate 2 (some 0, [some (.ref 0), some (.int v1), some (.int v2)], [], σ) ((none, [], [.int o], σ)) := by
  unfold Pz_mate0 at h
  refine Go.t (Go_sg bk_Pz_mate 0 1 (c2 := (some 1, [some (.ref 0), some (.int v1), some (.int v2)], [.int v1], σ)) (ps := []) rfl trivial) ?_
  obtain ⟨x1, q3, h⟩ := bdS h
  refine Go.t (Go_callS bk_Pz_mate 1 rfl nk_Pz_isNumber tw552 tw553 (as := [.int v1]) (S := []) rfl rfl rfl (Nat.le_of_ble_eq_true rfl) (Nat.le_of_ble_eq_true rfl) (ev_Pz_isNumber _ _ q3)) ?_
  refine Go_if_eq bk_Pz_mate 2 rfl (fun c8 => ?_) (fun c8 => ?_)
  · have h := ifT c8 h
    have h := Option.some.inj h
    subst h
    refine Go.t (Go_sg bk_Pz_mate 8 1 (c2 := (some 18, [some (.ref 0), some (.int v1), some (.int v2)], [.int (-1 : Int32)], σ)) (ps := []) rfl trivial) ?_
    exact Go_reti bk_Pz_mate 9 rfl
  · have h := ifF c8 h
    refine Go.t (Go_sg bk_Pz_mate 3 1 (c2 := (some 8, [some (.ref 0), some (.int v1), some (.int v2)], [.int v2], σ)) (ps := []) rfl trivial) ?_
    refine Go_if_lt bk_Pz_mate 4 rfl (fun c7 => ?_) (fun c7 => ?_)
    · have h := ifT c7 h
      have h := Option.some.inj h
      subst h
      refine Go.t (Go_sg bk_Pz_mate 8 1 (c2 := (some 18, [some (.ref 0), some (.int v1), some (.int v2)], [.int (-1 : Int32)], σ)) (ps := []) rfl trivial) ?_
      exact Go_reti bk_Pz_mate 9 rfl
    · have h := ifF c7 h
      refine Go.t (Go_sg bk_Pz_mate 5 2 (c2 := (some 14, [some (.ref 0), some (.int v1), some (.int v2)], [.int (8 : Int32), .int v2], σ)) (ps := []) rfl trivial) ?_
      refine Go_icmp_lt bk_Pz_mate 7 rfl (fun c6 => ?_) (fun c6 => ?_)
      · have h := ifT c6 h
        obtain ⟨g4, h⟩ := gdS h
        obtain ⟨g5, h⟩ := gdS h
        have h := Option.some.inj h
        subst h
        refine Go.t (Go_sg bk_Pz_mate 10 11 (c2 := (some 36, [some (.ref 0), some (.int v1), some (.int v2)], [.int ((10 : Int32) - (σ.1 (rfv 9 v1.toNatClampNeg) ((7 : Int32) - v2).toNatClampNeg))], σ)) (ps := [shk 0 = 10, shk 1 = 3, IR 9 12 ∧ inb v1 12 = true, IA (rfv 9 v1.toNatClampNeg) 8 ∧ inb ((7 : Int32) - v2) 8 = true]) rfl ⟨rfl, rfl, ⟨⟨rfl, rfl⟩, g4⟩, ⟨(rw_9 g4), g5⟩, trivial⟩) ?_
        exact Go_reti bk_Pz_mate 21 rfl
      · have h := ifF c6 h
        have h := Option.some.inj h
        subst h
        refine Go.t (Go_sg bk_Pz_mate 8 1 (c2 := (some 18, [some (.ref 0), some (.int v1), some (.int v2)], [.int (-1 : Int32)], σ)) (ps := []) rfl trivial) ?_
        exact Go_reti bk_Pz_mate 9 rfl
def Pz_mate (v1 : Int32) (v2 : Int32) (σ : MH) : Option (Int32) := Pz_mate0 v1 v2 σ
set_option maxRecDepth 20000 in
set_option maxHeartbeats 2000000 in
theorem ev_Pz_mate (v1 : Int32) (v2 : Int32)  (σ : MH) {o} (h : Pz_mate v1 v2 σ = some o) : Ev m_Pz_mate 2 [.ref 0, .int v1, .int v2] σ (some (.int o)) σ := Ev.of2 (by decide +kernel) rfl (Nat.le_of_ble_eq_true rfl) ⟨.int, rfl, rfl⟩ (t_Pz_mate0 v1 v2 σ h)
def Pz_seed0 (v1 : Int32) (σ : MH) : Option (Int32 × MH) := if v1 < (0 : Int32) then some ((0 : Int32), σ) else (if v1 ≤ (65535 : Int32) then some ((1 : Int32), sI σ 1 14 v1) else some ((0 : Int32), σ))
set_option maxRecDepth 20000 in
set_option maxHeartbeats 2000000 in
theorem t_Pz_seed0 (v1 : Int32)  (σ : MH) {o} (h : Pz_seed0 v1 σ = some o) : Go m_Pz_seed 1 (some 0, [some (.ref 0), some (.int v1)], [], σ) ((none, [], [.int o.1], o.2)) := by
  unfold Pz_seed0 at h
  refine Go.t (Go_sg bk_Pz_seed 0 1 (c2 := (some 1, [some (.ref 0), some (.int v1)], [.int v1], σ)) (ps := []) rfl trivial) ?_
  refine Go_if_lt bk_Pz_seed 1 rfl (fun c2 => ?_) (fun c2 => ?_)
  · have h := ifT c2 h
    have h := Option.some.inj h
    subst h
    refine Go.t (Go_sg bk_Pz_seed 5 1 (c2 := (some 12, [some (.ref 0), some (.int v1)], [.int (0 : Int32)], σ)) (ps := []) rfl trivial) ?_
    exact Go_reti bk_Pz_seed 6 rfl
  · have h := ifF c2 h
    refine Go.t (Go_sg bk_Pz_seed 2 2 (c2 := (some 8, [some (.ref 0), some (.int v1)], [.int (65535 : Int32), .int v1], σ)) (ps := []) rfl trivial) ?_
    refine Go_icmp_le bk_Pz_seed 4 rfl (fun c1 => ?_) (fun c1 => ?_)
    · have h := ifT c1 h
      have h := Option.some.inj h
      subst h
      refine Go.t (Go_sg bk_Pz_seed 7 5 (c2 := (some 22, [some (.ref 0), some (.int v1)], [.int (1 : Int32)], sI σ 1 14 v1)) (ps := [shk 0 = 10, shk 1 = 3]) rfl ⟨rfl, rfl, trivial⟩) ?_
      exact Go_reti bk_Pz_seed 12 rfl
    · have h := ifF c1 h
      have h := Option.some.inj h
      subst h
      refine Go.t (Go_sg bk_Pz_seed 5 1 (c2 := (some 12, [some (.ref 0), some (.int v1)], [.int (0 : Int32)], σ)) (ps := []) rfl trivial) ?_
      exact Go_reti bk_Pz_seed 6 rfl
def Pz_seed (v1 : Int32) (σ : MH) : Option (Int32 × MH) := bzo (Pz_seed0 v1 σ)
set_option maxRecDepth 20000 in
set_option maxHeartbeats 2000000 in
theorem ev_Pz_seed (v1 : Int32)  (σ : MH) {o} (h : Pz_seed v1 σ = some o) : Ev m_Pz_seed 1 [.ref 0, .int v1] σ (some (.int o.1)) o.2 := Ev.of2 (by decide +kernel) rfl (Nat.le_of_ble_eq_true rfl) ⟨.boolean, rfl, nrB (bzo2 h)⟩ (t_Pz_seed0 v1 σ (bzo1 h))
def Pz_keep0  (σ : MH) : Option (Int32 × MH) := (Land_copyFrom 37 1 σ).bind fun σ2 => (Land_countTwos 1 (sI σ2 0 3 (1 : Int32))).bind fun x4 => some (x4, sI σ2 0 3 (1 : Int32))
set_option maxRecDepth 20000 in
set_option maxHeartbeats 2000000 in
theorem t_Pz_keep0   (σ : MH) {o} (h : Pz_keep0 σ = some o) : Go m_Pz_keep 3 (some 0, [some (.ref 0)], [], σ) ((none, [], [.int o.1], o.2)) := by
  unfold Pz_keep0 at h
  refine Go.t (Go_sg bk_Pz_keep 0 4 (c2 := (some 8, [some (.ref 0)], [.ref 1, .ref 37], σ)) (ps := [shk 0 = 10, shk 0 = 10]) rfl ⟨rfl, rfl, trivial⟩) ?_
  obtain ⟨σ2, q3, h⟩ := bdS h
  refine Go.t (Go_callV bk_Pz_keep 4 rfl nk_Land_copyFrom tw944 tw945 tw946 (ci := 3) rfl (as := [.ref 1]) (S := []) rfl rfl rfl rfl (Nat.le_of_ble_eq_true rfl) (Nat.le_of_ble_eq_true rfl) (ev_Land_copyFrom _ _ (Or.inr (Or.inl rfl)) (Or.inl rfl) _ q3)) ?_
  refine Go.t (Go_sg bk_Pz_keep 5 5 (c2 := (some 20, [some (.ref 0)], [.ref 1], sI σ2 0 3 (1 : Int32))) (ps := [(shk 0 = 10 ∧ bz (1 : Int32) = true), shk 0 = 10]) rfl ⟨⟨rfl, rfl⟩, rfl, trivial⟩) ?_
  obtain ⟨x4, q6, h⟩ := bdS h
  refine Go.t (Go_callV bk_Pz_keep 10 rfl nk_Land_countTwos tw949 tw950 tw951 (ci := 3) rfl (as := []) (S := []) rfl rfl rfl rfl (Nat.le_of_ble_eq_true rfl) (Nat.le_of_ble_eq_true rfl) (ev_Land_countTwos _ (Or.inl rfl) _ q6)) ?_
  have h := Option.some.inj h
  subst h
  exact Go_reti bk_Pz_keep 11 rfl
def Pz_keep  (σ : MH) : Option (Int32 × MH) := Pz_keep0 σ
set_option maxRecDepth 20000 in
set_option maxHeartbeats 2000000 in
theorem ev_Pz_keep   (σ : MH) {o} (h : Pz_keep σ = some o) : Ev m_Pz_keep 3 [.ref 0] σ (some (.int o.1)) o.2 := Ev.of2 (by decide +kernel) rfl (Nat.le_of_ble_eq_true rfl) ⟨.int, rfl, rfl⟩ (t_Pz_keep0 σ h)
def Pz_undo0  (σ : MH) : Option (Int32 × MH) := if σ.1 0 3 = (0 : Int32) then some ((0 : Int32), σ) else ((Land_copyFrom 1 37 σ).bind fun σ2 => some ((1 : Int32), σ2))
set_option maxRecDepth 20000 in
set_option maxHeartbeats 2000000 in
theorem t_Pz_undo0   (σ : MH) {o} (h : Pz_undo0 σ = some o) : Go m_Pz_undo 3 (some 0, [some (.ref 0)], [], σ) ((none, [], [.int o.1], o.2)) := by
  unfold Pz_undo0 at h
  refine Go.t (Go_sg bk_Pz_undo 0 2 (c2 := (some 4, [some (.ref 0)], [.int (σ.1 0 3)], σ)) (ps := [shk 0 = 10]) rfl ⟨rfl, trivial⟩) ?_
  refine Go_if_ne bk_Pz_undo 2 rfl (fun c4 => ?_) (fun c4 => ?_)
  · have h := ifF c4 h
    refine Go.t (Go_sg bk_Pz_undo 5 4 (c2 := (some 17, [some (.ref 0)], [.ref 37, .ref 1], σ)) (ps := [shk 0 = 10, shk 0 = 10]) rfl ⟨rfl, rfl, trivial⟩) ?_
    obtain ⟨σ2, q3, h⟩ := bdS h
    refine Go.t (Go_callV bk_Pz_undo 9 rfl nk_Land_copyFrom tw944 tw945 tw946 (ci := 3) rfl (as := [.ref 37]) (S := []) rfl rfl rfl rfl (Nat.le_of_ble_eq_true rfl) (Nat.le_of_ble_eq_true rfl) (ev_Land_copyFrom _ _ (Or.inl rfl) (Or.inr (Or.inl rfl)) _ q3)) ?_
    have h := Option.some.inj h
    subst h
    refine Go.t (Go_sg bk_Pz_undo 10 1 (c2 := (some 21, [some (.ref 0)], [.int (1 : Int32)], σ2)) (ps := []) rfl trivial) ?_
    exact Go_reti bk_Pz_undo 11 rfl
  · have h := ifT c4 h
    have h := Option.some.inj h
    subst h
    refine Go.t (Go_sg bk_Pz_undo 3 1 (c2 := (some 8, [some (.ref 0)], [.int (0 : Int32)], σ)) (ps := []) rfl trivial) ?_
    exact Go_reti bk_Pz_undo 4 rfl
def Pz_undo  (σ : MH) : Option (Int32 × MH) := bzo (Pz_undo0 σ)
set_option maxRecDepth 20000 in
set_option maxHeartbeats 2000000 in
theorem ev_Pz_undo   (σ : MH) {o} (h : Pz_undo σ = some o) : Ev m_Pz_undo 3 [.ref 0] σ (some (.int o.1)) o.2 := Ev.of2 (by decide +kernel) rfl (Nat.le_of_ble_eq_true rfl) ⟨.boolean, rfl, nrB (bzo2 h)⟩ (t_Pz_undo0 σ (bzo1 h))
def cH_Pz_check_41 (v1 : Int32) (v2 : Int32) (σ : MH) (s : Int32) : MC := (some 41, [some (.ref 0), some (.int v1), some (.int v2), some (.int s)], [], σ)
def cR_Pz_check_41 (v1 : Int32) (v2 : Int32) (σ : MH) : ((Int32)) → MC := (fun r : Int32 => ((none, [], [.int r], σ) : MC))
def Pz_check_l41 (v1 : Int32) (v2 : Int32) (v3 : Int32) (σ : MH) : Option (((Int32) ⊕ ((Int32)))) := if v2 ≤ v3 then some (.inr ((-1 : Int32))) else (if inb v3 260 = true then if inb v1 12 = true then if inb v3 8 = true then if σ.1 110 v3.toNatClampNeg = (σ.1 (rfv 9 v1.toNatClampNeg) v3.toNatClampNeg) + (9 : Int32) then some (.inl (v3 + (1 : Int32))) else some (.inr (v3)) else none else none else none)
set_option maxRecDepth 20000 in
set_option maxHeartbeats 2000000 in
theorem t_Pz_check_l41 (v1 : Int32) (v2 : Int32) (v3 : Int32)  (σ : MH) {o} (h : Pz_check_l41 v1 v2 v3 σ = some o) : Go m_Pz_check 2 (cH_Pz_check_41 v1 v2 σ (v3)) (cS (cH_Pz_check_41 v1 v2 σ) (cR_Pz_check_41 v1 v2 σ) o) := by
  unfold Pz_check_l41 at h
  unfold cH_Pz_check_41
  refine Go.t (Go_sg bk_Pz_check 21 2 (c2 := (some 43, [some (.ref 0), some (.int v1), some (.int v2), some (.int v3)], [.int v2, .int v3], σ)) (ps := []) rfl trivial) ?_
  refine Go_icmp_ge bk_Pz_check 23 rfl (fun c8 => ?_) (fun c8 => ?_)
  · have h := ifT c8 h
    have h := Option.some.inj h
    subst h
    refine Go.t (Go_sg bk_Pz_check 43 1 (c2 := (some 81, [some (.ref 0), some (.int v1), some (.int v2), some (.int v3)], [.int (-1 : Int32)], σ)) (ps := []) rfl trivial) ?_
    exact Go_reti bk_Pz_check 44 rfl
  · have h := ifF c8 h
    obtain ⟨g4, h⟩ := gdS h
    obtain ⟨g5, h⟩ := gdS h
    obtain ⟨g6, h⟩ := gdS h
    refine Go.t (Go_sg bk_Pz_check 24 14 (c2 := (some 69, [some (.ref 0), some (.int v1), some (.int v2), some (.int v3)], [.int ((σ.1 (rfv 9 v1.toNatClampNeg) v3.toNatClampNeg) + (9 : Int32)), .int (σ.1 110 v3.toNatClampNeg)], σ)) (ps := [shk 0 = 10, shk 109 = 9, IA 110 260 ∧ inb v3 260 = true, shk 0 = 10, shk 1 = 3, IR 9 12 ∧ inb v1 12 = true, IA (rfv 9 v1.toNatClampNeg) 8 ∧ inb v3 8 = true]) rfl ⟨rfl, rfl, ⟨⟨rfl, rfl⟩, g4⟩, rfl, rfl, ⟨⟨rfl, rfl⟩, g5⟩, ⟨(rw_9 g5), g6⟩, trivial⟩) ?_
    refine Go_icmp_eq bk_Pz_check 38 rfl (fun c7 => ?_) (fun c7 => ?_)
    · have h := ifT c7 h
      refine Go.t (Go_sg bk_Pz_check 41 2 (c2 := (some 41, [some (.ref 0), some (.int v1), some (.int v2), some (.int (v3 + (1 : Int32)))], [], σ)) (ps := []) rfl trivial) ?_
      have h := Option.some.inj h
      subst h
      exact Go.fg (LSub.cs (LSub.cs (LSub.cs (LSub.cs (LSub.nil)))))
    · have h := ifF c7 h
      have h := Option.some.inj h
      subst h
      refine Go.t (Go_sg bk_Pz_check 39 1 (c2 := (some 73, [some (.ref 0), some (.int v1), some (.int v2), some (.int v3)], [.int v3], σ)) (ps := []) rfl trivial) ?_
      exact Go_reti bk_Pz_check 40 rfl
def Pz_check_L41 (v1 : Int32) (v2 : Int32) (σ : MH) (s : Int32) : Option ((Int32)) := itr (fun s : Int32 => Pz_check_l41 v1 v2 s σ) FU s
set_option maxRecDepth 20000 in
set_option maxHeartbeats 2000000 in
theorem t_Pz_check_L41 (v1 : Int32) (v2 : Int32)  (σ : MH) (s : Int32) {r} (h : Pz_check_L41 v1 v2 σ s = some r) : Go m_Pz_check 2 (cH_Pz_check_41 v1 v2 σ s) (cR_Pz_check_41 v1 v2 σ r) := Go_itr (fun s o ho => t_Pz_check_l41 v1 v2 s σ ho) FU s r h
def Pz_check0 (v1 : Int32) (v2 : Int32) (σ : MH) : Option (Int32 × MH) := (Pz_isNumber v1 σ).bind fun x1 => if x1 = (0 : Int32) then some ((-2 : Int32), σ) else (if v2 < (0 : Int32) then some ((-2 : Int32), σ) else (if (8 : Int32) < v2 then some ((-2 : Int32), σ) else (if v2 ≤ σ.1 109 1 then ((Pz_check_L41 v1 v2 (sI σ 109 1 (0 : Int32)) ((0 : Int32))).bind fun z9 => some (z9, sI σ 109 1 (0 : Int32))) else some ((-2 : Int32), σ))))
set_option maxRecDepth 20000 in
set_option maxHeartbeats 2000000 in
theorem t_Pz_check0 (v1 : Int32) (v2 : Int32)  (σ : MH) {o} (h : Pz_check0 v1 v2 σ = some o) : Go m_Pz_check 2 (some 0, [some (.ref 0), some (.int v1), some (.int v2), none], [], σ) ((none, [], [.int o.1], o.2)) := by
  unfold Pz_check0 at h
  refine Go.t (Go_sg bk_Pz_check 0 1 (c2 := (some 1, [some (.ref 0), some (.int v1), some (.int v2), none], [.int v1], σ)) (ps := []) rfl trivial) ?_
  obtain ⟨x1, q3, h⟩ := bdS h
  refine Go.t (Go_callS bk_Pz_check 1 rfl nk_Pz_isNumber tw552 tw553 (as := [.int v1]) (S := []) rfl rfl rfl (Nat.le_of_ble_eq_true rfl) (Nat.le_of_ble_eq_true rfl) (ev_Pz_isNumber _ _ q3)) ?_
  refine Go_if_eq bk_Pz_check 2 rfl (fun c14 => ?_) (fun c14 => ?_)
  · have h := ifT c14 h
    have h := Option.some.inj h
    subst h
    refine Go.t (Go_sg bk_Pz_check 13 1 (c2 := (some 30, [some (.ref 0), some (.int v1), some (.int v2), none], [.int (-2 : Int32)], σ)) (ps := []) rfl trivial) ?_
    exact Go_reti bk_Pz_check 14 rfl
  · have h := ifF c14 h
    refine Go.t (Go_sg bk_Pz_check 3 1 (c2 := (some 8, [some (.ref 0), some (.int v1), some (.int v2), none], [.int v2], σ)) (ps := []) rfl trivial) ?_
    refine Go_if_lt bk_Pz_check 4 rfl (fun c13 => ?_) (fun c13 => ?_)
    · have h := ifT c13 h
      have h := Option.some.inj h
      subst h
      refine Go.t (Go_sg bk_Pz_check 13 1 (c2 := (some 30, [some (.ref 0), some (.int v1), some (.int v2), none], [.int (-2 : Int32)], σ)) (ps := []) rfl trivial) ?_
      exact Go_reti bk_Pz_check 14 rfl
    · have h := ifF c13 h
      refine Go.t (Go_sg bk_Pz_check 5 2 (c2 := (some 14, [some (.ref 0), some (.int v1), some (.int v2), none], [.int (8 : Int32), .int v2], σ)) (ps := []) rfl trivial) ?_
      refine Go_icmp_gt bk_Pz_check 7 rfl (fun c12 => ?_) (fun c12 => ?_)
      · have h := ifT c12 h
        have h := Option.some.inj h
        subst h
        refine Go.t (Go_sg bk_Pz_check 13 1 (c2 := (some 30, [some (.ref 0), some (.int v1), some (.int v2), none], [.int (-2 : Int32)], σ)) (ps := []) rfl trivial) ?_
        exact Go_reti bk_Pz_check 14 rfl
      · have h := ifF c12 h
        refine Go.t (Go_sg bk_Pz_check 8 4 (c2 := (some 25, [some (.ref 0), some (.int v1), some (.int v2), none], [.int (σ.1 109 1), .int v2], σ)) (ps := [shk 0 = 10, shk 109 = 9]) rfl ⟨rfl, rfl, trivial⟩) ?_
        refine Go_icmp_le bk_Pz_check 12 rfl (fun c11 => ?_) (fun c11 => ?_)
        · have h := ifT c11 h
          refine Go.t (Go_sg bk_Pz_check 15 6 (c2 := (some 41, [some (.ref 0), some (.int v1), some (.int v2), some (.int (0 : Int32))], [], sI σ 109 1 (0 : Int32))) (ps := [shk 0 = 10, shk 109 = 9]) rfl ⟨rfl, rfl, trivial⟩) ?_
          obtain ⟨z9, q10, h⟩ := bdS h
          refine Go.t (Go.t (Go.fg (LSub.cs (LSub.cs (LSub.cs (LSub.cs (LSub.nil)))))) (t_Pz_check_L41 v1 v2 (sI σ 109 1 (0 : Int32)) _ q10)) ?_
          have h := Option.some.inj h
          subst h
          exact Go.rf
        · have h := ifF c11 h
          have h := Option.some.inj h
          subst h
          refine Go.t (Go_sg bk_Pz_check 13 1 (c2 := (some 30, [some (.ref 0), some (.int v1), some (.int v2), none], [.int (-2 : Int32)], σ)) (ps := []) rfl trivial) ?_
          exact Go_reti bk_Pz_check 14 rfl
def Pz_check (v1 : Int32) (v2 : Int32) (σ : MH) : Option (Int32 × MH) := Pz_check0 v1 v2 σ
set_option maxRecDepth 20000 in
set_option maxHeartbeats 2000000 in
theorem ev_Pz_check (v1 : Int32) (v2 : Int32)  (σ : MH) {o} (h : Pz_check v1 v2 σ = some o) : Ev m_Pz_check 2 [.ref 0, .int v1, .int v2] σ (some (.int o.1)) o.2 := Ev.of2 (by decide +kernel) rfl (Nat.le_of_ble_eq_true rfl) ⟨.int, rfl, rfl⟩ (t_Pz_check0 v1 v2 σ h)
def cH_Land_whoIsIn_4 (v0 : Nat) (v1 : Int32) (σ : MH) (s : Int32 × Int32) : MC := (some 4, [some (.ref v0), some (.int v1), some (.int s.1), some (.int s.2)], [], σ)
def cR_Land_whoIsIn_4 (v0 : Nat) (v1 : Int32) (σ : MH) : ((Int32)) → MC := (fun r : Int32 => ((none, [], [.int r], σ) : MC))
def Land_whoIsIn_b34 (v0 : Nat) (v1 : Int32) (v2 : Int32) (v3 : Int32) (σ : MH) : Option (((Int32 × Int32) ⊕ ((Int32)))) := some (.inl (v2, v3 + (1 : Int32)))
set_option maxRecDepth 20000 in
set_option maxHeartbeats 2000000 in
theorem t_Land_whoIsIn_b34 (v0 : Nat) (v1 : Int32) (v2 : Int32) (v3 : Int32) (hv0 : isLd v0)  (σ : MH) {o} (h : Land_whoIsIn_b34 v0 v1 v2 v3 σ = some o) : Go m_Land_whoIsIn 3 (some 34, [some (.ref v0), some (.int v1), some (.int v2), some (.int v3)], [], σ) (cS (cH_Land_whoIsIn_4 v0 v1 σ) (cR_Land_whoIsIn_4 v0 v1 σ) o) := by
  unfold Land_whoIsIn_b34 at h
  refine Go.t (Go_sg bk_Land_whoIsIn 23 2 (c2 := (some 4, [some (.ref v0), some (.int v1), some (.int v2), some (.int (v3 + (1 : Int32)))], [], σ)) (ps := []) rfl trivial) ?_
  have h := Option.some.inj h
  subst h
  exact Go.fg (LSub.cs (LSub.cs (LSub.cs (LSub.cs (LSub.nil)))))
def Land_whoIsIn_l4 (v0 : Nat) (v1 : Int32) (v2 : Int32) (v3 : Int32) (σ : MH) : Option (((Int32 × Int32) ⊕ ((Int32)))) := if (12 : Int32) ≤ v3 then some (.inr (v2)) else ((Land_isAlive v0 v3 σ).bind fun x1 => if x1 = (0 : Int32) then (Land_whoIsIn_b34 v0 v1 v2 v3 σ) else (if inb v3 12 = true then if σ.1 (rfv v0 3) v3.toNatClampNeg = v1 then (Land_whoIsIn_b34 v0 v1 (v2 ||| (jshl (1 : Int32) v3)) v3 σ) else (Land_whoIsIn_b34 v0 v1 v2 v3 σ) else none))
set_option maxRecDepth 20000 in
set_option maxHeartbeats 2000000 in
theorem t_Land_whoIsIn_l4 (v0 : Nat) (v1 : Int32) (v2 : Int32) (v3 : Int32) (hv0 : isLd v0) (σ : MH) {o} (h : Land_whoIsIn_l4 v0 v1 v2 v3 σ = some o) : Go m_Land_whoIsIn 3 (cH_Land_whoIsIn_4 v0 v1 σ (v2, v3)) (cS (cH_Land_whoIsIn_4 v0 v1 σ) (cR_Land_whoIsIn_4 v0 v1 σ) o) := by
  unfold Land_whoIsIn_l4 at h
  unfold cH_Land_whoIsIn_4
  refine Go.t (Go_sg bk_Land_whoIsIn 4 2 (c2 := (some 7, [some (.ref v0), some (.int v1), some (.int v2), some (.int v3)], [.int (12 : Int32), .int v3], σ)) (ps := []) rfl trivial) ?_
  refine Go_icmp_ge bk_Land_whoIsIn 6 rfl (fun c7 => ?_) (fun c7 => ?_)
  · have h := ifT c7 h
    have h := Option.some.inj h
    subst h
    refine Go.t (Go_sg bk_Land_whoIsIn 25 1 (c2 := (some 41, [some (.ref v0), some (.int v1), some (.int v2), some (.int v3)], [.int v2], σ)) (ps := []) rfl trivial) ?_
    exact Go_reti bk_Land_whoIsIn 26 rfl
  · have h := ifF c7 h
    refine Go.t (Go_sg bk_Land_whoIsIn 7 2 (c2 := (some 12, [some (.ref v0), some (.int v1), some (.int v2), some (.int v3)], [.int v3, .ref v0], σ)) (ps := []) rfl trivial) ?_
    obtain ⟨x1, q3, h⟩ := bdS h
    refine Go.t (Go_callV bk_Land_whoIsIn 9 rfl nk_Land_isAlive tw588 tw569 tw570 (ci := 3) rfl (as := [.int v3]) (S := []) (ldk hv0) rfl rfl rfl (Nat.le_of_ble_eq_true rfl) (Nat.le_of_ble_eq_true rfl) (ev_Land_isAlive _ _ hv0 _ q3)) ?_
    refine Go_if_eq bk_Land_whoIsIn 10 rfl (fun c6 => ?_) (fun c6 => ?_)
    · have h := ifT c6 h
      exact Go.t (Go.fg (LSub.cs (LSub.cs (LSub.cs (LSub.cs (LSub.nil)))))) (t_Land_whoIsIn_b34 v0 v1 v2 v3 hv0 σ h)
    · have h := ifF c6 h
      obtain ⟨g4, h⟩ := gdS h
      refine Go.t (Go_sg bk_Land_whoIsIn 11 5 (c2 := (some 25, [some (.ref v0), some (.int v1), some (.int v2), some (.int v3)], [.int v1, .int (σ.1 (rfv v0 3) v3.toNatClampNeg)], σ)) (ps := [shk v0 = 3, IA (rfv v0 3) 12 ∧ inb v3 12 = true]) rfl ⟨(ldk hv0), ⟨(ldA hv0 3 rfl), g4⟩, trivial⟩) ?_
      refine Go_icmp_ne bk_Land_whoIsIn 16 rfl (fun c5 => ?_) (fun c5 => ?_)
      · have h := ifF c5 h
        exact Go.t (Go.fg (LSub.cs (LSub.cs (LSub.cs (LSub.cs (LSub.nil)))))) (t_Land_whoIsIn_b34 v0 v1 v2 v3 hv0 σ h)
      · have h := ifT c5 h
        refine Go.t (Go_sg bk_Land_whoIsIn 17 6 (c2 := (some 34, [some (.ref v0), some (.int v1), some (.int (v2 ||| (jshl (1 : Int32) v3))), some (.int v3)], [], σ)) (ps := []) rfl trivial) ?_
        exact Go.t (Go.fg (LSub.cs (LSub.cs (LSub.cs (LSub.cs (LSub.nil)))))) (t_Land_whoIsIn_b34 v0 v1 (v2 ||| (jshl (1 : Int32) v3)) v3 hv0 σ h)
def Land_whoIsIn_L4 (v0 : Nat) (v1 : Int32) (σ : MH) (s : Int32 × Int32) : Option ((Int32)) := itr (fun s : Int32 × Int32 => Land_whoIsIn_l4 v0 v1 s.1 s.2 σ) FU s
set_option maxRecDepth 20000 in
set_option maxHeartbeats 2000000 in
theorem t_Land_whoIsIn_L4 (v0 : Nat) (v1 : Int32) (hv0 : isLd v0) (σ : MH) (s : Int32 × Int32) {r} (h : Land_whoIsIn_L4 v0 v1 σ s = some r) : Go m_Land_whoIsIn 3 (cH_Land_whoIsIn_4 v0 v1 σ s) (cR_Land_whoIsIn_4 v0 v1 σ r) := Go_itr (fun s o ho => t_Land_whoIsIn_l4 v0 v1 s.1 s.2 hv0 σ ho) FU s r h
def Land_whoIsIn0 (v0 : Nat) (v1 : Int32) (σ : MH) : Option (Int32) := (Land_whoIsIn_L4 v0 v1 σ ((0 : Int32), (0 : Int32))).bind fun z8 => some (z8)
set_option maxRecDepth 20000 in
set_option maxHeartbeats 2000000 in
theorem t_Land_whoIsIn0 (v0 : Nat) (v1 : Int32) (hv0 : isLd v0) (σ : MH) {o} (h : Land_whoIsIn0 v0 v1 σ = some o) : Go m_Land_whoIsIn 3 (some 0, [some (.ref v0), some (.int v1), none, none], [], σ) ((none, [], [.int o], σ)) := by
  unfold Land_whoIsIn0 at h
  refine Go.t (Go_sg bk_Land_whoIsIn 0 4 (c2 := (some 4, [some (.ref v0), some (.int v1), some (.int (0 : Int32)), some (.int (0 : Int32))], [], σ)) (ps := []) rfl trivial) ?_
  obtain ⟨z8, q9, h⟩ := bdS h
  refine Go.t (Go.t (Go.fg (LSub.cs (LSub.cs (LSub.cs (LSub.cs (LSub.nil)))))) (t_Land_whoIsIn_L4 v0 v1 hv0 σ _ q9)) ?_
  have h := Option.some.inj h
  subst h
  exact Go.rf
def Land_whoIsIn (v0 : Nat) (v1 : Int32) (σ : MH) : Option (Int32) := Land_whoIsIn0 v0 v1 σ
set_option maxRecDepth 20000 in
set_option maxHeartbeats 2000000 in
theorem ev_Land_whoIsIn (v0 : Nat) (v1 : Int32) (hv0 : isLd v0) (σ : MH) {o} (h : Land_whoIsIn v0 v1 σ = some o) : Ev m_Land_whoIsIn 3 [.ref v0, .int v1] σ (some (.int o)) σ := Ev.of2 (by decide +kernel) rfl (Nat.le_of_ble_eq_true rfl) ⟨.int, rfl, rfl⟩ (t_Land_whoIsIn0 v0 v1 hv0 σ h)
set_option maxRecDepth 20000 in
set_option maxHeartbeats 2000000 in
theorem dt_Pz_count_1 : decode m_Pz_count.2.1 1 = .ok (.tableswitch 99 0 6 #[43, 51, 59, 67, 75, 83, 91], 43) := by decide +kernel
def Pz_count0 (v1 : Int32) (σ : MH) : Option (Int32) := if v1 = (0 : Int32) then some (σ.1 1 13) else if v1 = (1 : Int32) then some (σ.1 1 0) else if v1 = (2 : Int32) then some (σ.1 1 1) else if v1 = (3 : Int32) then ((Land_countTwos 1 σ).bind fun x4 => some (x4)) else if v1 = (4 : Int32) then some (σ.1 111 6) else if v1 = (5 : Int32) then some (σ.1 109 1) else if v1 = (6 : Int32) then some (σ.1 1 14) else (if v1 < (10 : Int32) then some ((-1 : Int32)) else (if (16 : Int32) ≤ v1 then some ((-1 : Int32)) else ((Land_whoIsIn 1 (v1 - (10 : Int32)) σ).bind fun x11 => some (x11))))
set_option maxRecDepth 20000 in
set_option maxHeartbeats 2000000 in
theorem t_Pz_count0 (v1 : Int32)  (σ : MH) {o} (h : Pz_count0 v1 σ = some o) : Go m_Pz_count 4 (some 0, [some (.ref 0), some (.int v1)], [], σ) ((none, [], [.int o], σ)) := by
  unfold Pz_count0 at h
  refine Go.t (Go_sg bk_Pz_count 0 1 (c2 := (some 1, [some (.ref 0), some (.int v1)], [.int v1], σ)) (ps := []) rfl trivial) ?_
  by_cases c1 : v1 = (0 : Int32)
  · have h := ifT c1 h
    refine Go.t (Go_tsi dt_Pz_count_1 (tsw_in c1 0 6 rfl).1 (tsw_in c1 0 6 rfl).2 (by rw [c1]; rfl) (tgt := 44) (by decide)) ?_
    have h := Option.some.inj h
    subst h
    refine Go.t (Go_sg bk_Pz_count 1 3 (c2 := (some 51, [some (.ref 0), some (.int v1)], [.int (σ.1 1 13)], σ)) (ps := [shk 0 = 10, shk 1 = 3]) rfl ⟨rfl, rfl, trivial⟩) ?_
    exact Go_reti bk_Pz_count 4 rfl
  have h := ifF c1 h
  by_cases c2 : v1 = (1 : Int32)
  · have h := ifT c2 h
    refine Go.t (Go_tsi dt_Pz_count_1 (tsw_in c2 0 6 rfl).1 (tsw_in c2 0 6 rfl).2 (by rw [c2]; rfl) (tgt := 52) (by decide)) ?_
    have h := Option.some.inj h
    subst h
    refine Go.t (Go_sg bk_Pz_count 5 3 (c2 := (some 59, [some (.ref 0), some (.int v1)], [.int (σ.1 1 0)], σ)) (ps := [shk 0 = 10, shk 1 = 3]) rfl ⟨rfl, rfl, trivial⟩) ?_
    exact Go_reti bk_Pz_count 8 rfl
  have h := ifF c2 h
  by_cases c3 : v1 = (2 : Int32)
  · have h := ifT c3 h
    refine Go.t (Go_tsi dt_Pz_count_1 (tsw_in c3 0 6 rfl).1 (tsw_in c3 0 6 rfl).2 (by rw [c3]; rfl) (tgt := 60) (by decide)) ?_
    have h := Option.some.inj h
    subst h
    refine Go.t (Go_sg bk_Pz_count 9 3 (c2 := (some 67, [some (.ref 0), some (.int v1)], [.int (σ.1 1 1)], σ)) (ps := [shk 0 = 10, shk 1 = 3]) rfl ⟨rfl, rfl, trivial⟩) ?_
    exact Go_reti bk_Pz_count 12 rfl
  have h := ifF c3 h
  by_cases c7 : v1 = (3 : Int32)
  · have h := ifT c7 h
    refine Go.t (Go_tsi dt_Pz_count_1 (tsw_in c7 0 6 rfl).1 (tsw_in c7 0 6 rfl).2 (by rw [c7]; rfl) (tgt := 68) (by decide)) ?_
    refine Go.t (Go_sg bk_Pz_count 13 2 (c2 := (some 72, [some (.ref 0), some (.int v1)], [.ref 1], σ)) (ps := [shk 0 = 10]) rfl ⟨rfl, trivial⟩) ?_
    obtain ⟨x4, q6, h⟩ := bdS h
    refine Go.t (Go_callV bk_Pz_count 15 rfl nk_Land_countTwos tw949 tw950 tw951 (ci := 3) rfl (as := []) (S := []) rfl rfl rfl rfl (Nat.le_of_ble_eq_true rfl) (Nat.le_of_ble_eq_true rfl) (ev_Land_countTwos _ (Or.inl rfl) _ q6)) ?_
    have h := Option.some.inj h
    subst h
    exact Go_reti bk_Pz_count 16 rfl
  have h := ifF c7 h
  by_cases c8 : v1 = (4 : Int32)
  · have h := ifT c8 h
    refine Go.t (Go_tsi dt_Pz_count_1 (tsw_in c8 0 6 rfl).1 (tsw_in c8 0 6 rfl).2 (by rw [c8]; rfl) (tgt := 76) (by decide)) ?_
    have h := Option.some.inj h
    subst h
    refine Go.t (Go_sg bk_Pz_count 17 3 (c2 := (some 83, [some (.ref 0), some (.int v1)], [.int (σ.1 111 6)], σ)) (ps := [shk 0 = 10, shk 111 = 4]) rfl ⟨rfl, rfl, trivial⟩) ?_
    exact Go_reti bk_Pz_count 20 rfl
  have h := ifF c8 h
  by_cases c9 : v1 = (5 : Int32)
  · have h := ifT c9 h
    refine Go.t (Go_tsi dt_Pz_count_1 (tsw_in c9 0 6 rfl).1 (tsw_in c9 0 6 rfl).2 (by rw [c9]; rfl) (tgt := 84) (by decide)) ?_
    have h := Option.some.inj h
    subst h
    refine Go.t (Go_sg bk_Pz_count 21 3 (c2 := (some 91, [some (.ref 0), some (.int v1)], [.int (σ.1 109 1)], σ)) (ps := [shk 0 = 10, shk 109 = 9]) rfl ⟨rfl, rfl, trivial⟩) ?_
    exact Go_reti bk_Pz_count 24 rfl
  have h := ifF c9 h
  by_cases c10 : v1 = (6 : Int32)
  · have h := ifT c10 h
    refine Go.t (Go_tsi dt_Pz_count_1 (tsw_in c10 0 6 rfl).1 (tsw_in c10 0 6 rfl).2 (by rw [c10]; rfl) (tgt := 92) (by decide)) ?_
    have h := Option.some.inj h
    subst h
    refine Go.t (Go_sg bk_Pz_count 25 3 (c2 := (some 99, [some (.ref 0), some (.int v1)], [.int (σ.1 1 14)], σ)) (ps := [shk 0 = 10, shk 1 = 3]) rfl ⟨rfl, rfl, trivial⟩) ?_
    exact Go_reti bk_Pz_count 28 rfl
  have h := ifF c10 h
  have hdf : Go m_Pz_count 4 (some 1, [some (.ref 0), some (.int v1)], [.int v1], σ) (some 100, [some (.ref 0), some (.int v1)], [], σ) := by
    by_cases hlo : v1.toInt < 0
    · exact Go_tso dt_Pz_count_1 (Or.inl hlo) (by decide)
    · by_cases hhi : 6 < v1.toInt
      · exact Go_tso dt_Pz_count_1 (Or.inr hhi) (by decide)
      · exact absurd (tsw_all v1 0 6 [0, 1, 2, 3, 4, 5, 6] (by decide) hlo hhi) (fun q => by simp only [List.mem_cons, List.not_mem_nil, or_false] at q; rcases q with q | q | q | q | q | q | q <;> contradiction)
  refine Go.t hdf ?_
  refine Go.t (Go_sg bk_Pz_count 29 2 (c2 := (some 103, [some (.ref 0), some (.int v1)], [.int (10 : Int32), .int v1], σ)) (ps := []) rfl trivial) ?_
  refine Go_icmp_lt bk_Pz_count 31 rfl (fun c15 => ?_) (fun c15 => ?_)
  · have h := ifT c15 h
    have h := Option.some.inj h
    subst h
    refine Go.t (Go_sg bk_Pz_count 42 1 (c2 := (some 127, [some (.ref 0), some (.int v1)], [.int (-1 : Int32)], σ)) (ps := []) rfl trivial) ?_
    exact Go_reti bk_Pz_count 43 rfl
  · have h := ifF c15 h
    refine Go.t (Go_sg bk_Pz_count 32 2 (c2 := (some 109, [some (.ref 0), some (.int v1)], [.int (16 : Int32), .int v1], σ)) (ps := []) rfl trivial) ?_
    refine Go_icmp_ge bk_Pz_count 34 rfl (fun c14 => ?_) (fun c14 => ?_)
    · have h := ifT c14 h
      have h := Option.some.inj h
      subst h
      refine Go.t (Go_sg bk_Pz_count 42 1 (c2 := (some 127, [some (.ref 0), some (.int v1)], [.int (-1 : Int32)], σ)) (ps := []) rfl trivial) ?_
      exact Go_reti bk_Pz_count 43 rfl
    · have h := ifF c14 h
      refine Go.t (Go_sg bk_Pz_count 35 5 (c2 := (some 120, [some (.ref 0), some (.int v1)], [.int (v1 - (10 : Int32)), .ref 1], σ)) (ps := [shk 0 = 10]) rfl ⟨rfl, trivial⟩) ?_
      obtain ⟨x11, q13, h⟩ := bdS h
      refine Go.t (Go_callV bk_Pz_count 40 rfl nk_Land_whoIsIn tw1202 tw1203 tw1204 (ci := 3) rfl (as := [.int (v1 - (10 : Int32))]) (S := []) rfl rfl rfl rfl (Nat.le_of_ble_eq_true rfl) (Nat.le_of_ble_eq_true rfl) (ev_Land_whoIsIn _ _ (Or.inl rfl) _ q13)) ?_
      refine Go.t (Go_sg bk_Pz_count 41 1 (c2 := (some 127, [some (.ref 0), some (.int v1)], [.int x11], σ)) (ps := []) rfl trivial) ?_
      have h := Option.some.inj h
      subst h
      exact Go_reti bk_Pz_count 43 rfl
def Pz_count (v1 : Int32) (σ : MH) : Option (Int32) := Pz_count0 v1 σ
set_option maxRecDepth 20000 in
set_option maxHeartbeats 2000000 in
theorem ev_Pz_count (v1 : Int32)  (σ : MH) {o} (h : Pz_count v1 σ = some o) : Ev m_Pz_count 4 [.ref 0, .int v1] σ (some (.int o)) σ := Ev.of2 (by decide +kernel) rfl (Nat.le_of_ble_eq_true rfl) ⟨.int, rfl, rfl⟩ (t_Pz_count0 v1 σ h)
def Md_isTwelve0 (v0 : Int32) (σ : MH) : Option (Int32) := if v0 < (0 : Int32) then some ((0 : Int32)) else (if (12 : Int32) ≤ v0 then some ((0 : Int32)) else some ((1 : Int32)))
set_option maxRecDepth 20000 in
set_option maxHeartbeats 2000000 in
theorem t_Md_isTwelve0 (v0 : Int32)  (σ : MH) {o} (h : Md_isTwelve0 v0 σ = some o) : Go m_Md_isTwelve 1 (some 0, [some (.int v0)], [], σ) ((none, [], [.int o], σ)) := by
  unfold Md_isTwelve0 at h
  refine Go.t (Go_sg bk_Md_isTwelve 0 1 (c2 := (some 1, [some (.int v0)], [.int v0], σ)) (ps := []) rfl trivial) ?_
  refine Go_if_lt bk_Md_isTwelve 1 rfl (fun c2 => ?_) (fun c2 => ?_)
  · have h := ifT c2 h
    have h := Option.some.inj h
    subst h
    refine Go.t (Go_sg bk_Md_isTwelve 7 1 (c2 := (some 15, [some (.int v0)], [.int (0 : Int32)], σ)) (ps := []) rfl trivial) ?_
    exact Go_reti bk_Md_isTwelve 8 rfl
  · have h := ifF c2 h
    refine Go.t (Go_sg bk_Md_isTwelve 2 2 (c2 := (some 7, [some (.int v0)], [.int (12 : Int32), .int v0], σ)) (ps := []) rfl trivial) ?_
    refine Go_icmp_ge bk_Md_isTwelve 4 rfl (fun c1 => ?_) (fun c1 => ?_)
    · have h := ifT c1 h
      have h := Option.some.inj h
      subst h
      refine Go.t (Go_sg bk_Md_isTwelve 7 1 (c2 := (some 15, [some (.int v0)], [.int (0 : Int32)], σ)) (ps := []) rfl trivial) ?_
      exact Go_reti bk_Md_isTwelve 8 rfl
    · have h := ifF c1 h
      refine Go.t (Go_sg bk_Md_isTwelve 5 2 (c2 := (some 15, [some (.int v0)], [.int (1 : Int32)], σ)) (ps := []) rfl trivial) ?_
      have h := Option.some.inj h
      subst h
      exact Go_reti bk_Md_isTwelve 8 rfl
def Md_isTwelve (v0 : Int32) (σ : MH) : Option (Int32) := bzp (Md_isTwelve0 v0 σ)
set_option maxRecDepth 20000 in
set_option maxHeartbeats 2000000 in
theorem ev_Md_isTwelve (v0 : Int32)  (σ : MH) {o} (h : Md_isTwelve v0 σ = some o) : Ev m_Md_isTwelve 1 [.int v0] σ (some (.int o)) σ := Ev.of2 (by decide +kernel) rfl (Nat.le_of_ble_eq_true rfl) ⟨.boolean, rfl, nrB (bzp2 h)⟩ (t_Md_isTwelve0 v0 σ (bzp1 h))
def Md_has0 (v0 : Int32) (v1 : Int32) (σ : MH) : Option (Int32) := if (jshr v0 v1) &&& (1 : Int32) = (1 : Int32) then some ((1 : Int32)) else some ((0 : Int32))
set_option maxRecDepth 20000 in
set_option maxHeartbeats 2000000 in
theorem t_Md_has0 (v0 : Int32) (v1 : Int32)  (σ : MH) {o} (h : Md_has0 v0 v1 σ = some o) : Go m_Md_has 1 (some 0, [some (.int v0), some (.int v1)], [], σ) ((none, [], [.int o], σ)) := by
  unfold Md_has0 at h
  refine Go.t (Go_sg bk_Md_has 0 6 (c2 := (some 6, [some (.int v0), some (.int v1)], [.int (1 : Int32), .int ((jshr v0 v1) &&& (1 : Int32))], σ)) (ps := []) rfl trivial) ?_
  refine Go_icmp_ne bk_Md_has 6 rfl (fun c1 => ?_) (fun c1 => ?_)
  · have h := ifF c1 h
    have h := Option.some.inj h
    subst h
    refine Go.t (Go_sg bk_Md_has 9 1 (c2 := (some 14, [some (.int v0), some (.int v1)], [.int (0 : Int32)], σ)) (ps := []) rfl trivial) ?_
    exact Go_reti bk_Md_has 10 rfl
  · have h := ifT c1 h
    refine Go.t (Go_sg bk_Md_has 7 2 (c2 := (some 14, [some (.int v0), some (.int v1)], [.int (1 : Int32)], σ)) (ps := []) rfl trivial) ?_
    have h := Option.some.inj h
    subst h
    exact Go_reti bk_Md_has 10 rfl
def Md_has (v0 : Int32) (v1 : Int32) (σ : MH) : Option (Int32) := bzp (Md_has0 v0 v1 σ)
set_option maxRecDepth 20000 in
set_option maxHeartbeats 2000000 in
theorem ev_Md_has (v0 : Int32) (v1 : Int32)  (σ : MH) {o} (h : Md_has v0 v1 σ = some o) : Ev m_Md_has 1 [.int v0, .int v1] σ (some (.int o)) σ := Ev.of2 (by decide +kernel) rfl (Nat.le_of_ble_eq_true rfl) ⟨.boolean, rfl, nrB (bzp2 h)⟩ (t_Md_has0 v0 v1 σ (bzp1 h))
def Md_isPerson0 (v1 : Int32) (σ : MH) : Option (Int32) := (Md_isTwelve v1 σ).bind fun x1 => if x1 = (0 : Int32) then some ((0 : Int32)) else ((Md_has (σ.1 167 108) v1 σ).bind fun x4 => if x4 = (0 : Int32) then some ((0 : Int32)) else some ((1 : Int32)))
set_option maxRecDepth 20000 in
set_option maxHeartbeats 2000000 in
theorem t_Md_isPerson0 (v1 : Int32)  (σ : MH) {o} (h : Md_isPerson0 v1 σ = some o) : Go m_Md_isPerson 2 (some 0, [some (.ref 166), some (.int v1)], [], σ) ((none, [], [.int o], σ)) := by
  unfold Md_isPerson0 at h
  refine Go.t (Go_sg bk_Md_isPerson 0 1 (c2 := (some 1, [some (.ref 166), some (.int v1)], [.int v1], σ)) (ps := []) rfl trivial) ?_
  obtain ⟨x1, q3, h⟩ := bdS h
  refine Go.t (Go_callS bk_Md_isPerson 1 rfl nk_Md_isTwelve tw1360 tw1361 (as := [.int v1]) (S := []) rfl rfl rfl (Nat.le_of_ble_eq_true rfl) (Nat.le_of_ble_eq_true rfl) (ev_Md_isTwelve _ _ q3)) ?_
  refine Go_if_eq bk_Md_isPerson 2 rfl (fun c8 => ?_) (fun c8 => ?_)
  · have h := ifT c8 h
    have h := Option.some.inj h
    subst h
    refine Go.t (Go_sg bk_Md_isPerson 12 1 (c2 := (some 26, [some (.ref 166), some (.int v1)], [.int (0 : Int32)], σ)) (ps := []) rfl trivial) ?_
    exact Go_reti bk_Md_isPerson 13 rfl
  · have h := ifF c8 h
    refine Go.t (Go_sg bk_Md_isPerson 3 5 (c2 := (some 15, [some (.ref 166), some (.int v1)], [.int v1, .int (σ.1 167 108)], σ)) (ps := [shk 166 = 11, IA 167 1936 ∧ inb (108 : Int32) 1936 = true]) rfl ⟨rfl, ⟨⟨rfl, rfl⟩, (inbN 108 1936 rfl)⟩, trivial⟩) ?_
    obtain ⟨x4, q6, h⟩ := bdS h
    refine Go.t (Go_callS bk_Md_isPerson 8 rfl nk_Md_has tw1367 tw1368 (as := [.int (σ.1 167 108), .int v1]) (S := []) rfl rfl rfl (Nat.le_of_ble_eq_true rfl) (Nat.le_of_ble_eq_true rfl) (ev_Md_has _ _ _ q6)) ?_
    refine Go_if_eq bk_Md_isPerson 9 rfl (fun c7 => ?_) (fun c7 => ?_)
    · have h := ifT c7 h
      have h := Option.some.inj h
      subst h
      refine Go.t (Go_sg bk_Md_isPerson 12 1 (c2 := (some 26, [some (.ref 166), some (.int v1)], [.int (0 : Int32)], σ)) (ps := []) rfl trivial) ?_
      exact Go_reti bk_Md_isPerson 13 rfl
    · have h := ifF c7 h
      refine Go.t (Go_sg bk_Md_isPerson 10 2 (c2 := (some 26, [some (.ref 166), some (.int v1)], [.int (1 : Int32)], σ)) (ps := []) rfl trivial) ?_
      have h := Option.some.inj h
      subst h
      exact Go_reti bk_Md_isPerson 13 rfl
def Md_isPerson (v1 : Int32) (σ : MH) : Option (Int32) := bzp (Md_isPerson0 v1 σ)
set_option maxRecDepth 20000 in
set_option maxHeartbeats 2000000 in
theorem ev_Md_isPerson (v1 : Int32)  (σ : MH) {o} (h : Md_isPerson v1 σ = some o) : Ev m_Md_isPerson 2 [.ref 166, .int v1] σ (some (.int o)) σ := Ev.of2 (by decide +kernel) rfl (Nat.le_of_ble_eq_true rfl) ⟨.boolean, rfl, nrB (bzp2 h)⟩ (t_Md_isPerson0 v1 σ (bzp1 h))
def Md_in0 (v0 : Int32) (v1 : Int32) (v2 : Int32) (σ : MH) : Option (Int32) := if v0 < v1 then some ((0 : Int32)) else (if v2 < v0 then some ((0 : Int32)) else some ((1 : Int32)))
set_option maxRecDepth 20000 in
set_option maxHeartbeats 2000000 in
theorem t_Md_in0 (v0 : Int32) (v1 : Int32) (v2 : Int32)  (σ : MH) {o} (h : Md_in0 v0 v1 v2 σ = some o) : Go m_Md_in 1 (some 0, [some (.int v0), some (.int v1), some (.int v2)], [], σ) ((none, [], [.int o], σ)) := by
  unfold Md_in0 at h
  refine Go.t (Go_sg bk_Md_in 0 2 (c2 := (some 2, [some (.int v0), some (.int v1), some (.int v2)], [.int v1, .int v0], σ)) (ps := []) rfl trivial) ?_
  refine Go_icmp_lt bk_Md_in 2 rfl (fun c2 => ?_) (fun c2 => ?_)
  · have h := ifT c2 h
    have h := Option.some.inj h
    subst h
    refine Go.t (Go_sg bk_Md_in 8 1 (c2 := (some 15, [some (.int v0), some (.int v1), some (.int v2)], [.int (0 : Int32)], σ)) (ps := []) rfl trivial) ?_
    exact Go_reti bk_Md_in 9 rfl
  · have h := ifF c2 h
    refine Go.t (Go_sg bk_Md_in 3 2 (c2 := (some 7, [some (.int v0), some (.int v1), some (.int v2)], [.int v2, .int v0], σ)) (ps := []) rfl trivial) ?_
    refine Go_icmp_gt bk_Md_in 5 rfl (fun c1 => ?_) (fun c1 => ?_)
    · have h := ifT c1 h
      have h := Option.some.inj h
      subst h
      refine Go.t (Go_sg bk_Md_in 8 1 (c2 := (some 15, [some (.int v0), some (.int v1), some (.int v2)], [.int (0 : Int32)], σ)) (ps := []) rfl trivial) ?_
      exact Go_reti bk_Md_in 9 rfl
    · have h := ifF c1 h
      refine Go.t (Go_sg bk_Md_in 6 2 (c2 := (some 15, [some (.int v0), some (.int v1), some (.int v2)], [.int (1 : Int32)], σ)) (ps := []) rfl trivial) ?_
      have h := Option.some.inj h
      subst h
      exact Go_reti bk_Md_in 9 rfl
def Md_in (v0 : Int32) (v1 : Int32) (v2 : Int32) (σ : MH) : Option (Int32) := bzp (Md_in0 v0 v1 v2 σ)
set_option maxRecDepth 20000 in
set_option maxHeartbeats 2000000 in
theorem ev_Md_in (v0 : Int32) (v1 : Int32) (v2 : Int32)  (σ : MH) {o} (h : Md_in v0 v1 v2 σ = some o) : Ev m_Md_in 1 [.int v0, .int v1, .int v2] σ (some (.int o)) σ := Ev.of2 (by decide +kernel) rfl (Nat.le_of_ble_eq_true rfl) ⟨.boolean, rfl, nrB (bzp2 h)⟩ (t_Md_in0 v0 v1 v2 σ (bzp1 h))
def Md_person0 (v1 : Int32) (v2 : Int32) (v3 : Int32) (σ : MH) : Option (Int32 × MH) := (Md_isTwelve v1 σ).bind fun x1 => if x1 = (0 : Int32) then some ((0 : Int32), σ) else ((Md_isPerson v1 σ).bind fun x4 => if x4 = (0 : Int32) then ((Md_in v2 (0 : Int32) (1 : Int32) σ).bind fun x7 => if x7 = (0 : Int32) then some ((0 : Int32), σ) else ((Md_in v3 (0 : Int32) (5 : Int32) σ).bind fun x10 => if x10 = (0 : Int32) then some ((0 : Int32), σ) else (if inb ((0 : Int32) + v1) 1936 = true then if inb ((12 : Int32) + v1) 1936 = true then if inb ((48 : Int32) + v1) 1936 = true then some ((1 : Int32), sI (sI (sI (sI (sI σ 167 108 ((σ.1 167 108) ||| (jshl (1 : Int32) v1))) 167 109 (((sI σ 167 108 ((σ.1 167 108) ||| (jshl (1 : Int32) v1))).1 167 109) ||| (jshl (1 : Int32) v1))) 167 ((0 : Int32) + v1).toNatClampNeg v2) 167 ((12 : Int32) + v1).toNatClampNeg v3) 167 ((48 : Int32) + v1).toNatClampNeg (jshl (1 : Int32) v1)) else none else none else none))) else some ((0 : Int32), σ))
set_option maxRecDepth 20000 in
set_option maxHeartbeats 2000000 in
theorem t_Md_person0 (v1 : Int32) (v2 : Int32) (v3 : Int32)  (σ : MH) {o} (h : Md_person0 v1 v2 v3 σ = some o) : Go m_Md_person 3 (some 0, [some (.ref 166), some (.int v1), some (.int v2), some (.int v3)], [], σ) ((none, [], [.int o.1], o.2)) := by
  unfold Md_person0 at h
  refine Go.t (Go_sg bk_Md_person 0 1 (c2 := (some 1, [some (.ref 166), some (.int v1), some (.int v2), some (.int v3)], [.int v1], σ)) (ps := []) rfl trivial) ?_
  obtain ⟨x1, q3, h⟩ := bdS h
  refine Go.t (Go_callS bk_Md_person 1 rfl nk_Md_isTwelve tw1360 tw1361 (as := [.int v1]) (S := []) rfl rfl rfl (Nat.le_of_ble_eq_true rfl) (Nat.le_of_ble_eq_true rfl) (ev_Md_isTwelve _ _ q3)) ?_
  refine Go_if_eq bk_Md_person 2 rfl (fun c19 => ?_) (fun c19 => ?_)
  · have h := ifT c19 h
    have h := Option.some.inj h
    subst h
    refine Go.t (Go_sg bk_Md_person 17 1 (c2 := (some 34, [some (.ref 166), some (.int v1), some (.int v2), some (.int v3)], [.int (0 : Int32)], σ)) (ps := []) rfl trivial) ?_
    exact Go_reti bk_Md_person 18 rfl
  · have h := ifF c19 h
    refine Go.t (Go_sg bk_Md_person 3 2 (c2 := (some 9, [some (.ref 166), some (.int v1), some (.int v2), some (.int v3)], [.int v1, .ref 166], σ)) (ps := []) rfl trivial) ?_
    obtain ⟨x4, q6, h⟩ := bdS h
    refine Go.t (Go_callV bk_Md_person 5 rfl nk_Md_isPerson tw1363 tw1365 tw44 (ci := 11) rfl (as := [.int v1]) (S := []) rfl rfl rfl rfl (Nat.le_of_ble_eq_true rfl) (Nat.le_of_ble_eq_true rfl) (ev_Md_isPerson _ _ q6)) ?_
    refine Go_if_ne bk_Md_person 6 rfl (fun c18 => ?_) (fun c18 => ?_)
    · have h := ifF c18 h
      have h := Option.some.inj h
      subst h
      refine Go.t (Go_sg bk_Md_person 17 1 (c2 := (some 34, [some (.ref 166), some (.int v1), some (.int v2), some (.int v3)], [.int (0 : Int32)], σ)) (ps := []) rfl trivial) ?_
      exact Go_reti bk_Md_person 18 rfl
    · have h := ifT c18 h
      refine Go.t (Go_sg bk_Md_person 7 3 (c2 := (some 18, [some (.ref 166), some (.int v1), some (.int v2), some (.int v3)], [.int (1 : Int32), .int (0 : Int32), .int v2], σ)) (ps := []) rfl trivial) ?_
      obtain ⟨x7, q9, h⟩ := bdS h
      refine Go.t (Go_callS bk_Md_person 10 rfl nk_Md_in tw1370 tw1371 (as := [.int v2, .int (0 : Int32), .int (1 : Int32)]) (S := []) rfl rfl rfl (Nat.le_of_ble_eq_true rfl) (Nat.le_of_ble_eq_true rfl) (ev_Md_in _ _ _ _ q9)) ?_
      refine Go_if_eq bk_Md_person 11 rfl (fun c17 => ?_) (fun c17 => ?_)
      · have h := ifT c17 h
        have h := Option.some.inj h
        subst h
        refine Go.t (Go_sg bk_Md_person 17 1 (c2 := (some 34, [some (.ref 166), some (.int v1), some (.int v2), some (.int v3)], [.int (0 : Int32)], σ)) (ps := []) rfl trivial) ?_
        exact Go_reti bk_Md_person 18 rfl
      · have h := ifF c17 h
        refine Go.t (Go_sg bk_Md_person 12 3 (c2 := (some 27, [some (.ref 166), some (.int v1), some (.int v2), some (.int v3)], [.int (5 : Int32), .int (0 : Int32), .int v3], σ)) (ps := []) rfl trivial) ?_
        obtain ⟨x10, q12, h⟩ := bdS h
        refine Go.t (Go_callS bk_Md_person 15 rfl nk_Md_in tw1370 tw1371 (as := [.int v3, .int (0 : Int32), .int (5 : Int32)]) (S := []) rfl rfl rfl (Nat.le_of_ble_eq_true rfl) (Nat.le_of_ble_eq_true rfl) (ev_Md_in _ _ _ _ q12)) ?_
        refine Go_if_ne bk_Md_person 16 rfl (fun c16 => ?_) (fun c16 => ?_)
        · have h := ifF c16 h
          obtain ⟨g13, h⟩ := gdS h
          obtain ⟨g14, h⟩ := gdS h
          obtain ⟨g15, h⟩ := gdS h
          have h := Option.some.inj h
          subst h
          refine Go.t (Go_sg bk_Md_person 19 48 (c2 := (some 103, [some (.ref 166), some (.int v1), some (.int v2), some (.int v3)], [.int (1 : Int32)], sI (sI (sI (sI (sI σ 167 108 ((σ.1 167 108) ||| (jshl (1 : Int32) v1))) 167 109 (((sI σ 167 108 ((σ.1 167 108) ||| (jshl (1 : Int32) v1))).1 167 109) ||| (jshl (1 : Int32) v1))) 167 ((0 : Int32) + v1).toNatClampNeg v2) 167 ((12 : Int32) + v1).toNatClampNeg v3) 167 ((48 : Int32) + v1).toNatClampNeg (jshl (1 : Int32) v1))) (ps := [shk 166 = 11, shk 166 = 11, IA 167 1936 ∧ inb (108 : Int32) 1936 = true, IA 167 1936 ∧ inb (108 : Int32) 1936 = true, shk 166 = 11, shk 166 = 11, IA 167 1936 ∧ inb (109 : Int32) 1936 = true, IA 167 1936 ∧ inb (109 : Int32) 1936 = true, shk 166 = 11, IA 167 1936 ∧ inb ((0 : Int32) + v1) 1936 = true, shk 166 = 11, IA 167 1936 ∧ inb ((12 : Int32) + v1) 1936 = true, shk 166 = 11, IA 167 1936 ∧ inb ((48 : Int32) + v1) 1936 = true]) rfl ⟨rfl, rfl, ⟨⟨rfl, rfl⟩, (inbN 108 1936 rfl)⟩, ⟨⟨rfl, rfl⟩, (inbN 108 1936 rfl)⟩, rfl, rfl, ⟨⟨rfl, rfl⟩, (inbN 109 1936 rfl)⟩, ⟨⟨rfl, rfl⟩, (inbN 109 1936 rfl)⟩, rfl, ⟨⟨rfl, rfl⟩, g13⟩, rfl, ⟨⟨rfl, rfl⟩, g14⟩, rfl, ⟨⟨rfl, rfl⟩, g15⟩, trivial⟩) ?_
          exact Go_reti bk_Md_person 67 rfl
        · have h := ifT c16 h
          have h := Option.some.inj h
          subst h
          refine Go.t (Go_sg bk_Md_person 17 1 (c2 := (some 34, [some (.ref 166), some (.int v1), some (.int v2), some (.int v3)], [.int (0 : Int32)], σ)) (ps := []) rfl trivial) ?_
          exact Go_reti bk_Md_person 18 rfl
def Md_person (v1 : Int32) (v2 : Int32) (v3 : Int32) (σ : MH) : Option (Int32 × MH) := bzo (Md_person0 v1 v2 v3 σ)
set_option maxRecDepth 20000 in
set_option maxHeartbeats 2000000 in
theorem ev_Md_person (v1 : Int32) (v2 : Int32) (v3 : Int32)  (σ : MH) {o} (h : Md_person v1 v2 v3 σ = some o) : Ev m_Md_person 3 [.ref 166, .int v1, .int v2, .int v3] σ (some (.int o.1)) o.2 := Ev.of2 (by decide +kernel) rfl (Nat.le_of_ble_eq_true rfl) ⟨.boolean, rfl, nrB (bzo2 h)⟩ (t_Md_person0 v1 v2 v3 σ (bzo1 h))
def Md_wear0 (v1 : Int32) (v2 : Int32) (σ : MH) : Option (Int32 × MH) := (Md_isTwelve v1 σ).bind fun x1 => if x1 = (0 : Int32) then some ((0 : Int32), σ) else ((Md_in v2 (0 : Int32) (99 : Int32) σ).bind fun x4 => if x4 = (0 : Int32) then some ((0 : Int32), σ) else (if inb ((72 : Int32) + v1) 1936 = true then some ((1 : Int32), sI σ 167 ((72 : Int32) + v1).toNatClampNeg v2) else none))
set_option maxRecDepth 20000 in
set_option maxHeartbeats 2000000 in
theorem t_Md_wear0 (v1 : Int32) (v2 : Int32)  (σ : MH) {o} (h : Md_wear0 v1 v2 σ = some o) : Go m_Md_wear 2 (some 0, [some (.ref 166), some (.int v1), some (.int v2)], [], σ) ((none, [], [.int o.1], o.2)) := by
  unfold Md_wear0 at h
  refine Go.t (Go_sg bk_Md_wear 0 1 (c2 := (some 1, [some (.ref 166), some (.int v1), some (.int v2)], [.int v1], σ)) (ps := []) rfl trivial) ?_
  obtain ⟨x1, q3, h⟩ := bdS h
  refine Go.t (Go_callS bk_Md_wear 1 rfl nk_Md_isTwelve tw1360 tw1361 (as := [.int v1]) (S := []) rfl rfl rfl (Nat.le_of_ble_eq_true rfl) (Nat.le_of_ble_eq_true rfl) (ev_Md_isTwelve _ _ q3)) ?_
  refine Go_if_eq bk_Md_wear 2 rfl (fun c9 => ?_) (fun c9 => ?_)
  · have h := ifT c9 h
    have h := Option.some.inj h
    subst h
    refine Go.t (Go_sg bk_Md_wear 8 1 (c2 := (some 18, [some (.ref 166), some (.int v1), some (.int v2)], [.int (0 : Int32)], σ)) (ps := []) rfl trivial) ?_
    exact Go_reti bk_Md_wear 9 rfl
  · have h := ifF c9 h
    refine Go.t (Go_sg bk_Md_wear 3 3 (c2 := (some 11, [some (.ref 166), some (.int v1), some (.int v2)], [.int (99 : Int32), .int (0 : Int32), .int v2], σ)) (ps := []) rfl trivial) ?_
    obtain ⟨x4, q6, h⟩ := bdS h
    refine Go.t (Go_callS bk_Md_wear 6 rfl nk_Md_in tw1370 tw1371 (as := [.int v2, .int (0 : Int32), .int (99 : Int32)]) (S := []) rfl rfl rfl (Nat.le_of_ble_eq_true rfl) (Nat.le_of_ble_eq_true rfl) (ev_Md_in _ _ _ _ q6)) ?_
    refine Go_if_ne bk_Md_wear 7 rfl (fun c8 => ?_) (fun c8 => ?_)
    · have h := ifF c8 h
      obtain ⟨g7, h⟩ := gdS h
      have h := Option.some.inj h
      subst h
      refine Go.t (Go_sg bk_Md_wear 10 8 (c2 := (some 30, [some (.ref 166), some (.int v1), some (.int v2)], [.int (1 : Int32)], sI σ 167 ((72 : Int32) + v1).toNatClampNeg v2)) (ps := [shk 166 = 11, IA 167 1936 ∧ inb ((72 : Int32) + v1) 1936 = true]) rfl ⟨rfl, ⟨⟨rfl, rfl⟩, g7⟩, trivial⟩) ?_
      exact Go_reti bk_Md_wear 18 rfl
    · have h := ifT c8 h
      have h := Option.some.inj h
      subst h
      refine Go.t (Go_sg bk_Md_wear 8 1 (c2 := (some 18, [some (.ref 166), some (.int v1), some (.int v2)], [.int (0 : Int32)], σ)) (ps := []) rfl trivial) ?_
      exact Go_reti bk_Md_wear 9 rfl
def Md_wear (v1 : Int32) (v2 : Int32) (σ : MH) : Option (Int32 × MH) := bzo (Md_wear0 v1 v2 σ)
set_option maxRecDepth 20000 in
set_option maxHeartbeats 2000000 in
theorem ev_Md_wear (v1 : Int32) (v2 : Int32)  (σ : MH) {o} (h : Md_wear v1 v2 σ = some o) : Ev m_Md_wear 2 [.ref 166, .int v1, .int v2] σ (some (.int o.1)) o.2 := Ev.of2 (by decide +kernel) rfl (Nat.le_of_ble_eq_true rfl) ⟨.boolean, rfl, nrB (bzo2 h)⟩ (t_Md_wear0 v1 v2 σ (bzo1 h))
def Md_lives0 (v1 : Int32) (σ : MH) : Option (Int32) := (Md_isPerson v1 σ).bind fun x1 => if x1 = (0 : Int32) then some ((0 : Int32)) else ((Md_has (σ.1 167 109) v1 σ).bind fun x4 => if x4 = (0 : Int32) then some ((0 : Int32)) else some ((1 : Int32)))
set_option maxRecDepth 20000 in
set_option maxHeartbeats 2000000 in
theorem t_Md_lives0 (v1 : Int32)  (σ : MH) {o} (h : Md_lives0 v1 σ = some o) : Go m_Md_lives 3 (some 0, [some (.ref 166), some (.int v1)], [], σ) ((none, [], [.int o], σ)) := by
  unfold Md_lives0 at h
  refine Go.t (Go_sg bk_Md_lives 0 2 (c2 := (some 2, [some (.ref 166), some (.int v1)], [.int v1, .ref 166], σ)) (ps := []) rfl trivial) ?_
  obtain ⟨x1, q3, h⟩ := bdS h
  refine Go.t (Go_callV bk_Md_lives 2 rfl nk_Md_isPerson tw1363 tw1365 tw44 (ci := 11) rfl (as := [.int v1]) (S := []) rfl rfl rfl rfl (Nat.le_of_ble_eq_true rfl) (Nat.le_of_ble_eq_true rfl) (ev_Md_isPerson _ _ q3)) ?_
  refine Go_if_eq bk_Md_lives 3 rfl (fun c8 => ?_) (fun c8 => ?_)
  · have h := ifT c8 h
    have h := Option.some.inj h
    subst h
    refine Go.t (Go_sg bk_Md_lives 13 1 (c2 := (some 27, [some (.ref 166), some (.int v1)], [.int (0 : Int32)], σ)) (ps := []) rfl trivial) ?_
    exact Go_reti bk_Md_lives 14 rfl
  · have h := ifF c8 h
    refine Go.t (Go_sg bk_Md_lives 4 5 (c2 := (some 16, [some (.ref 166), some (.int v1)], [.int v1, .int (σ.1 167 109)], σ)) (ps := [shk 166 = 11, IA 167 1936 ∧ inb (109 : Int32) 1936 = true]) rfl ⟨rfl, ⟨⟨rfl, rfl⟩, (inbN 109 1936 rfl)⟩, trivial⟩) ?_
    obtain ⟨x4, q6, h⟩ := bdS h
    refine Go.t (Go_callS bk_Md_lives 9 rfl nk_Md_has tw1367 tw1368 (as := [.int (σ.1 167 109), .int v1]) (S := []) rfl rfl rfl (Nat.le_of_ble_eq_true rfl) (Nat.le_of_ble_eq_true rfl) (ev_Md_has _ _ _ q6)) ?_
    refine Go_if_eq bk_Md_lives 10 rfl (fun c7 => ?_) (fun c7 => ?_)
    · have h := ifT c7 h
      have h := Option.some.inj h
      subst h
      refine Go.t (Go_sg bk_Md_lives 13 1 (c2 := (some 27, [some (.ref 166), some (.int v1)], [.int (0 : Int32)], σ)) (ps := []) rfl trivial) ?_
      exact Go_reti bk_Md_lives 14 rfl
    · have h := ifF c7 h
      refine Go.t (Go_sg bk_Md_lives 11 2 (c2 := (some 27, [some (.ref 166), some (.int v1)], [.int (1 : Int32)], σ)) (ps := []) rfl trivial) ?_
      have h := Option.some.inj h
      subst h
      exact Go_reti bk_Md_lives 14 rfl
def Md_lives (v1 : Int32) (σ : MH) : Option (Int32) := bzp (Md_lives0 v1 σ)
set_option maxRecDepth 20000 in
set_option maxHeartbeats 2000000 in
theorem ev_Md_lives (v1 : Int32)  (σ : MH) {o} (h : Md_lives v1 σ = some o) : Ev m_Md_lives 3 [.ref 166, .int v1] σ (some (.int o)) σ := Ev.of2 (by decide +kernel) rfl (Nat.le_of_ble_eq_true rfl) ⟨.boolean, rfl, nrB (bzp2 h)⟩ (t_Md_lives0 v1 σ (bzp1 h))
def Md_parts0 (v1 : Int32) (σ : MH) : Option (MH) := if inb ((24 : Int32) + v1) 1936 = true then if inb ((24 : Int32) + (σ.1 167 ((24 : Int32) + v1).toNatClampNeg)) 1936 = true then some (sI (sI σ 167 ((24 : Int32) + v1).toNatClampNeg (-2 : Int32)) 167 ((24 : Int32) + (σ.1 167 ((24 : Int32) + v1).toNatClampNeg)).toNatClampNeg (-2 : Int32)) else none else none
set_option maxRecDepth 20000 in
set_option maxHeartbeats 2000000 in
theorem t_Md_parts0 (v1 : Int32)  (σ : MH) {o} (h : Md_parts0 v1 σ = some o) : Go m_Md_parts 1 (some 0, [some (.ref 166), some (.int v1), none], [], σ) ((none, [], [], o)) := by
  unfold Md_parts0 at h
  obtain ⟨g1, h⟩ := gdS h
  obtain ⟨g2, h⟩ := gdS h
  have h := Option.some.inj h
  subst h
  refine Go.t (Go_sg bk_Md_parts 0 21 (c2 := (some 32, [some (.ref 166), some (.int v1), some (.int (σ.1 167 ((24 : Int32) + v1).toNatClampNeg))], [], sI (sI σ 167 ((24 : Int32) + v1).toNatClampNeg (-2 : Int32)) 167 ((24 : Int32) + (σ.1 167 ((24 : Int32) + v1).toNatClampNeg)).toNatClampNeg (-2 : Int32))) (ps := [shk 166 = 11, IA 167 1936 ∧ inb ((24 : Int32) + v1) 1936 = true, shk 166 = 11, IA 167 1936 ∧ inb ((24 : Int32) + v1) 1936 = true, shk 166 = 11, IA 167 1936 ∧ inb ((24 : Int32) + (σ.1 167 ((24 : Int32) + v1).toNatClampNeg)) 1936 = true]) rfl ⟨rfl, ⟨⟨rfl, rfl⟩, g1⟩, rfl, ⟨⟨rfl, rfl⟩, g1⟩, rfl, ⟨⟨rfl, rfl⟩, g2⟩, trivial⟩) ?_
  exact Go_ret0 bk_Md_parts 21 rfl
def Md_parts (v1 : Int32) (σ : MH) : Option (MH) := Md_parts0 v1 σ
set_option maxRecDepth 20000 in
set_option maxHeartbeats 2000000 in
theorem ev_Md_parts (v1 : Int32)  (σ : MH) {o} (h : Md_parts v1 σ = some o) : Ev m_Md_parts 1 [.ref 166, .int v1] σ none o := Ev.of2 (by decide +kernel) rfl (Nat.le_of_ble_eq_true rfl) rfl (t_Md_parts0 v1 σ h)
def Md_dies_b59 (v1 : Int32) (σ : MH) : Option (Int32 × MH) := if inb ((48 : Int32) + v1) 1936 = true then some ((1 : Int32), sI (sI σ 167 ((48 : Int32) + v1).toNatClampNeg (0 : Int32)) 167 109 (((sI σ 167 ((48 : Int32) + v1).toNatClampNeg (0 : Int32)).1 167 109) &&& ((jshl (1 : Int32) v1) ^^^ (-1 : Int32)))) else none
set_option maxRecDepth 20000 in
set_option maxHeartbeats 2000000 in
theorem t_Md_dies_b59 (v1 : Int32)   (σ : MH) {o} (h : Md_dies_b59 v1 σ = some o) : Go m_Md_dies 4 (some 59, [some (.ref 166), some (.int v1), none], [], σ) ((none, [], [.int o.1], o.2)) := by
  unfold Md_dies_b59 at h
  obtain ⟨g5, h⟩ := gdS h
  have h := Option.some.inj h
  subst h
  refine Go.t (Go_sg bk_Md_dies 38 22 (c2 := (some 90, [some (.ref 166), some (.int v1), none], [.int (1 : Int32)], sI (sI σ 167 ((48 : Int32) + v1).toNatClampNeg (0 : Int32)) 167 109 (((sI σ 167 ((48 : Int32) + v1).toNatClampNeg (0 : Int32)).1 167 109) &&& ((jshl (1 : Int32) v1) ^^^ (-1 : Int32))))) (ps := [shk 166 = 11, IA 167 1936 ∧ inb ((48 : Int32) + v1) 1936 = true, shk 166 = 11, shk 166 = 11, IA 167 1936 ∧ inb (109 : Int32) 1936 = true, IA 167 1936 ∧ inb (109 : Int32) 1936 = true]) rfl ⟨rfl, ⟨⟨rfl, rfl⟩, g5⟩, rfl, rfl, ⟨⟨rfl, rfl⟩, (inbN 109 1936 rfl)⟩, ⟨⟨rfl, rfl⟩, (inbN 109 1936 rfl)⟩, trivial⟩) ?_
  exact Go_reti bk_Md_dies 60 rfl
def Md_dies0 (v1 : Int32) (σ : MH) : Option (Int32 × MH) := (Md_lives v1 σ).bind fun x1 => if x1 = (0 : Int32) then some ((0 : Int32), σ) else (if inb ((24 : Int32) + v1) 1936 = true then if σ.1 167 ((24 : Int32) + v1).toNatClampNeg = (-2 : Int32) then (Md_dies_b59 v1 σ) else ((Md_parts v1 σ).bind fun σ7 => if inb ((48 : Int32) + (σ.1 167 ((24 : Int32) + v1).toNatClampNeg)) 1936 = true then if inb ((48 : Int32) + v1) 1936 = true then Md_dies_b59 v1 (sI σ7 167 ((48 : Int32) + (σ.1 167 ((24 : Int32) + v1).toNatClampNeg)).toNatClampNeg ((σ7.1 167 ((48 : Int32) + (σ.1 167 ((24 : Int32) + v1).toNatClampNeg)).toNatClampNeg) ||| (σ7.1 167 ((48 : Int32) + v1).toNatClampNeg))) else none else none) else none)
set_option maxRecDepth 20000 in
set_option maxHeartbeats 2000000 in
theorem t_Md_dies0 (v1 : Int32)  (σ : MH) {o} (h : Md_dies0 v1 σ = some o) : Go m_Md_dies 4 (some 0, [some (.ref 166), some (.int v1), none], [], σ) ((none, [], [.int o.1], o.2)) := by
  unfold Md_dies0 at h
  refine Go.t (Go_sg bk_Md_dies 0 2 (c2 := (some 2, [some (.ref 166), some (.int v1), none], [.int v1, .ref 166], σ)) (ps := []) rfl trivial) ?_
  obtain ⟨x1, q3, h⟩ := bdS h
  refine Go.t (Go_callV bk_Md_dies 2 rfl nk_Md_lives tw1381 tw1383 tw45 (ci := 11) rfl (as := [.int v1]) (S := []) rfl rfl rfl rfl (Nat.le_of_ble_eq_true rfl) (Nat.le_of_ble_eq_true rfl) (ev_Md_lives _ _ q3)) ?_
  refine Go_if_ne bk_Md_dies 3 rfl (fun c12 => ?_) (fun c12 => ?_)
  · have h := ifF c12 h
    obtain ⟨g4, h⟩ := gdS h
    refine Go.t (Go_sg bk_Md_dies 6 9 (c2 := (some 23, [some (.ref 166), some (.int v1), some (.int (σ.1 167 ((24 : Int32) + v1).toNatClampNeg))], [.int (-2 : Int32), .int (σ.1 167 ((24 : Int32) + v1).toNatClampNeg)], σ)) (ps := [shk 166 = 11, IA 167 1936 ∧ inb ((24 : Int32) + v1) 1936 = true]) rfl ⟨rfl, ⟨⟨rfl, rfl⟩, g4⟩, trivial⟩) ?_
    refine Go_icmp_eq bk_Md_dies 15 rfl (fun c11 => ?_) (fun c11 => ?_)
    · have h := ifT c11 h
      exact Go.t (Go.fg (LSub.cs (LSub.cs (LSub.cn (LSub.nil))))) (t_Md_dies_b59 v1 σ h)
    · have h := ifF c11 h
      refine Go.t (Go_sg bk_Md_dies 16 2 (c2 := (some 28, [some (.ref 166), some (.int v1), some (.int (σ.1 167 ((24 : Int32) + v1).toNatClampNeg))], [.int v1, .ref 166], σ)) (ps := []) rfl trivial) ?_
      obtain ⟨σ7, q8, h⟩ := bdS h
      refine Go.t (Go_callV bk_Md_dies 18 rfl nk_Md_parts tw1385 tw1387 tw46 (ci := 11) rfl (as := [.int v1]) (S := []) rfl rfl rfl rfl (Nat.le_of_ble_eq_true rfl) (Nat.le_of_ble_eq_true rfl) (ev_Md_parts _ _ q8)) ?_
      obtain ⟨g9, h⟩ := gdS h
      obtain ⟨g10, h⟩ := gdS h
      refine Go.t (Go_sg bk_Md_dies 19 19 (c2 := (some 59, [some (.ref 166), some (.int v1), some (.int (σ.1 167 ((24 : Int32) + v1).toNatClampNeg))], [], sI σ7 167 ((48 : Int32) + (σ.1 167 ((24 : Int32) + v1).toNatClampNeg)).toNatClampNeg ((σ7.1 167 ((48 : Int32) + (σ.1 167 ((24 : Int32) + v1).toNatClampNeg)).toNatClampNeg) ||| (σ7.1 167 ((48 : Int32) + v1).toNatClampNeg)))) (ps := [shk 166 = 11, shk 166 = 11, IA 167 1936 ∧ inb ((48 : Int32) + (σ.1 167 ((24 : Int32) + v1).toNatClampNeg)) 1936 = true, shk 166 = 11, IA 167 1936 ∧ inb ((48 : Int32) + v1) 1936 = true, IA 167 1936 ∧ inb ((48 : Int32) + (σ.1 167 ((24 : Int32) + v1).toNatClampNeg)) 1936 = true]) rfl ⟨rfl, rfl, ⟨⟨rfl, rfl⟩, g9⟩, rfl, ⟨⟨rfl, rfl⟩, g10⟩, ⟨⟨rfl, rfl⟩, g9⟩, trivial⟩) ?_
      exact Go.t (Go.fg (LSub.cs (LSub.cs (LSub.cn (LSub.nil))))) (t_Md_dies_b59 v1 (sI σ7 167 ((48 : Int32) + (σ.1 167 ((24 : Int32) + v1).toNatClampNeg)).toNatClampNeg ((σ7.1 167 ((48 : Int32) + (σ.1 167 ((24 : Int32) + v1).toNatClampNeg)).toNatClampNeg) ||| (σ7.1 167 ((48 : Int32) + v1).toNatClampNeg))) h)
  · have h := ifT c12 h
    have h := Option.some.inj h
    subst h
    refine Go.t (Go_sg bk_Md_dies 4 1 (c2 := (some 9, [some (.ref 166), some (.int v1), none], [.int (0 : Int32)], σ)) (ps := []) rfl trivial) ?_
    exact Go_reti bk_Md_dies 5 rfl
def Md_dies (v1 : Int32) (σ : MH) : Option (Int32 × MH) := bzo (Md_dies0 v1 σ)
set_option maxRecDepth 20000 in
set_option maxHeartbeats 2000000 in
theorem ev_Md_dies (v1 : Int32)  (σ : MH) {o} (h : Md_dies v1 σ = some o) : Ev m_Md_dies 4 [.ref 166, .int v1] σ (some (.int o.1)) o.2 := Ev.of2 (by decide +kernel) rfl (Nat.le_of_ble_eq_true rfl) ⟨.boolean, rfl, nrB (bzo2 h)⟩ (t_Md_dies0 v1 σ (bzo1 h))
