/-! FUNCTIONS: Md_areSame Md_copies Md_mate Md_seed Md_keep Md_undo Md_check Md_count LawReader_readNumber String_isLatin1_t1 String_coder_t1 String_length_t1 StringLatin1_indexOfChar_t1 StringLatin1_indexOf_t1 String_indexOf_ii_t1 String_indexOf_i_t1 LawReader_land LawReader_emitJump -/
def cH_Md_areSame_2 (v1 : Int32) (v2 : Int32) (σ : MH) (s : Int32) : MC := (some 2, [some (.ref 166), some (.int v1), some (.int v2), some (.int s)], [], σ)
def cR_Md_areSame_2 (v1 : Int32) (v2 : Int32) (σ : MH) : ((Int32)) → MC := (fun r : Int32 => ((none, [], [.int r], σ) : MC))
def Md_areSame_l2 (v1 : Int32) (v2 : Int32) (v3 : Int32) (σ : MH) : Option (((Int32) ⊕ ((Int32)))) := if (8 : Int32) ≤ v3 then some (.inr ((1 : Int32))) else ((Md_heightOf v1 v3 σ).bind fun x1 => (Md_heightOf v2 v3 σ).bind fun x4 => if x1 = x4 then some (.inl (v3 + (1 : Int32))) else some (.inr ((0 : Int32))))
set_option maxRecDepth 20000 in
set_option maxHeartbeats 2000000 in
theorem t_Md_areSame_l2 (v1 : Int32) (v2 : Int32) (v3 : Int32)  (σ : MH) {o} (h : Md_areSame_l2 v1 v2 v3 σ = some o) : Go m_Md_areSame 2 (cH_Md_areSame_2 v1 v2 σ (v3)) (cS (cH_Md_areSame_2 v1 v2 σ) (cR_Md_areSame_2 v1 v2 σ) o) := by
  unfold Md_areSame_l2 at h
  unfold cH_Md_areSame_2
  refine Go.t (Go_sg bk_Md_areSame 2 2 (c2 := (some 5, [some (.ref 166), some (.int v1), some (.int v2), some (.int v3)], [.int (8 : Int32), .int v3], σ)) (ps := []) rfl trivial) ?_
  refine Go_icmp_ge bk_Md_areSame 4 rfl (fun c8 => ?_) (fun c8 => ?_)
  · have h := ifT c8 h
    have h := Option.some.inj h
    subst h
    refine Go.t (Go_sg bk_Md_areSame 18 1 (c2 := (some 32, [some (.ref 166), some (.int v1), some (.int v2), some (.int v3)], [.int (1 : Int32)], σ)) (ps := []) rfl trivial) ?_
    exact Go_reti bk_Md_areSame 19 rfl
  · have h := ifF c8 h
    refine Go.t (Go_sg bk_Md_areSame 5 3 (c2 := (some 11, [some (.ref 166), some (.int v1), some (.int v2), some (.int v3)], [.int v3, .int v1, .ref 166], σ)) (ps := []) rfl trivial) ?_
    obtain ⟨x1, q3, h⟩ := bdS h
    refine Go.t (Go_callV bk_Md_areSame 8 rfl nk_Md_heightOf tw1547 tw1549 tw77 (ci := 11) rfl (as := [.int v1, .int v3]) (S := []) rfl rfl rfl rfl (Nat.le_of_ble_eq_true rfl) (Nat.le_of_ble_eq_true rfl) (ev_Md_heightOf _ _ _ q3)) ?_
    refine Go.t (Go_sg bk_Md_areSame 9 3 (c2 := (some 17, [some (.ref 166), some (.int v1), some (.int v2), some (.int v3)], [.int v3, .int v2, .ref 166, .int x1], σ)) (ps := []) rfl trivial) ?_
    obtain ⟨x4, q6, h⟩ := bdS h
    refine Go.t (Go_callV bk_Md_areSame 12 rfl nk_Md_heightOf tw1547 tw1549 tw77 (ci := 11) rfl (as := [.int v2, .int v3]) (S := [.int x1]) rfl rfl rfl rfl (Nat.le_of_ble_eq_true rfl) (Nat.le_of_ble_eq_true rfl) (ev_Md_heightOf _ _ _ q6)) ?_
    refine Go_icmp_eq bk_Md_areSame 13 rfl (fun c7 => ?_) (fun c7 => ?_)
    · have h := ifT c7 h
      refine Go.t (Go_sg bk_Md_areSame 16 2 (c2 := (some 2, [some (.ref 166), some (.int v1), some (.int v2), some (.int (v3 + (1 : Int32)))], [], σ)) (ps := []) rfl trivial) ?_
      have h := Option.some.inj h
      subst h
      exact Go.fg (LSub.cs (LSub.cs (LSub.cs (LSub.cs (LSub.nil)))))
    · have h := ifF c7 h
      have h := Option.some.inj h
      subst h
      refine Go.t (Go_sg bk_Md_areSame 14 1 (c2 := (some 24, [some (.ref 166), some (.int v1), some (.int v2), some (.int v3)], [.int (0 : Int32)], σ)) (ps := []) rfl trivial) ?_
      exact Go_reti bk_Md_areSame 15 rfl
def Md_areSame_L2 (v1 : Int32) (v2 : Int32) (σ : MH) (s : Int32) : Option ((Int32)) := itr (fun s : Int32 => Md_areSame_l2 v1 v2 s σ) FU s
set_option maxRecDepth 20000 in
set_option maxHeartbeats 2000000 in
theorem t_Md_areSame_L2 (v1 : Int32) (v2 : Int32)  (σ : MH) (s : Int32) {r} (h : Md_areSame_L2 v1 v2 σ s = some r) : Go m_Md_areSame 2 (cH_Md_areSame_2 v1 v2 σ s) (cR_Md_areSame_2 v1 v2 σ r) := Go_itr (fun s o ho => t_Md_areSame_l2 v1 v2 s σ ho) FU s r h
def Md_areSame0 (v1 : Int32) (v2 : Int32) (σ : MH) : Option (Int32) := (Md_areSame_L2 v1 v2 σ ((0 : Int32))).bind fun z9 => some (z9)
set_option maxRecDepth 20000 in
set_option maxHeartbeats 2000000 in
theorem t_Md_areSame0 (v1 : Int32) (v2 : Int32)  (σ : MH) {o} (h : Md_areSame0 v1 v2 σ = some o) : Go m_Md_areSame 2 (some 0, [some (.ref 166), some (.int v1), some (.int v2), none], [], σ) ((none, [], [.int o], σ)) := by
  unfold Md_areSame0 at h
  refine Go.t (Go_sg bk_Md_areSame 0 2 (c2 := (some 2, [some (.ref 166), some (.int v1), some (.int v2), some (.int (0 : Int32))], [], σ)) (ps := []) rfl trivial) ?_
  obtain ⟨z9, q10, h⟩ := bdS h
  refine Go.t (Go.t (Go.fg (LSub.cs (LSub.cs (LSub.cs (LSub.cs (LSub.nil)))))) (t_Md_areSame_L2 v1 v2 σ _ q10)) ?_
  have h := Option.some.inj h
  subst h
  exact Go.rf
def Md_areSame (v1 : Int32) (v2 : Int32) (σ : MH) : Option (Int32) := bzp (Md_areSame0 v1 v2 σ)
set_option maxRecDepth 20000 in
set_option maxHeartbeats 2000000 in
theorem ev_Md_areSame (v1 : Int32) (v2 : Int32)  (σ : MH) {o} (h : Md_areSame v1 v2 σ = some o) : Ev m_Md_areSame 2 [.ref 166, .int v1, .int v2] σ (some (.int o)) σ := Ev.of2 (by decide +kernel) rfl (Nat.le_of_ble_eq_true rfl) ⟨.boolean, rfl, nrB (bzp2 h)⟩ (t_Md_areSame0 v1 v2 σ (bzp1 h))
def cH_Md_copies_18 (v1 : Int32) (σ : MH) (s : Int32 × Int32 × Int32) : MC := (some 18, [some (.ref 166), some (.int v1), some (.int s.1), some (.int s.2.1), some (.int s.2.2), none], [], σ)
def cR_Md_copies_18 (v1 : Int32) (σ : MH) : ((Int32 × Int32)) → MC := (fun r : Int32 × Int32 => ((some 103, [some (.ref 166), some (.int v1), some (.int r.1), some (.int r.2), none, none], [], σ) : MC))
def cH_Md_copies_31 (v1 : Int32) (v4 : Int32) (σ : MH) (s : Int32 × Int32 × Int32) : MC := (some 31, [some (.ref 166), some (.int v1), some (.int s.1), some (.int s.2.1), some (.int v4), some (.int s.2.2)], [], σ)
def cR_Md_copies_31 (v1 : Int32) (v4 : Int32) (σ : MH) : ((Int32 × Int32)) → MC := (fun r : Int32 × Int32 => ((some 97, [some (.ref 166), some (.int v1), some (.int r.1), some (.int r.2), some (.int v4), none], [], σ) : MC))
def Md_copies_b91 (v1 : Int32) (v2 : Int32) (v3 : Int32) (v4 : Int32) (v5 : Int32) (σ : MH) : Option (((Int32 × Int32 × Int32) ⊕ ((Int32 × Int32)))) := some (.inl (v2, v3, v5 + (1 : Int32)))
set_option maxRecDepth 20000 in
set_option maxHeartbeats 2000000 in
theorem t_Md_copies_b91 (v1 : Int32) (v2 : Int32) (v3 : Int32) (v4 : Int32) (v5 : Int32)   (σ : MH) {o} (h : Md_copies_b91 v1 v2 v3 v4 v5 σ = some o) : Go m_Md_copies 3 (some 91, [some (.ref 166), some (.int v1), some (.int v2), some (.int v3), some (.int v4), some (.int v5)], [], σ) (cS (cH_Md_copies_31 v1 v4 σ) (cR_Md_copies_31 v1 v4 σ) o) := by
  unfold Md_copies_b91 at h
  refine Go.t (Go_sg bk_Md_copies 51 2 (c2 := (some 31, [some (.ref 166), some (.int v1), some (.int v2), some (.int v3), some (.int v4), some (.int (v5 + (1 : Int32)))], [], σ)) (ps := []) rfl trivial) ?_
  have h := Option.some.inj h
  subst h
  exact Go.fg (LSub.cs (LSub.cs (LSub.cs (LSub.cs (LSub.cs (LSub.cs (LSub.nil)))))))
def Md_copies_b86 (v1 : Int32) (v2 : Int32) (v4 : Int32) (v5 : Int32) (s0 : Int32) (σ : MH) : Option (((Int32 × Int32 × Int32) ⊕ ((Int32 × Int32)))) := Md_copies_b91 v1 (v2 + (1 : Int32)) s0 v4 v5 σ
set_option maxRecDepth 20000 in
set_option maxHeartbeats 2000000 in
theorem t_Md_copies_b86 (v1 : Int32) (v2 : Int32) (v4 : Int32) (v5 : Int32) (s0 : Int32)   (σ : MH) {o} (h : Md_copies_b86 v1 v2 v4 v5 s0 σ = some o) : Go m_Md_copies 3 (some 86, [some (.ref 166), some (.int v1), some (.int v2), none, some (.int v4), some (.int v5)], [.int s0], σ) (cS (cH_Md_copies_31 v1 v4 σ) (cR_Md_copies_31 v1 v4 σ) o) := by
  unfold Md_copies_b86 at h
  refine Go.t (Go_sg bk_Md_copies 46 5 (c2 := (some 91, [some (.ref 166), some (.int v1), some (.int (v2 + (1 : Int32))), some (.int s0), some (.int v4), some (.int v5)], [], σ)) (ps := []) rfl trivial) ?_
  exact Go.t (Go.fg (LSub.cs (LSub.cs (LSub.cs (LSub.cs (LSub.cs (LSub.cs (LSub.nil)))))))) (t_Md_copies_b91 v1 (v2 + (1 : Int32)) s0 v4 v5 σ h)
def Md_copies_l31 (v1 : Int32) (v4 : Int32) (v2 : Int32) (v3 : Int32) (v5 : Int32) (σ : MH) : Option (((Int32 × Int32 × Int32) ⊕ ((Int32 × Int32)))) := if (12 : Int32) ≤ v5 then some (.inr (v2, v3)) else ((Md_isPerson v4 σ).bind fun x4 => if x4 = (0 : Int32) then (Md_copies_b91 v1 v2 v3 v4 v5 σ) else ((Md_isPerson v5 σ).bind fun x7 => if x7 = (0 : Int32) then (Md_copies_b91 v1 v2 v3 v4 v5 σ) else ((Md_areSame v4 v5 σ).bind fun x10 => if x10 = (0 : Int32) then (Md_copies_b91 v1 v2 v3 v4 v5 σ) else (if v2 = (0 : Int32) then (Md_copies_b86 v1 v2 v4 v5 (((12 : Int32) * v4) + v5) σ) else (Md_copies_b86 v1 v2 v4 v5 v3 σ)))))
set_option maxRecDepth 20000 in
set_option maxHeartbeats 2000000 in
theorem t_Md_copies_l31 (v1 : Int32) (v4 : Int32) (v2 : Int32) (v3 : Int32) (v5 : Int32)  (σ : MH) {o} (h : Md_copies_l31 v1 v4 v2 v3 v5 σ = some o) : Go m_Md_copies 3 (cH_Md_copies_31 v1 v4 σ (v2, v3, v5)) (cS (cH_Md_copies_31 v1 v4 σ) (cR_Md_copies_31 v1 v4 σ) o) := by
  unfold Md_copies_l31 at h
  unfold cH_Md_copies_31
  refine Go.t (Go_sg bk_Md_copies 20 2 (c2 := (some 35, [some (.ref 166), some (.int v1), some (.int v2), some (.int v3), some (.int v4), some (.int v5)], [.int (12 : Int32), .int v5], σ)) (ps := []) rfl trivial) ?_
  refine Go_icmp_ge bk_Md_copies 22 rfl (fun c17 => ?_) (fun c17 => ?_)
  · have h := ifT c17 h
    have h := Option.some.inj h
    subst h
    exact Go.fg (LSub.cs (LSub.cs (LSub.cs (LSub.cs (LSub.cs (LSub.cn (LSub.nil)))))))
  · have h := ifF c17 h
    refine Go.t (Go_sg bk_Md_copies 23 2 (c2 := (some 41, [some (.ref 166), some (.int v1), some (.int v2), some (.int v3), some (.int v4), some (.int v5)], [.int v4, .ref 166], σ)) (ps := []) rfl trivial) ?_
    obtain ⟨x4, q6, h⟩ := bdS h
    refine Go.t (Go_callV bk_Md_copies 25 rfl nk_Md_isPerson tw1363 tw1365 tw44 (ci := 11) rfl (as := [.int v4]) (S := []) rfl rfl rfl rfl (Nat.le_of_ble_eq_true rfl) (Nat.le_of_ble_eq_true rfl) (ev_Md_isPerson _ _ q6)) ?_
    refine Go_if_eq bk_Md_copies 26 rfl (fun c16 => ?_) (fun c16 => ?_)
    · have h := ifT c16 h
      exact Go.t (Go.fg (LSub.cs (LSub.cs (LSub.cs (LSub.cs (LSub.cs (LSub.cs (LSub.nil)))))))) (t_Md_copies_b91 v1 v2 v3 v4 v5 σ h)
    · have h := ifF c16 h
      refine Go.t (Go_sg bk_Md_copies 27 2 (c2 := (some 50, [some (.ref 166), some (.int v1), some (.int v2), some (.int v3), some (.int v4), some (.int v5)], [.int v5, .ref 166], σ)) (ps := []) rfl trivial) ?_
      obtain ⟨x7, q9, h⟩ := bdS h
      refine Go.t (Go_callV bk_Md_copies 29 rfl nk_Md_isPerson tw1363 tw1365 tw44 (ci := 11) rfl (as := [.int v5]) (S := []) rfl rfl rfl rfl (Nat.le_of_ble_eq_true rfl) (Nat.le_of_ble_eq_true rfl) (ev_Md_isPerson _ _ q9)) ?_
      refine Go_if_eq bk_Md_copies 30 rfl (fun c15 => ?_) (fun c15 => ?_)
      · have h := ifT c15 h
        exact Go.t (Go.fg (LSub.cs (LSub.cs (LSub.cs (LSub.cs (LSub.cs (LSub.cs (LSub.nil)))))))) (t_Md_copies_b91 v1 v2 v3 v4 v5 σ h)
      · have h := ifF c15 h
        refine Go.t (Go_sg bk_Md_copies 31 3 (c2 := (some 61, [some (.ref 166), some (.int v1), some (.int v2), some (.int v3), some (.int v4), some (.int v5)], [.int v5, .int v4, .ref 166], σ)) (ps := []) rfl trivial) ?_
        obtain ⟨x10, q12, h⟩ := bdS h
        refine Go.t (Go_callV bk_Md_copies 34 rfl nk_Md_areSame tw1751 tw1753 tw109 (ci := 11) rfl (as := [.int v4, .int v5]) (S := []) rfl rfl rfl rfl (Nat.le_of_ble_eq_true rfl) (Nat.le_of_ble_eq_true rfl) (ev_Md_areSame _ _ _ q12)) ?_
        refine Go_if_ne bk_Md_copies 35 rfl (fun c14 => ?_) (fun c14 => ?_)
        · have h := ifF c14 h
          refine Go.t (Go_sg bk_Md_copies 37 1 (c2 := (some 71, [some (.ref 166), some (.int v1), some (.int v2), some (.int v3), some (.int v4), some (.int v5)], [.int v2], σ)) (ps := []) rfl trivial) ?_
          refine Go_if_ne bk_Md_copies 38 rfl (fun c13 => ?_) (fun c13 => ?_)
          · have h := ifF c13 h
            refine Go.t (Go_sg bk_Md_copies 45 1 (c2 := (some 86, [some (.ref 166), some (.int v1), some (.int v2), some (.int v3), some (.int v4), some (.int v5)], [.int v3], σ)) (ps := []) rfl trivial) ?_
            exact Go.t (Go.fg (LSub.cs (LSub.cs (LSub.cs (LSub.cn (LSub.cs (LSub.cs (LSub.nil)))))))) (t_Md_copies_b86 v1 v2 v4 v5 v3 σ h)
          · have h := ifT c13 h
            refine Go.t (Go_sg bk_Md_copies 39 6 (c2 := (some 86, [some (.ref 166), some (.int v1), some (.int v2), some (.int v3), some (.int v4), some (.int v5)], [.int (((12 : Int32) * v4) + v5)], σ)) (ps := []) rfl trivial) ?_
            exact Go.t (Go.fg (LSub.cs (LSub.cs (LSub.cs (LSub.cn (LSub.cs (LSub.cs (LSub.nil)))))))) (t_Md_copies_b86 v1 v2 v4 v5 (((12 : Int32) * v4) + v5) σ h)
        · have h := ifT c14 h
          refine Go.t (Go_sg bk_Md_copies 36 1 (c2 := (some 91, [some (.ref 166), some (.int v1), some (.int v2), some (.int v3), some (.int v4), some (.int v5)], [], σ)) (ps := []) rfl trivial) ?_
          exact Go.t (Go.fg (LSub.cs (LSub.cs (LSub.cs (LSub.cs (LSub.cs (LSub.cs (LSub.nil)))))))) (t_Md_copies_b91 v1 v2 v3 v4 v5 σ h)
def Md_copies_L31 (v1 : Int32) (v4 : Int32) (σ : MH) (s : Int32 × Int32 × Int32) : Option ((Int32 × Int32)) := itr (fun s : Int32 × Int32 × Int32 => Md_copies_l31 v1 v4 s.1 s.2.1 s.2.2 σ) FU s
set_option maxRecDepth 20000 in
set_option maxHeartbeats 2000000 in
theorem t_Md_copies_L31 (v1 : Int32) (v4 : Int32)  (σ : MH) (s : Int32 × Int32 × Int32) {r} (h : Md_copies_L31 v1 v4 σ s = some r) : Go m_Md_copies 3 (cH_Md_copies_31 v1 v4 σ s) (cR_Md_copies_31 v1 v4 σ r) := Go_itr (fun s o ho => t_Md_copies_l31 v1 v4 s.1 s.2.1 s.2.2 σ ho) FU s r h
def Md_copies_l18 (v1 : Int32) (v2 : Int32) (v3 : Int32) (v4 : Int32) (σ : MH) : Option (((Int32 × Int32 × Int32) ⊕ ((Int32 × Int32)))) := if (12 : Int32) ≤ v4 then some (.inr (v2, v3)) else ((Md_copies_L31 v1 v4 σ (v2, v3, v4 + (1 : Int32))).bind fun z18 => some (.inl (z18.1, z18.2, v4 + (1 : Int32))))
set_option maxRecDepth 20000 in
set_option maxHeartbeats 2000000 in
theorem t_Md_copies_l18 (v1 : Int32) (v2 : Int32) (v3 : Int32) (v4 : Int32)  (σ : MH) {o} (h : Md_copies_l18 v1 v2 v3 v4 σ = some o) : Go m_Md_copies 3 (cH_Md_copies_18 v1 σ (v2, v3, v4)) (cS (cH_Md_copies_18 v1 σ) (cR_Md_copies_18 v1 σ) o) := by
  unfold Md_copies_l18 at h
  unfold cH_Md_copies_18
  refine Go.t (Go_sg bk_Md_copies 13 2 (c2 := (some 22, [some (.ref 166), some (.int v1), some (.int v2), some (.int v3), some (.int v4), none], [.int (12 : Int32), .int v4], σ)) (ps := []) rfl trivial) ?_
  refine Go_icmp_ge bk_Md_copies 15 rfl (fun c20 => ?_) (fun c20 => ?_)
  · have h := ifT c20 h
    have h := Option.some.inj h
    subst h
    exact Go.fg (LSub.cs (LSub.cs (LSub.cs (LSub.cs (LSub.cn (LSub.cn (LSub.nil)))))))
  · have h := ifF c20 h
    refine Go.t (Go_sg bk_Md_copies 16 4 (c2 := (some 31, [some (.ref 166), some (.int v1), some (.int v2), some (.int v3), some (.int v4), some (.int (v4 + (1 : Int32)))], [], σ)) (ps := []) rfl trivial) ?_
    obtain ⟨z18, q19, h⟩ := bdS h
    refine Go.t (Go.t (Go.fg (LSub.cs (LSub.cs (LSub.cs (LSub.cs (LSub.cs (LSub.cs (LSub.nil)))))))) (t_Md_copies_L31 v1 v4 σ _ q19)) ?_
    refine Go.t (Go_sg bk_Md_copies 53 2 (c2 := (some 18, [some (.ref 166), some (.int v1), some (.int z18.1), some (.int z18.2), some (.int (v4 + (1 : Int32))), none], [], σ)) (ps := []) rfl trivial) ?_
    have h := Option.some.inj h
    subst h
    exact Go.fg (LSub.cs (LSub.cs (LSub.cs (LSub.cs (LSub.cs (LSub.cn (LSub.nil)))))))
def Md_copies_L18 (v1 : Int32) (σ : MH) (s : Int32 × Int32 × Int32) : Option ((Int32 × Int32)) := itr (fun s : Int32 × Int32 × Int32 => Md_copies_l18 v1 s.1 s.2.1 s.2.2 σ) FU s
set_option maxRecDepth 20000 in
set_option maxHeartbeats 2000000 in
theorem t_Md_copies_L18 (v1 : Int32)  (σ : MH) (s : Int32 × Int32 × Int32) {r} (h : Md_copies_L18 v1 σ s = some r) : Go m_Md_copies 3 (cH_Md_copies_18 v1 σ s) (cR_Md_copies_18 v1 σ r) := Go_itr (fun s o ho => t_Md_copies_l18 v1 s.1 s.2.1 s.2.2 σ ho) FU s r h
def Md_copies0 (v1 : Int32) (σ : MH) : Option (Int32) := (Md_in v1 (0 : Int32) (3 : Int32) σ).bind fun x1 => if x1 = (0 : Int32) then some ((-1 : Int32)) else ((Md_copies_L18 v1 σ ((0 : Int32), (-1 : Int32), (0 : Int32))).bind fun z21 => if v1 = (0 : Int32) then some (z21.1) else (if z21.2 = (-1 : Int32) then some ((-2 : Int32)) else (if v1 = (1 : Int32) then some (z21.2 / (12 : Int32)) else (if v1 = (2 : Int32) then some (jrem z21.2 (12 : Int32)) else (if inb ((72 : Int32) + (z21.2 / (12 : Int32))) 1936 = true then if inb ((72 : Int32) + (jrem z21.2 (12 : Int32))) 1936 = true then if σ.1 167 ((72 : Int32) + (jrem z21.2 (12 : Int32))).toNatClampNeg ≤ σ.1 167 ((72 : Int32) + (z21.2 / (12 : Int32))).toNatClampNeg then some (jrem z21.2 (12 : Int32)) else some (z21.2 / (12 : Int32)) else none else none)))))
set_option maxRecDepth 20000 in
set_option maxHeartbeats 2000000 in
theorem t_Md_copies0 (v1 : Int32)  (σ : MH) {o} (h : Md_copies0 v1 σ = some o) : Go m_Md_copies 3 (some 0, [some (.ref 166), some (.int v1), none, none, none, none], [], σ) ((none, [], [.int o], σ)) := by
  unfold Md_copies0 at h
  refine Go.t (Go_sg bk_Md_copies 0 3 (c2 := (some 3, [some (.ref 166), some (.int v1), none, none, none, none], [.int (3 : Int32), .int (0 : Int32), .int v1], σ)) (ps := []) rfl trivial) ?_
  obtain ⟨x1, q3, h⟩ := bdS h
  refine Go.t (Go_callS bk_Md_copies 3 rfl nk_Md_in tw1370 tw1371 (as := [.int v1, .int (0 : Int32), .int (3 : Int32)]) (S := []) rfl rfl rfl (Nat.le_of_ble_eq_true rfl) (Nat.le_of_ble_eq_true rfl) (ev_Md_in _ _ _ _ q3)) ?_
  refine Go_if_ne bk_Md_copies 4 rfl (fun c30 => ?_) (fun c30 => ?_)
  · have h := ifF c30 h
    refine Go.t (Go_sg bk_Md_copies 7 6 (c2 := (some 18, [some (.ref 166), some (.int v1), some (.int (0 : Int32)), some (.int (-1 : Int32)), some (.int (0 : Int32)), none], [], σ)) (ps := []) rfl trivial) ?_
    obtain ⟨z21, q22, h⟩ := bdS h
    refine Go.t (Go.t (Go.fg (LSub.cs (LSub.cs (LSub.cs (LSub.cs (LSub.cs (LSub.cn (LSub.nil)))))))) (t_Md_copies_L18 v1 σ _ q22)) ?_
    refine Go.t (Go_sg bk_Md_copies 55 1 (c2 := (some 104, [some (.ref 166), some (.int v1), some (.int z21.1), some (.int z21.2), none, none], [.int v1], σ)) (ps := []) rfl trivial) ?_
    refine Go_if_ne bk_Md_copies 56 rfl (fun c29 => ?_) (fun c29 => ?_)
    · have h := ifF c29 h
      refine Go.t (Go_sg bk_Md_copies 59 2 (c2 := (some 111, [some (.ref 166), some (.int v1), some (.int z21.1), some (.int z21.2), none, none], [.int (-1 : Int32), .int z21.2], σ)) (ps := []) rfl trivial) ?_
      refine Go_icmp_ne bk_Md_copies 61 rfl (fun c28 => ?_) (fun c28 => ?_)
      · have h := ifF c28 h
        refine Go.t (Go_sg bk_Md_copies 64 10 (c2 := (some 131, [some (.ref 166), some (.int v1), some (.int z21.1), some (.int z21.2), some (.int (z21.2 / (12 : Int32))), some (.int (jrem z21.2 (12 : Int32)))], [.int (1 : Int32), .int v1], σ)) (ps := [(12 : Int32) ≠ 0, (12 : Int32) ≠ 0]) rfl ⟨(by decide), (by decide), trivial⟩) ?_
        refine Go_icmp_ne bk_Md_copies 74 rfl (fun c27 => ?_) (fun c27 => ?_)
        · have h := ifF c27 h
          refine Go.t (Go_sg bk_Md_copies 77 2 (c2 := (some 141, [some (.ref 166), some (.int v1), some (.int z21.1), some (.int z21.2), some (.int (z21.2 / (12 : Int32))), some (.int (jrem z21.2 (12 : Int32)))], [.int (2 : Int32), .int v1], σ)) (ps := []) rfl trivial) ?_
          refine Go_icmp_ne bk_Md_copies 79 rfl (fun c26 => ?_) (fun c26 => ?_)
          · have h := ifF c26 h
            obtain ⟨g23, h⟩ := gdS h
            obtain ⟨g24, h⟩ := gdS h
            refine Go.t (Go_sg bk_Md_copies 82 12 (c2 := (some 169, [some (.ref 166), some (.int v1), some (.int z21.1), some (.int z21.2), some (.int (z21.2 / (12 : Int32))), some (.int (jrem z21.2 (12 : Int32)))], [.int (σ.1 167 ((72 : Int32) + (jrem z21.2 (12 : Int32))).toNatClampNeg), .int (σ.1 167 ((72 : Int32) + (z21.2 / (12 : Int32))).toNatClampNeg)], σ)) (ps := [shk 166 = 11, IA 167 1936 ∧ inb ((72 : Int32) + (z21.2 / (12 : Int32))) 1936 = true, shk 166 = 11, IA 167 1936 ∧ inb ((72 : Int32) + (jrem z21.2 (12 : Int32))) 1936 = true]) rfl ⟨rfl, ⟨⟨rfl, rfl⟩, g23⟩, rfl, ⟨⟨rfl, rfl⟩, g24⟩, trivial⟩) ?_
            refine Go_icmp_ge bk_Md_copies 94 rfl (fun c25 => ?_) (fun c25 => ?_)
            · have h := ifT c25 h
              have h := Option.some.inj h
              subst h
              refine Go.t (Go_sg bk_Md_copies 97 1 (c2 := (some 179, [some (.ref 166), some (.int v1), some (.int z21.1), some (.int z21.2), some (.int (z21.2 / (12 : Int32))), some (.int (jrem z21.2 (12 : Int32)))], [.int (jrem z21.2 (12 : Int32))], σ)) (ps := []) rfl trivial) ?_
              exact Go_reti bk_Md_copies 98 rfl
            · have h := ifF c25 h
              refine Go.t (Go_sg bk_Md_copies 95 2 (c2 := (some 179, [some (.ref 166), some (.int v1), some (.int z21.1), some (.int z21.2), some (.int (z21.2 / (12 : Int32))), some (.int (jrem z21.2 (12 : Int32)))], [.int (z21.2 / (12 : Int32))], σ)) (ps := []) rfl trivial) ?_
              have h := Option.some.inj h
              subst h
              exact Go_reti bk_Md_copies 98 rfl
          · have h := ifT c26 h
            refine Go.t (Go_sg bk_Md_copies 80 2 (c2 := (some 179, [some (.ref 166), some (.int v1), some (.int z21.1), some (.int z21.2), some (.int (z21.2 / (12 : Int32))), some (.int (jrem z21.2 (12 : Int32)))], [.int (jrem z21.2 (12 : Int32))], σ)) (ps := []) rfl trivial) ?_
            have h := Option.some.inj h
            subst h
            exact Go_reti bk_Md_copies 98 rfl
        · have h := ifT c27 h
          refine Go.t (Go_sg bk_Md_copies 75 2 (c2 := (some 179, [some (.ref 166), some (.int v1), some (.int z21.1), some (.int z21.2), some (.int (z21.2 / (12 : Int32))), some (.int (jrem z21.2 (12 : Int32)))], [.int (z21.2 / (12 : Int32))], σ)) (ps := []) rfl trivial) ?_
          have h := Option.some.inj h
          subst h
          exact Go_reti bk_Md_copies 98 rfl
      · have h := ifT c28 h
        have h := Option.some.inj h
        subst h
        refine Go.t (Go_sg bk_Md_copies 62 1 (c2 := (some 116, [some (.ref 166), some (.int v1), some (.int z21.1), some (.int z21.2), none, none], [.int (-2 : Int32)], σ)) (ps := []) rfl trivial) ?_
        exact Go_reti bk_Md_copies 63 rfl
    · have h := ifT c29 h
      have h := Option.some.inj h
      subst h
      refine Go.t (Go_sg bk_Md_copies 57 1 (c2 := (some 108, [some (.ref 166), some (.int v1), some (.int z21.1), some (.int z21.2), none, none], [.int z21.1], σ)) (ps := []) rfl trivial) ?_
      exact Go_reti bk_Md_copies 58 rfl
  · have h := ifT c30 h
    have h := Option.some.inj h
    subst h
    refine Go.t (Go_sg bk_Md_copies 5 1 (c2 := (some 10, [some (.ref 166), some (.int v1), none, none, none, none], [.int (-1 : Int32)], σ)) (ps := []) rfl trivial) ?_
    exact Go_reti bk_Md_copies 6 rfl
def Md_copies (v1 : Int32) (σ : MH) : Option (Int32) := Md_copies0 v1 σ
set_option maxRecDepth 20000 in
set_option maxHeartbeats 2000000 in
theorem ev_Md_copies (v1 : Int32)  (σ : MH) {o} (h : Md_copies v1 σ = some o) : Ev m_Md_copies 3 [.ref 166, .int v1] σ (some (.int o)) σ := Ev.of2 (by decide +kernel) rfl (Nat.le_of_ble_eq_true rfl) ⟨.int, rfl, rfl⟩ (t_Md_copies0 v1 σ h)
def Md_mate0 (v1 : Int32) (v2 : Int32) (σ : MH) : Option (Int32) := (Md_isTwelve v1 σ).bind fun x1 => if x1 = (0 : Int32) then some ((-1 : Int32)) else ((Md_in v2 (0 : Int32) (7 : Int32) σ).bind fun x4 => if x4 = (0 : Int32) then some ((-1 : Int32)) else ((Md_heightOf v1 ((7 : Int32) - v2) σ).bind fun x7 => some ((10 : Int32) - x7)))
set_option maxRecDepth 20000 in
set_option maxHeartbeats 2000000 in
theorem t_Md_mate0 (v1 : Int32) (v2 : Int32)  (σ : MH) {o} (h : Md_mate0 v1 v2 σ = some o) : Go m_Md_mate 2 (some 0, [some (.ref 166), some (.int v1), some (.int v2)], [], σ) ((none, [], [.int o], σ)) := by
  unfold Md_mate0 at h
  refine Go.t (Go_sg bk_Md_mate 0 1 (c2 := (some 1, [some (.ref 166), some (.int v1), some (.int v2)], [.int v1], σ)) (ps := []) rfl trivial) ?_
  obtain ⟨x1, q3, h⟩ := bdS h
  refine Go.t (Go_callS bk_Md_mate 1 rfl nk_Md_isTwelve tw1360 tw1361 (as := [.int v1]) (S := []) rfl rfl rfl (Nat.le_of_ble_eq_true rfl) (Nat.le_of_ble_eq_true rfl) (ev_Md_isTwelve _ _ q3)) ?_
  refine Go_if_eq bk_Md_mate 2 rfl (fun c11 => ?_) (fun c11 => ?_)
  · have h := ifT c11 h
    have h := Option.some.inj h
    subst h
    refine Go.t (Go_sg bk_Md_mate 17 1 (c2 := (some 33, [some (.ref 166), some (.int v1), some (.int v2)], [.int (-1 : Int32)], σ)) (ps := []) rfl trivial) ?_
    exact Go_reti bk_Md_mate 18 rfl
  · have h := ifF c11 h
    refine Go.t (Go_sg bk_Md_mate 3 3 (c2 := (some 11, [some (.ref 166), some (.int v1), some (.int v2)], [.int (7 : Int32), .int (0 : Int32), .int v2], σ)) (ps := []) rfl trivial) ?_
    obtain ⟨x4, q6, h⟩ := bdS h
    refine Go.t (Go_callS bk_Md_mate 6 rfl nk_Md_in tw1370 tw1371 (as := [.int v2, .int (0 : Int32), .int (7 : Int32)]) (S := []) rfl rfl rfl (Nat.le_of_ble_eq_true rfl) (Nat.le_of_ble_eq_true rfl) (ev_Md_in _ _ _ _ q6)) ?_
    refine Go_if_eq bk_Md_mate 7 rfl (fun c10 => ?_) (fun c10 => ?_)
    · have h := ifT c10 h
      have h := Option.some.inj h
      subst h
      refine Go.t (Go_sg bk_Md_mate 17 1 (c2 := (some 33, [some (.ref 166), some (.int v1), some (.int v2)], [.int (-1 : Int32)], σ)) (ps := []) rfl trivial) ?_
      exact Go_reti bk_Md_mate 18 rfl
    · have h := ifF c10 h
      refine Go.t (Go_sg bk_Md_mate 8 6 (c2 := (some 25, [some (.ref 166), some (.int v1), some (.int v2)], [.int ((7 : Int32) - v2), .int v1, .ref 166, .int (10 : Int32)], σ)) (ps := []) rfl trivial) ?_
      obtain ⟨x7, q9, h⟩ := bdS h
      refine Go.t (Go_callV bk_Md_mate 14 rfl nk_Md_heightOf tw1547 tw1549 tw77 (ci := 11) rfl (as := [.int v1, .int ((7 : Int32) - v2)]) (S := [.int (10 : Int32)]) rfl rfl rfl rfl (Nat.le_of_ble_eq_true rfl) (Nat.le_of_ble_eq_true rfl) (ev_Md_heightOf _ _ _ q9)) ?_
      refine Go.t (Go_sg bk_Md_mate 15 2 (c2 := (some 33, [some (.ref 166), some (.int v1), some (.int v2)], [.int ((10 : Int32) - x7)], σ)) (ps := []) rfl trivial) ?_
      have h := Option.some.inj h
      subst h
      exact Go_reti bk_Md_mate 18 rfl
def Md_mate (v1 : Int32) (v2 : Int32) (σ : MH) : Option (Int32) := Md_mate0 v1 v2 σ
set_option maxRecDepth 20000 in
set_option maxHeartbeats 2000000 in
theorem ev_Md_mate (v1 : Int32) (v2 : Int32)  (σ : MH) {o} (h : Md_mate v1 v2 σ = some o) : Ev m_Md_mate 2 [.ref 166, .int v1, .int v2] σ (some (.int o)) σ := Ev.of2 (by decide +kernel) rfl (Nat.le_of_ble_eq_true rfl) ⟨.int, rfl, rfl⟩ (t_Md_mate0 v1 v2 σ h)
def Md_seed0 (v1 : Int32) (σ : MH) : Option (Int32 × MH) := (Md_in v1 (0 : Int32) (65535 : Int32) σ).bind fun x1 => if x1 = (0 : Int32) then some ((0 : Int32), σ) else some ((1 : Int32), sI σ 167 111 v1)
set_option maxRecDepth 20000 in
set_option maxHeartbeats 2000000 in
theorem t_Md_seed0 (v1 : Int32)  (σ : MH) {o} (h : Md_seed0 v1 σ = some o) : Go m_Md_seed 2 (some 0, [some (.ref 166), some (.int v1)], [], σ) ((none, [], [.int o.1], o.2)) := by
  unfold Md_seed0 at h
  refine Go.t (Go_sg bk_Md_seed 0 3 (c2 := (some 5, [some (.ref 166), some (.int v1)], [.int (65535 : Int32), .int (0 : Int32), .int v1], σ)) (ps := []) rfl trivial) ?_
  obtain ⟨x1, q3, h⟩ := bdS h
  refine Go.t (Go_callS bk_Md_seed 3 rfl nk_Md_in tw1370 tw1371 (as := [.int v1, .int (0 : Int32), .int (65535 : Int32)]) (S := []) rfl rfl rfl (Nat.le_of_ble_eq_true rfl) (Nat.le_of_ble_eq_true rfl) (ev_Md_in _ _ _ _ q3)) ?_
  refine Go_if_ne bk_Md_seed 4 rfl (fun c4 => ?_) (fun c4 => ?_)
  · have h := ifF c4 h
    have h := Option.some.inj h
    subst h
    refine Go.t (Go_sg bk_Md_seed 7 6 (c2 := (some 22, [some (.ref 166), some (.int v1)], [.int (1 : Int32)], sI σ 167 111 v1)) (ps := [shk 166 = 11, IA 167 1936 ∧ inb (111 : Int32) 1936 = true]) rfl ⟨rfl, ⟨⟨rfl, rfl⟩, (inbN 111 1936 rfl)⟩, trivial⟩) ?_
    exact Go_reti bk_Md_seed 13 rfl
  · have h := ifT c4 h
    have h := Option.some.inj h
    subst h
    refine Go.t (Go_sg bk_Md_seed 5 1 (c2 := (some 12, [some (.ref 166), some (.int v1)], [.int (0 : Int32)], σ)) (ps := []) rfl trivial) ?_
    exact Go_reti bk_Md_seed 6 rfl
def Md_seed (v1 : Int32) (σ : MH) : Option (Int32 × MH) := bzo (Md_seed0 v1 σ)
set_option maxRecDepth 20000 in
set_option maxHeartbeats 2000000 in
theorem ev_Md_seed (v1 : Int32)  (σ : MH) {o} (h : Md_seed v1 σ = some o) : Ev m_Md_seed 2 [.ref 166, .int v1] σ (some (.int o.1)) o.2 := Ev.of2 (by decide +kernel) rfl (Nat.le_of_ble_eq_true rfl) ⟨.boolean, rfl, nrB (bzo2 h)⟩ (t_Md_seed0 v1 σ (bzo1 h))
def Md_keep0  (σ : MH) : Option (Int32 × MH) := (Md_copiesRow 167 169 (sI σ 166 46 (1 : Int32))).bind fun σ2 => (Md_wedTwos σ2).bind fun x4 => some (x4, σ2)
set_option maxRecDepth 20000 in
set_option maxHeartbeats 2000000 in
theorem t_Md_keep0   (σ : MH) {o} (h : Md_keep0 σ = some o) : Go m_Md_keep 2 (some 0, [some (.ref 166)], [], σ) ((none, [], [.int o.1], o.2)) := by
  unfold Md_keep0 at h
  refine Go.t (Go_sg bk_Md_keep 0 7 (c2 := (some 13, [some (.ref 166)], [.ref 169, .ref 167], sI σ 166 46 (1 : Int32))) (ps := [(shk 166 = 11 ∧ bz (1 : Int32) = true), shk 166 = 11, shk 166 = 11]) rfl ⟨⟨rfl, rfl⟩, rfl, rfl, trivial⟩) ?_
  obtain ⟨σ2, q3, h⟩ := bdS h
  refine Go.t (Go_callS bk_Md_keep 7 rfl nk_Md_copiesRow tw1600 tw1601 (as := [.ref 167, .ref 169]) (S := []) rfl rfl rfl (Nat.le_of_ble_eq_true rfl) (Nat.le_of_ble_eq_true rfl) (ev_Md_copiesRow _ _ ⟨rfl, rfl⟩ ⟨rfl, rfl⟩ _ q3)) ?_
  refine Go.t (Go_sg bk_Md_keep 8 1 (c2 := (some 17, [some (.ref 166)], [.ref 166], σ2)) (ps := []) rfl trivial) ?_
  obtain ⟨x4, q6, h⟩ := bdS h
  refine Go.t (Go_callV bk_Md_keep 9 rfl nk_Md_wedTwos tw1603 tw1605 tw86 (ci := 11) rfl (as := []) (S := []) rfl rfl rfl rfl (Nat.le_of_ble_eq_true rfl) (Nat.le_of_ble_eq_true rfl) (ev_Md_wedTwos _ q6)) ?_
  have h := Option.some.inj h
  subst h
  exact Go_reti bk_Md_keep 10 rfl
def Md_keep  (σ : MH) : Option (Int32 × MH) := Md_keep0 σ
set_option maxRecDepth 20000 in
set_option maxHeartbeats 2000000 in
theorem ev_Md_keep   (σ : MH) {o} (h : Md_keep σ = some o) : Ev m_Md_keep 2 [.ref 166] σ (some (.int o.1)) o.2 := Ev.of2 (by decide +kernel) rfl (Nat.le_of_ble_eq_true rfl) ⟨.int, rfl, rfl⟩ (t_Md_keep0 σ h)
def Md_undo0  (σ : MH) : Option (Int32 × MH) := if σ.1 166 46 = (0 : Int32) then some ((0 : Int32), σ) else ((Md_copiesRow 169 167 σ).bind fun σ2 => some ((1 : Int32), σ2))
set_option maxRecDepth 20000 in
set_option maxHeartbeats 2000000 in
theorem t_Md_undo0   (σ : MH) {o} (h : Md_undo0 σ = some o) : Go m_Md_undo 2 (some 0, [some (.ref 166)], [], σ) ((none, [], [.int o.1], o.2)) := by
  unfold Md_undo0 at h
  refine Go.t (Go_sg bk_Md_undo 0 2 (c2 := (some 4, [some (.ref 166)], [.int (σ.1 166 46)], σ)) (ps := [shk 166 = 11]) rfl ⟨rfl, trivial⟩) ?_
  refine Go_if_ne bk_Md_undo 2 rfl (fun c4 => ?_) (fun c4 => ?_)
  · have h := ifF c4 h
    refine Go.t (Go_sg bk_Md_undo 5 4 (c2 := (some 17, [some (.ref 166)], [.ref 167, .ref 169], σ)) (ps := [shk 166 = 11, shk 166 = 11]) rfl ⟨rfl, rfl, trivial⟩) ?_
    obtain ⟨σ2, q3, h⟩ := bdS h
    refine Go.t (Go_callS bk_Md_undo 9 rfl nk_Md_copiesRow tw1600 tw1601 (as := [.ref 169, .ref 167]) (S := []) rfl rfl rfl (Nat.le_of_ble_eq_true rfl) (Nat.le_of_ble_eq_true rfl) (ev_Md_copiesRow _ _ ⟨rfl, rfl⟩ ⟨rfl, rfl⟩ _ q3)) ?_
    have h := Option.some.inj h
    subst h
    refine Go.t (Go_sg bk_Md_undo 10 1 (c2 := (some 21, [some (.ref 166)], [.int (1 : Int32)], σ2)) (ps := []) rfl trivial) ?_
    exact Go_reti bk_Md_undo 11 rfl
  · have h := ifT c4 h
    have h := Option.some.inj h
    subst h
    refine Go.t (Go_sg bk_Md_undo 3 1 (c2 := (some 8, [some (.ref 166)], [.int (0 : Int32)], σ)) (ps := []) rfl trivial) ?_
    exact Go_reti bk_Md_undo 4 rfl
def Md_undo  (σ : MH) : Option (Int32 × MH) := bzo (Md_undo0 σ)
set_option maxRecDepth 20000 in
set_option maxHeartbeats 2000000 in
theorem ev_Md_undo   (σ : MH) {o} (h : Md_undo σ = some o) : Ev m_Md_undo 2 [.ref 166] σ (some (.int o.1)) o.2 := Ev.of2 (by decide +kernel) rfl (Nat.le_of_ble_eq_true rfl) ⟨.boolean, rfl, nrB (bzo2 h)⟩ (t_Md_undo0 σ (bzo1 h))
def cH_Md_check_35 (v1 : Int32) (v2 : Int32) (σ : MH) (s : Int32) : MC := (some 35, [some (.ref 166), some (.int v1), some (.int v2), some (.int s)], [], σ)
def cR_Md_check_35 (v1 : Int32) (v2 : Int32) (σ : MH) : ((Int32)) → MC := (fun r : Int32 => ((none, [], [.int r], σ) : MC))
def Md_check_l35 (v1 : Int32) (v2 : Int32) (v3 : Int32) (σ : MH) : Option (((Int32) ⊕ ((Int32)))) := if v2 ≤ v3 then some (.inr ((-1 : Int32))) else (if inb v3 260 = true then (Md_heightOf v1 v3 σ).bind fun x8 => if (σ.1 170 v3.toNatClampNeg) &&& (255 : Int32) = x8 + (9 : Int32) then some (.inl (v3 + (1 : Int32))) else some (.inr (v3)) else none)
set_option maxRecDepth 20000 in
set_option maxHeartbeats 2000000 in
theorem t_Md_check_l35 (v1 : Int32) (v2 : Int32) (v3 : Int32)  (σ : MH) {o} (h : Md_check_l35 v1 v2 v3 σ = some o) : Go m_Md_check 2 (cH_Md_check_35 v1 v2 σ (v3)) (cS (cH_Md_check_35 v1 v2 σ) (cR_Md_check_35 v1 v2 σ) o) := by
  unfold Md_check_l35 at h
  unfold cH_Md_check_35
  refine Go.t (Go_sg bk_Md_check 19 2 (c2 := (some 37, [some (.ref 166), some (.int v1), some (.int v2), some (.int v3)], [.int v2, .int v3], σ)) (ps := []) rfl trivial) ?_
  refine Go_icmp_ge bk_Md_check 21 rfl (fun c12 => ?_) (fun c12 => ?_)
  · have h := ifT c12 h
    have h := Option.some.inj h
    subst h
    refine Go.t (Go_sg bk_Md_check 39 1 (c2 := (some 71, [some (.ref 166), some (.int v1), some (.int v2), some (.int v3)], [.int (-1 : Int32)], σ)) (ps := []) rfl trivial) ?_
    exact Go_reti bk_Md_check 40 rfl
  · have h := ifF c12 h
    obtain ⟨g7, h⟩ := gdS h
    refine Go.t (Go_sg bk_Md_check 22 9 (c2 := (some 53, [some (.ref 166), some (.int v1), some (.int v2), some (.int v3)], [.int v3, .int v1, .ref 166, .int ((σ.1 170 v3.toNatClampNeg) &&& (255 : Int32))], σ)) (ps := [shk 166 = 11, IB 170 260 ∧ inb v3 260 = true]) rfl ⟨rfl, ⟨⟨rfl, rfl⟩, g7⟩, trivial⟩) ?_
    obtain ⟨x8, q10, h⟩ := bdS h
    refine Go.t (Go_callV bk_Md_check 31 rfl nk_Md_heightOf tw1547 tw1549 tw77 (ci := 11) rfl (as := [.int v1, .int v3]) (S := [.int ((σ.1 170 v3.toNatClampNeg) &&& (255 : Int32))]) rfl rfl rfl rfl (Nat.le_of_ble_eq_true rfl) (Nat.le_of_ble_eq_true rfl) (ev_Md_heightOf _ _ _ q10)) ?_
    refine Go.t (Go_sg bk_Md_check 32 2 (c2 := (some 59, [some (.ref 166), some (.int v1), some (.int v2), some (.int v3)], [.int (x8 + (9 : Int32)), .int ((σ.1 170 v3.toNatClampNeg) &&& (255 : Int32))], σ)) (ps := []) rfl trivial) ?_
    refine Go_icmp_eq bk_Md_check 34 rfl (fun c11 => ?_) (fun c11 => ?_)
    · have h := ifT c11 h
      refine Go.t (Go_sg bk_Md_check 37 2 (c2 := (some 35, [some (.ref 166), some (.int v1), some (.int v2), some (.int (v3 + (1 : Int32)))], [], σ)) (ps := []) rfl trivial) ?_
      have h := Option.some.inj h
      subst h
      exact Go.fg (LSub.cs (LSub.cs (LSub.cs (LSub.cs (LSub.nil)))))
    · have h := ifF c11 h
      have h := Option.some.inj h
      subst h
      refine Go.t (Go_sg bk_Md_check 35 1 (c2 := (some 63, [some (.ref 166), some (.int v1), some (.int v2), some (.int v3)], [.int v3], σ)) (ps := []) rfl trivial) ?_
      exact Go_reti bk_Md_check 36 rfl
def Md_check_L35 (v1 : Int32) (v2 : Int32) (σ : MH) (s : Int32) : Option ((Int32)) := itr (fun s : Int32 => Md_check_l35 v1 v2 s σ) FU s
set_option maxRecDepth 20000 in
set_option maxHeartbeats 2000000 in
theorem t_Md_check_L35 (v1 : Int32) (v2 : Int32)  (σ : MH) (s : Int32) {r} (h : Md_check_L35 v1 v2 σ s = some r) : Go m_Md_check 2 (cH_Md_check_35 v1 v2 σ s) (cR_Md_check_35 v1 v2 σ r) := Go_itr (fun s o ho => t_Md_check_l35 v1 v2 s σ ho) FU s r h
def Md_check0 (v1 : Int32) (v2 : Int32) (σ : MH) : Option (Int32 × MH) := (Md_isTwelve v1 σ).bind fun x1 => if x1 = (0 : Int32) then some ((-2 : Int32), σ) else ((Md_in v2 (0 : Int32) (8 : Int32) σ).bind fun x4 => if x4 = (0 : Int32) then some ((-2 : Int32), σ) else (if v2 ≤ σ.1 166 4 then ((Md_check_L35 v1 v2 (sI σ 166 4 (0 : Int32)) ((0 : Int32))).bind fun z13 => some (z13, sI σ 166 4 (0 : Int32))) else some ((-2 : Int32), σ)))
set_option maxRecDepth 20000 in
set_option maxHeartbeats 2000000 in
theorem t_Md_check0 (v1 : Int32) (v2 : Int32)  (σ : MH) {o} (h : Md_check0 v1 v2 σ = some o) : Go m_Md_check 2 (some 0, [some (.ref 166), some (.int v1), some (.int v2), none], [], σ) ((none, [], [.int o.1], o.2)) := by
  unfold Md_check0 at h
  refine Go.t (Go_sg bk_Md_check 0 1 (c2 := (some 1, [some (.ref 166), some (.int v1), some (.int v2), none], [.int v1], σ)) (ps := []) rfl trivial) ?_
  obtain ⟨x1, q3, h⟩ := bdS h
  refine Go.t (Go_callS bk_Md_check 1 rfl nk_Md_isTwelve tw1360 tw1361 (as := [.int v1]) (S := []) rfl rfl rfl (Nat.le_of_ble_eq_true rfl) (Nat.le_of_ble_eq_true rfl) (ev_Md_isTwelve _ _ q3)) ?_
  refine Go_if_eq bk_Md_check 2 rfl (fun c17 => ?_) (fun c17 => ?_)
  · have h := ifT c17 h
    have h := Option.some.inj h
    subst h
    refine Go.t (Go_sg bk_Md_check 12 1 (c2 := (some 27, [some (.ref 166), some (.int v1), some (.int v2), none], [.int (-2 : Int32)], σ)) (ps := []) rfl trivial) ?_
    exact Go_reti bk_Md_check 13 rfl
  · have h := ifF c17 h
    refine Go.t (Go_sg bk_Md_check 3 3 (c2 := (some 11, [some (.ref 166), some (.int v1), some (.int v2), none], [.int (8 : Int32), .int (0 : Int32), .int v2], σ)) (ps := []) rfl trivial) ?_
    obtain ⟨x4, q6, h⟩ := bdS h
    refine Go.t (Go_callS bk_Md_check 6 rfl nk_Md_in tw1370 tw1371 (as := [.int v2, .int (0 : Int32), .int (8 : Int32)]) (S := []) rfl rfl rfl (Nat.le_of_ble_eq_true rfl) (Nat.le_of_ble_eq_true rfl) (ev_Md_in _ _ _ _ q6)) ?_
    refine Go_if_eq bk_Md_check 7 rfl (fun c16 => ?_) (fun c16 => ?_)
    · have h := ifT c16 h
      have h := Option.some.inj h
      subst h
      refine Go.t (Go_sg bk_Md_check 12 1 (c2 := (some 27, [some (.ref 166), some (.int v1), some (.int v2), none], [.int (-2 : Int32)], σ)) (ps := []) rfl trivial) ?_
      exact Go_reti bk_Md_check 13 rfl
    · have h := ifF c16 h
      refine Go.t (Go_sg bk_Md_check 8 3 (c2 := (some 22, [some (.ref 166), some (.int v1), some (.int v2), none], [.int (σ.1 166 4), .int v2], σ)) (ps := [shk 166 = 11]) rfl ⟨rfl, trivial⟩) ?_
      refine Go_icmp_le bk_Md_check 11 rfl (fun c15 => ?_) (fun c15 => ?_)
      · have h := ifT c15 h
        refine Go.t (Go_sg bk_Md_check 14 5 (c2 := (some 35, [some (.ref 166), some (.int v1), some (.int v2), some (.int (0 : Int32))], [], sI σ 166 4 (0 : Int32))) (ps := [shk 166 = 11]) rfl ⟨rfl, trivial⟩) ?_
        obtain ⟨z13, q14, h⟩ := bdS h
        refine Go.t (Go.t (Go.fg (LSub.cs (LSub.cs (LSub.cs (LSub.cs (LSub.nil)))))) (t_Md_check_L35 v1 v2 (sI σ 166 4 (0 : Int32)) _ q14)) ?_
        have h := Option.some.inj h
        subst h
        exact Go.rf
      · have h := ifF c15 h
        have h := Option.some.inj h
        subst h
        refine Go.t (Go_sg bk_Md_check 12 1 (c2 := (some 27, [some (.ref 166), some (.int v1), some (.int v2), none], [.int (-2 : Int32)], σ)) (ps := []) rfl trivial) ?_
        exact Go_reti bk_Md_check 13 rfl
def Md_check (v1 : Int32) (v2 : Int32) (σ : MH) : Option (Int32 × MH) := Md_check0 v1 v2 σ
set_option maxRecDepth 20000 in
set_option maxHeartbeats 2000000 in
theorem ev_Md_check (v1 : Int32) (v2 : Int32)  (σ : MH) {o} (h : Md_check v1 v2 σ = some o) : Ev m_Md_check 2 [.ref 166, .int v1, .int v2] σ (some (.int o.1)) o.2 := Ev.of2 (by decide +kernel) rfl (Nat.le_of_ble_eq_true rfl) ⟨.int, rfl, rfl⟩ (t_Md_check0 v1 v2 σ h)
set_option maxRecDepth 20000 in
set_option maxHeartbeats 2000000 in
theorem dt_Md_count_1 : decode m_Md_count.2.1 1 = .ok (.tableswitch 90 0 6 #[43, 51, 59, 67, 72, 77, 82], 43) := by decide +kernel
def cH_Md_count_108 (v1 : Int32) (σ : MH) (s : Int32 × Int32) : MC := (some 108, [some (.ref 166), some (.int v1), some (.int s.1), some (.int s.2)], [], σ)
def cR_Md_count_108 (v1 : Int32) (σ : MH) : ((Int32)) → MC := (fun r : Int32 => ((none, [], [.int r], σ) : MC))
def Md_count_b144 (v1 : Int32) (v2 : Int32) (v3 : Int32) (σ : MH) : Option (((Int32 × Int32) ⊕ ((Int32)))) := some (.inl (v2, v3 + (1 : Int32)))
set_option maxRecDepth 20000 in
set_option maxHeartbeats 2000000 in
theorem t_Md_count_b144 (v1 : Int32) (v2 : Int32) (v3 : Int32)   (σ : MH) {o} (h : Md_count_b144 v1 v2 v3 σ = some o) : Go m_Md_count 4 (some 144, [some (.ref 166), some (.int v1), some (.int v2), some (.int v3)], [], σ) (cS (cH_Md_count_108 v1 σ) (cR_Md_count_108 v1 σ) o) := by
  unfold Md_count_b144 at h
  refine Go.t (Go_sg bk_Md_count 64 2 (c2 := (some 108, [some (.ref 166), some (.int v1), some (.int v2), some (.int (v3 + (1 : Int32)))], [], σ)) (ps := []) rfl trivial) ?_
  have h := Option.some.inj h
  subst h
  exact Go.fg (LSub.cs (LSub.cs (LSub.cs (LSub.cs (LSub.nil)))))
def Md_count_l108 (v1 : Int32) (v2 : Int32) (v3 : Int32) (σ : MH) : Option (((Int32 × Int32) ⊕ ((Int32)))) := if (12 : Int32) ≤ v3 then some (.inr (v2)) else ((Md_lives v3 σ).bind fun x14 => if x14 = (0 : Int32) then (Md_count_b144 v1 v2 v3 σ) else (if inb ((12 : Int32) + v3) 1936 = true then if σ.1 167 ((12 : Int32) + v3).toNatClampNeg = v1 - (10 : Int32) then (Md_count_b144 v1 (v2 ||| (jshl (1 : Int32) v3)) v3 σ) else (Md_count_b144 v1 v2 v3 σ) else none))
set_option maxRecDepth 20000 in
set_option maxHeartbeats 2000000 in
theorem t_Md_count_l108 (v1 : Int32) (v2 : Int32) (v3 : Int32)  (σ : MH) {o} (h : Md_count_l108 v1 v2 v3 σ = some o) : Go m_Md_count 4 (cH_Md_count_108 v1 σ (v2, v3)) (cS (cH_Md_count_108 v1 σ) (cR_Md_count_108 v1 σ) o) := by
  unfold Md_count_l108 at h
  unfold cH_Md_count_108
  refine Go.t (Go_sg bk_Md_count 41 2 (c2 := (some 111, [some (.ref 166), some (.int v1), some (.int v2), some (.int v3)], [.int (12 : Int32), .int v3], σ)) (ps := []) rfl trivial) ?_
  refine Go_icmp_ge bk_Md_count 43 rfl (fun c20 => ?_) (fun c20 => ?_)
  · have h := ifT c20 h
    have h := Option.some.inj h
    subst h
    refine Go.t (Go_sg bk_Md_count 66 1 (c2 := (some 151, [some (.ref 166), some (.int v1), some (.int v2), some (.int v3)], [.int v2], σ)) (ps := []) rfl trivial) ?_
    exact Go_reti bk_Md_count 67 rfl
  · have h := ifF c20 h
    refine Go.t (Go_sg bk_Md_count 44 2 (c2 := (some 116, [some (.ref 166), some (.int v1), some (.int v2), some (.int v3)], [.int v3, .ref 166], σ)) (ps := []) rfl trivial) ?_
    obtain ⟨x14, q16, h⟩ := bdS h
    refine Go.t (Go_callV bk_Md_count 46 rfl nk_Md_lives tw1381 tw1383 tw45 (ci := 11) rfl (as := [.int v3]) (S := []) rfl rfl rfl rfl (Nat.le_of_ble_eq_true rfl) (Nat.le_of_ble_eq_true rfl) (ev_Md_lives _ _ q16)) ?_
    refine Go_if_eq bk_Md_count 47 rfl (fun c19 => ?_) (fun c19 => ?_)
    · have h := ifT c19 h
      exact Go.t (Go.fg (LSub.cs (LSub.cs (LSub.cs (LSub.cs (LSub.nil)))))) (t_Md_count_b144 v1 v2 v3 σ h)
    · have h := ifF c19 h
      obtain ⟨g17, h⟩ := gdS h
      refine Go.t (Go_sg bk_Md_count 48 9 (c2 := (some 135, [some (.ref 166), some (.int v1), some (.int v2), some (.int v3)], [.int (v1 - (10 : Int32)), .int (σ.1 167 ((12 : Int32) + v3).toNatClampNeg)], σ)) (ps := [shk 166 = 11, IA 167 1936 ∧ inb ((12 : Int32) + v3) 1936 = true]) rfl ⟨rfl, ⟨⟨rfl, rfl⟩, g17⟩, trivial⟩) ?_
      refine Go_icmp_ne bk_Md_count 57 rfl (fun c18 => ?_) (fun c18 => ?_)
      · have h := ifF c18 h
        exact Go.t (Go.fg (LSub.cs (LSub.cs (LSub.cs (LSub.cs (LSub.nil)))))) (t_Md_count_b144 v1 v2 v3 σ h)
      · have h := ifT c18 h
        refine Go.t (Go_sg bk_Md_count 58 6 (c2 := (some 144, [some (.ref 166), some (.int v1), some (.int (v2 ||| (jshl (1 : Int32) v3))), some (.int v3)], [], σ)) (ps := []) rfl trivial) ?_
        exact Go.t (Go.fg (LSub.cs (LSub.cs (LSub.cs (LSub.cs (LSub.nil)))))) (t_Md_count_b144 v1 (v2 ||| (jshl (1 : Int32) v3)) v3 σ h)
def Md_count_L108 (v1 : Int32) (σ : MH) (s : Int32 × Int32) : Option ((Int32)) := itr (fun s : Int32 × Int32 => Md_count_l108 v1 s.1 s.2 σ) FU s
set_option maxRecDepth 20000 in
set_option maxHeartbeats 2000000 in
theorem t_Md_count_L108 (v1 : Int32)  (σ : MH) (s : Int32 × Int32) {r} (h : Md_count_L108 v1 σ s = some r) : Go m_Md_count 4 (cH_Md_count_108 v1 σ s) (cR_Md_count_108 v1 σ r) := Go_itr (fun s o ho => t_Md_count_l108 v1 s.1 s.2 σ ho) FU s r h
def Md_count0 (v1 : Int32) (σ : MH) : Option (Int32) := if v1 = (0 : Int32) then some (σ.1 167 110) else if v1 = (1 : Int32) then some (σ.1 167 108) else if v1 = (2 : Int32) then some (σ.1 167 109) else if v1 = (3 : Int32) then ((Md_wedTwos σ).bind fun x4 => some (x4)) else if v1 = (4 : Int32) then some (σ.1 166 13) else if v1 = (5 : Int32) then some (σ.1 166 4) else if v1 = (6 : Int32) then some (σ.1 167 111) else ((Md_in v1 (10 : Int32) (15 : Int32) σ).bind fun x11 => if x11 = (0 : Int32) then some ((-1 : Int32)) else ((Md_count_L108 v1 σ ((0 : Int32), (0 : Int32))).bind fun z21 => some (z21)))
set_option maxRecDepth 20000 in
set_option maxHeartbeats 2000000 in
theorem t_Md_count0 (v1 : Int32)  (σ : MH) {o} (h : Md_count0 v1 σ = some o) : Go m_Md_count 4 (some 0, [some (.ref 166), some (.int v1), none, none], [], σ) ((none, [], [.int o], σ)) := by
  unfold Md_count0 at h
  refine Go.t (Go_sg bk_Md_count 0 1 (c2 := (some 1, [some (.ref 166), some (.int v1), none, none], [.int v1], σ)) (ps := []) rfl trivial) ?_
  by_cases c1 : v1 = (0 : Int32)
  · have h := ifT c1 h
    refine Go.t (Go_tsi dt_Md_count_1 (tsw_in c1 0 6 rfl).1 (tsw_in c1 0 6 rfl).2 (by rw [c1]; rfl) (tgt := 44) (by decide)) ?_
    have h := Option.some.inj h
    subst h
    refine Go.t (Go_sg bk_Md_count 1 4 (c2 := (some 51, [some (.ref 166), some (.int v1), none, none], [.int (σ.1 167 110)], σ)) (ps := [shk 166 = 11, IA 167 1936 ∧ inb (110 : Int32) 1936 = true]) rfl ⟨rfl, ⟨⟨rfl, rfl⟩, (inbN 110 1936 rfl)⟩, trivial⟩) ?_
    exact Go_reti bk_Md_count 5 rfl
  have h := ifF c1 h
  by_cases c2 : v1 = (1 : Int32)
  · have h := ifT c2 h
    refine Go.t (Go_tsi dt_Md_count_1 (tsw_in c2 0 6 rfl).1 (tsw_in c2 0 6 rfl).2 (by rw [c2]; rfl) (tgt := 52) (by decide)) ?_
    have h := Option.some.inj h
    subst h
    refine Go.t (Go_sg bk_Md_count 6 4 (c2 := (some 59, [some (.ref 166), some (.int v1), none, none], [.int (σ.1 167 108)], σ)) (ps := [shk 166 = 11, IA 167 1936 ∧ inb (108 : Int32) 1936 = true]) rfl ⟨rfl, ⟨⟨rfl, rfl⟩, (inbN 108 1936 rfl)⟩, trivial⟩) ?_
    exact Go_reti bk_Md_count 10 rfl
  have h := ifF c2 h
  by_cases c3 : v1 = (2 : Int32)
  · have h := ifT c3 h
    refine Go.t (Go_tsi dt_Md_count_1 (tsw_in c3 0 6 rfl).1 (tsw_in c3 0 6 rfl).2 (by rw [c3]; rfl) (tgt := 60) (by decide)) ?_
    have h := Option.some.inj h
    subst h
    refine Go.t (Go_sg bk_Md_count 11 4 (c2 := (some 67, [some (.ref 166), some (.int v1), none, none], [.int (σ.1 167 109)], σ)) (ps := [shk 166 = 11, IA 167 1936 ∧ inb (109 : Int32) 1936 = true]) rfl ⟨rfl, ⟨⟨rfl, rfl⟩, (inbN 109 1936 rfl)⟩, trivial⟩) ?_
    exact Go_reti bk_Md_count 15 rfl
  have h := ifF c3 h
  by_cases c7 : v1 = (3 : Int32)
  · have h := ifT c7 h
    refine Go.t (Go_tsi dt_Md_count_1 (tsw_in c7 0 6 rfl).1 (tsw_in c7 0 6 rfl).2 (by rw [c7]; rfl) (tgt := 68) (by decide)) ?_
    refine Go.t (Go_sg bk_Md_count 16 1 (c2 := (some 69, [some (.ref 166), some (.int v1), none, none], [.ref 166], σ)) (ps := []) rfl trivial) ?_
    obtain ⟨x4, q6, h⟩ := bdS h
    refine Go.t (Go_callV bk_Md_count 17 rfl nk_Md_wedTwos tw1603 tw1605 tw86 (ci := 11) rfl (as := []) (S := []) rfl rfl rfl rfl (Nat.le_of_ble_eq_true rfl) (Nat.le_of_ble_eq_true rfl) (ev_Md_wedTwos _ q6)) ?_
    have h := Option.some.inj h
    subst h
    exact Go_reti bk_Md_count 18 rfl
  have h := ifF c7 h
  by_cases c8 : v1 = (4 : Int32)
  · have h := ifT c8 h
    refine Go.t (Go_tsi dt_Md_count_1 (tsw_in c8 0 6 rfl).1 (tsw_in c8 0 6 rfl).2 (by rw [c8]; rfl) (tgt := 73) (by decide)) ?_
    have h := Option.some.inj h
    subst h
    refine Go.t (Go_sg bk_Md_count 19 2 (c2 := (some 77, [some (.ref 166), some (.int v1), none, none], [.int (σ.1 166 13)], σ)) (ps := [shk 166 = 11]) rfl ⟨rfl, trivial⟩) ?_
    exact Go_reti bk_Md_count 21 rfl
  have h := ifF c8 h
  by_cases c9 : v1 = (5 : Int32)
  · have h := ifT c9 h
    refine Go.t (Go_tsi dt_Md_count_1 (tsw_in c9 0 6 rfl).1 (tsw_in c9 0 6 rfl).2 (by rw [c9]; rfl) (tgt := 78) (by decide)) ?_
    have h := Option.some.inj h
    subst h
    refine Go.t (Go_sg bk_Md_count 22 2 (c2 := (some 82, [some (.ref 166), some (.int v1), none, none], [.int (σ.1 166 4)], σ)) (ps := [shk 166 = 11]) rfl ⟨rfl, trivial⟩) ?_
    exact Go_reti bk_Md_count 24 rfl
  have h := ifF c9 h
  by_cases c10 : v1 = (6 : Int32)
  · have h := ifT c10 h
    refine Go.t (Go_tsi dt_Md_count_1 (tsw_in c10 0 6 rfl).1 (tsw_in c10 0 6 rfl).2 (by rw [c10]; rfl) (tgt := 83) (by decide)) ?_
    have h := Option.some.inj h
    subst h
    refine Go.t (Go_sg bk_Md_count 25 4 (c2 := (some 90, [some (.ref 166), some (.int v1), none, none], [.int (σ.1 167 111)], σ)) (ps := [shk 166 = 11, IA 167 1936 ∧ inb (111 : Int32) 1936 = true]) rfl ⟨rfl, ⟨⟨rfl, rfl⟩, (inbN 111 1936 rfl)⟩, trivial⟩) ?_
    exact Go_reti bk_Md_count 29 rfl
  have h := ifF c10 h
  have hdf : Go m_Md_count 4 (some 1, [some (.ref 166), some (.int v1), none, none], [.int v1], σ) (some 91, [some (.ref 166), some (.int v1), none, none], [], σ) := by
    by_cases hlo : v1.toInt < 0
    · exact Go_tso dt_Md_count_1 (Or.inl hlo) (by decide)
    · by_cases hhi : 6 < v1.toInt
      · exact Go_tso dt_Md_count_1 (Or.inr hhi) (by decide)
      · exact absurd (tsw_all v1 0 6 [0, 1, 2, 3, 4, 5, 6] (by decide) hlo hhi) (fun q => by simp only [List.mem_cons, List.not_mem_nil, or_false] at q; rcases q with q | q | q | q | q | q | q <;> contradiction)
  refine Go.t hdf ?_
  refine Go.t (Go_sg bk_Md_count 30 3 (c2 := (some 96, [some (.ref 166), some (.int v1), none, none], [.int (15 : Int32), .int (10 : Int32), .int v1], σ)) (ps := []) rfl trivial) ?_
  obtain ⟨x11, q13, h⟩ := bdS h
  refine Go.t (Go_callS bk_Md_count 33 rfl nk_Md_in tw1370 tw1371 (as := [.int v1, .int (10 : Int32), .int (15 : Int32)]) (S := []) rfl rfl rfl (Nat.le_of_ble_eq_true rfl) (Nat.le_of_ble_eq_true rfl) (ev_Md_in _ _ _ _ q13)) ?_
  refine Go_if_ne bk_Md_count 34 rfl (fun c23 => ?_) (fun c23 => ?_)
  · have h := ifF c23 h
    refine Go.t (Go_sg bk_Md_count 37 4 (c2 := (some 108, [some (.ref 166), some (.int v1), some (.int (0 : Int32)), some (.int (0 : Int32))], [], σ)) (ps := []) rfl trivial) ?_
    obtain ⟨z21, q22, h⟩ := bdS h
    refine Go.t (Go.t (Go.fg (LSub.cs (LSub.cs (LSub.cs (LSub.cs (LSub.nil)))))) (t_Md_count_L108 v1 σ _ q22)) ?_
    have h := Option.some.inj h
    subst h
    exact Go.rf
  · have h := ifT c23 h
    have h := Option.some.inj h
    subst h
    refine Go.t (Go_sg bk_Md_count 35 1 (c2 := (some 103, [some (.ref 166), some (.int v1), none, none], [.int (-1 : Int32)], σ)) (ps := []) rfl trivial) ?_
    exact Go_reti bk_Md_count 36 rfl
def Md_count (v1 : Int32) (σ : MH) : Option (Int32) := Md_count0 v1 σ
set_option maxRecDepth 20000 in
set_option maxHeartbeats 2000000 in
theorem ev_Md_count (v1 : Int32)  (σ : MH) {o} (h : Md_count v1 σ = some o) : Ev m_Md_count 4 [.ref 166, .int v1] σ (some (.int o)) σ := Ev.of2 (by decide +kernel) rfl (Nat.le_of_ble_eq_true rfl) ⟨.int, rfl, rfl⟩ (t_Md_count0 v1 σ h)
def cH_LawReader_readNumber_4  (s : Int32 × Int32 × MH) : MC := (some 4, [some (.ref 123), some (.int s.1), some (.int s.2.1), none], [], s.2.2)
def cR_LawReader_readNumber_4  : ((Int32 × MH) ⊕ (Int32 × MH) ⊕ (MH)) → MC := (cS (fun r : Int32 × MH => ((some 66, [some (.ref 123), some (.int r.1), none, none], [], r.2) : MC)) (cS (fun r : Int32 × MH => ((some 26, [some (.ref 123), some (.int r.1), none, none], [], r.2) : MC)) (fun r : MH => ((some 34, [some (.ref 123), none, none, none], [], r) : MC))))
def LawReader_readNumber_l4 (v1 : Int32) (v2 : Int32) (σ : MH) : Option (((Int32 × Int32 × MH) ⊕ ((Int32 × MH) ⊕ (Int32 × MH) ⊕ (MH)))) := if (5 : Int32) < v2 then some (.inr (.inl (v1, σ))) else ((Reader_sign σ).bind fun x1 => if x1 < (48 : Int32) then some (.inr (.inl (v1, σ))) else (if x1 ≤ (57 : Int32) then (if v2 = (5 : Int32) then some (.inr (.inr (.inr (σ)))) else some (.inl (((v1 * (10 : Int32)) + x1) - (48 : Int32), v2 + (1 : Int32), sI σ 123 2 ((σ.1 123 2) + (1 : Int32))))) else some (.inr (.inr (.inl (v1, σ))))))
set_option maxRecDepth 20000 in
set_option maxHeartbeats 2000000 in
theorem t_LawReader_readNumber_l4 (v1 : Int32) (v2 : Int32)  (σ : MH) {o} (h : LawReader_readNumber_l4 v1 v2 σ = some o) : Go m_LawReader_readNumber 3 (cH_LawReader_readNumber_4  (v1, v2, σ)) (cS (cH_LawReader_readNumber_4 ) (cR_LawReader_readNumber_4 ) o) := by
  unfold LawReader_readNumber_l4 at h
  unfold cH_LawReader_readNumber_4
  refine Go.t (Go_sg bk_LawReader_readNumber 4 2 (c2 := (some 6, [some (.ref 123), some (.int v1), some (.int v2), none], [.int (5 : Int32), .int v2], σ)) (ps := []) rfl trivial) ?_
  refine Go_icmp_gt bk_LawReader_readNumber 6 rfl (fun c7 => ?_) (fun c7 => ?_)
  · have h := ifT c7 h
    have h := Option.some.inj h
    subst h
    exact Go.fg (LSub.cs (LSub.cs (LSub.cn (LSub.cn (LSub.nil)))))
  · have h := ifF c7 h
    refine Go.t (Go_sg bk_LawReader_readNumber 7 1 (c2 := (some 10, [some (.ref 123), some (.int v1), some (.int v2), none], [.ref 123], σ)) (ps := []) rfl trivial) ?_
    obtain ⟨x1, q3, h⟩ := bdS h
    refine Go.t (Go_callU bk_LawReader_readNumber 8 rfl nk_Reader_sign (xc := "PuzzleWed$LawReader") tw626 tw627 tw630 (C := RX5) tw629 (ci := 5) rfl (as := []) (S := []) rfl rfl rfl rfl (Nat.le_of_ble_eq_true rfl) (Nat.le_of_ble_eq_true rfl) (ev_Reader_sign _ q3)) ?_
    refine Go.t (Go_sg bk_LawReader_readNumber 9 3 (c2 := (some 17, [some (.ref 123), some (.int v1), some (.int v2), some (.int x1)], [.int (48 : Int32), .int x1], σ)) (ps := []) rfl trivial) ?_
    refine Go_icmp_lt bk_LawReader_readNumber 12 rfl (fun c6 => ?_) (fun c6 => ?_)
    · have h := ifT c6 h
      have h := Option.some.inj h
      subst h
      exact Go.fg (LSub.cs (LSub.cs (LSub.cn (LSub.cn (LSub.nil)))))
    · have h := ifF c6 h
      refine Go.t (Go_sg bk_LawReader_readNumber 13 2 (c2 := (some 23, [some (.ref 123), some (.int v1), some (.int v2), some (.int x1)], [.int (57 : Int32), .int x1], σ)) (ps := []) rfl trivial) ?_
      refine Go_icmp_le bk_LawReader_readNumber 15 rfl (fun c5 => ?_) (fun c5 => ?_)
      · have h := ifT c5 h
        refine Go.t (Go_sg bk_LawReader_readNumber 17 2 (c2 := (some 31, [some (.ref 123), some (.int v1), some (.int v2), some (.int x1)], [.int (5 : Int32), .int v2], σ)) (ps := []) rfl trivial) ?_
        refine Go_icmp_ne bk_LawReader_readNumber 19 rfl (fun c4 => ?_) (fun c4 => ?_)
        · have h := ifF c4 h
          refine Go.t (Go_sg bk_LawReader_readNumber 24 16 (c2 := (some 4, [some (.ref 123), some (.int (((v1 * (10 : Int32)) + x1) - (48 : Int32))), some (.int (v2 + (1 : Int32))), some (.int x1)], [], sI σ 123 2 ((σ.1 123 2) + (1 : Int32)))) (ps := [shk 123 = 5, shk 123 = 5]) rfl ⟨rfl, rfl, trivial⟩) ?_
          have h := Option.some.inj h
          subst h
          exact Go.fg (LSub.cs (LSub.cs (LSub.cs (LSub.cn (LSub.nil)))))
        · have h := ifT c4 h
          have h := Option.some.inj h
          subst h
          exact Go.fg (LSub.cs (LSub.cn (LSub.cn (LSub.cn (LSub.nil)))))
      · have h := ifF c5 h
        have h := Option.some.inj h
        subst h
        exact Go.fg (LSub.cs (LSub.cs (LSub.cn (LSub.cn (LSub.nil)))))
def LawReader_readNumber_L4  (s : Int32 × Int32 × MH) : Option ((Int32 × MH) ⊕ (Int32 × MH) ⊕ (MH)) := itr (fun s : Int32 × Int32 × MH => LawReader_readNumber_l4 s.1 s.2.1 s.2.2) FU s
set_option maxRecDepth 20000 in
set_option maxHeartbeats 2000000 in
theorem t_LawReader_readNumber_L4   (s : Int32 × Int32 × MH) {r} (h : LawReader_readNumber_L4  s = some r) : Go m_LawReader_readNumber 3 (cH_LawReader_readNumber_4  s) (cR_LawReader_readNumber_4  r) := Go_itr (fun s o ho => t_LawReader_readNumber_l4 s.1 s.2.1 s.2.2 ho) FU s r h
def LawReader_readNumber_b66 (v1 : Int32) (σ : MH) : Option (Int32 × MH) := (Law_emit (1 : Int32) σ).bind fun σ11 => (Law_emit v1 σ11).bind fun σ14 => some ((1 : Int32), σ14)
set_option maxRecDepth 20000 in
set_option maxHeartbeats 2000000 in
theorem t_LawReader_readNumber_b66 (v1 : Int32)   (σ : MH) {o} (h : LawReader_readNumber_b66 v1 σ = some o) : Go m_LawReader_readNumber 3 (some 66, [some (.ref 123), some (.int v1), none, none], [], σ) ((none, [], [.int o.1], o.2)) := by
  unfold LawReader_readNumber_b66 at h
  refine Go.t (Go_sg bk_LawReader_readNumber 40 3 (c2 := (some 71, [some (.ref 123), some (.int v1), none, none], [.int (1 : Int32), .ref 117], σ)) (ps := [shk 123 = 5]) rfl ⟨rfl, trivial⟩) ?_
  obtain ⟨σ11, q12, h⟩ := bdS h
  refine Go.t (Go_callV bk_LawReader_readNumber 43 rfl nk_Law_emit tw750 tw751 tw752 (ci := 4) rfl (as := [.int (1 : Int32)]) (S := []) rfl rfl rfl rfl (Nat.le_of_ble_eq_true rfl) (Nat.le_of_ble_eq_true rfl) (ev_Law_emit _ _ q12)) ?_
  refine Go.t (Go_sg bk_LawReader_readNumber 44 3 (c2 := (some 79, [some (.ref 123), some (.int v1), none, none], [.int v1, .ref 117], σ11)) (ps := [shk 123 = 5]) rfl ⟨rfl, trivial⟩) ?_
  obtain ⟨σ14, q15, h⟩ := bdS h
  refine Go.t (Go_callV bk_LawReader_readNumber 47 rfl nk_Law_emit tw750 tw751 tw752 (ci := 4) rfl (as := [.int v1]) (S := []) rfl rfl rfl rfl (Nat.le_of_ble_eq_true rfl) (Nat.le_of_ble_eq_true rfl) (ev_Law_emit _ _ q15)) ?_
  have h := Option.some.inj h
  subst h
  refine Go.t (Go_sg bk_LawReader_readNumber 48 1 (c2 := (some 83, [some (.ref 123), some (.int v1), none, none], [.int (1 : Int32)], σ14)) (ps := []) rfl trivial) ?_
  exact Go_reti bk_LawReader_readNumber 49 rfl
def LawReader_readNumber0  (σ : MH) : Option (Int32 × MH) := (LawReader_readNumber_L4 ((0 : Int32), (0 : Int32), σ)).bind fun z8 => (match z8 with | .inl z8a => LawReader_readNumber_b66 z8a.1 z8a.2 | .inr z8r => (match z8r with | .inl z8b => LawReader_readNumber_b66 z8b.1 z8b.2 | .inr z8c => (Reader_fail (2 : Int32) z8c).bind fun (x16, σ17) => some (x16, σ17)))
set_option maxRecDepth 20000 in
set_option maxHeartbeats 2000000 in
theorem t_LawReader_readNumber0   (σ : MH) {o} (h : LawReader_readNumber0 σ = some o) : Go m_LawReader_readNumber 3 (some 0, [some (.ref 123), none, none, none], [], σ) ((none, [], [.int o.1], o.2)) := by
  unfold LawReader_readNumber0 at h
  refine Go.t (Go_sg bk_LawReader_readNumber 0 4 (c2 := (some 4, [some (.ref 123), some (.int (0 : Int32)), some (.int (0 : Int32)), none], [], σ)) (ps := []) rfl trivial) ?_
  obtain ⟨z8, q9, h⟩ := bdS h
  refine Go.t (Go.t (Go.fg (LSub.cs (LSub.cs (LSub.cs (LSub.cn (LSub.nil)))))) (t_LawReader_readNumber_L4 _ q9)) ?_
  rcases z8 with z8a | z8r
  · dsimp only at h
    exact Go.t (Go.fg (LSub.cs (LSub.cs (LSub.cn (LSub.cn (LSub.nil)))))) (t_LawReader_readNumber_b66 z8a.1 z8a.2 h)
  · dsimp only at h
    rcases z8r with z8b | z8c
    · dsimp only at h
      refine Go.t (Go_sg bk_LawReader_readNumber 16 1 (c2 := (some 66, [some (.ref 123), some (.int z8b.1), none, none], [], z8b.2)) (ps := []) rfl trivial) ?_
      exact Go.t (Go.fg (LSub.cs (LSub.cs (LSub.cn (LSub.cn (LSub.nil)))))) (t_LawReader_readNumber_b66 z8b.1 z8b.2 h)
    · dsimp only at h
      refine Go.t (Go_sg bk_LawReader_readNumber 20 2 (c2 := (some 36, [some (.ref 123), none, none, none], [.int (2 : Int32), .ref 123], z8c)) (ps := []) rfl trivial) ?_
      obtain ⟨⟨x16, σ17⟩, q18, h⟩ := bdS h
      dsimp only at h
      refine Go.t (Go_callU bk_LawReader_readNumber 22 rfl nk_Reader_fail (xc := "PuzzleWed$LawReader") tw718 tw719 tw722 (C := RX5) tw721 (ci := 5) rfl (as := [.int (2 : Int32)]) (S := []) rfl rfl rfl rfl (Nat.le_of_ble_eq_true rfl) (Nat.le_of_ble_eq_true rfl) (ev_Reader_fail _ _ q18)) ?_
      have h := Option.some.inj h
      subst h
      exact Go_reti bk_LawReader_readNumber 23 rfl
def LawReader_readNumber  (σ : MH) : Option (Int32 × MH) := bzo (LawReader_readNumber0 σ)
set_option maxRecDepth 20000 in
set_option maxHeartbeats 2000000 in
theorem ev_LawReader_readNumber   (σ : MH) {o} (h : LawReader_readNumber σ = some o) : Ev m_LawReader_readNumber 3 [.ref 123] σ (some (.int o.1)) o.2 := Ev.of2 (by decide +kernel) rfl (Nat.le_of_ble_eq_true rfl) ⟨.boolean, rfl, nrB (bzo2 h)⟩ (t_LawReader_readNumber0 σ (bzo1 h))
def String_isLatin1_t10  (σ : MH) : Option (Int32) := if (1 : Int32) = (0 : Int32) then some ((0 : Int32)) else (if (0 : Int32) = (0 : Int32) then some ((1 : Int32)) else some ((0 : Int32)))
set_option maxRecDepth 20000 in
set_option maxHeartbeats 2000000 in
theorem t_String_isLatin1_t10   (σ : MH) {o} (h : String_isLatin1_t10 σ = some o) : Go m_String_isLatin1_t1 1 (some 0, [some (.retAddr 1)], [], σ) ((none, [], [.int o], σ)) := by
  unfold String_isLatin1_t10 at h
  refine Go.t (Go_gets (by decide +kernel) (idx := 38) tw644) ?_
  refine Go_if_eq bk_String_isLatin1_t1 0 rfl (fun c2 => ?_) (fun c2 => ?_)
  · have h := ifT c2 h
    have h := Option.some.inj h
    subst h
    refine Go.t (Go_sg bk_String_isLatin1_t1 5 1 (c2 := (some 18, [some (.retAddr 1)], [.int (0 : Int32)], σ)) (ps := []) rfl trivial) ?_
    exact Go_reti bk_String_isLatin1_t1 6 rfl
  · have h := ifF c2 h
    refine Go.t (Go_sg bk_String_isLatin1_t1 1 1 (c2 := (some 7, [some (.retAddr 1)], [.retAddr 1], σ)) (ps := []) rfl trivial) ?_
    refine Go.t (Go_gfc (i := 1) (by decide +kernel) (idx := 15) (by decide) tw1780) ?_
    refine Go_if_ne bk_String_isLatin1_t1 2 rfl (fun c1 => ?_) (fun c1 => ?_)
    · have h := ifF c1 h
      have h := Option.some.inj h
      subst h
      refine Go.t (Go_sg bk_String_isLatin1_t1 5 1 (c2 := (some 18, [some (.retAddr 1)], [.int (0 : Int32)], σ)) (ps := []) rfl trivial) ?_
      exact Go_reti bk_String_isLatin1_t1 6 rfl
    · have h := ifT c1 h
      refine Go.t (Go_sg bk_String_isLatin1_t1 3 2 (c2 := (some 18, [some (.retAddr 1)], [.int (1 : Int32)], σ)) (ps := []) rfl trivial) ?_
      have h := Option.some.inj h
      subst h
      exact Go_reti bk_String_isLatin1_t1 6 rfl
def String_isLatin1_t1  (σ : MH) : Option (Int32) := bzp (String_isLatin1_t10 σ)
set_option maxRecDepth 20000 in
set_option maxHeartbeats 2000000 in
theorem ev_String_isLatin1_t1   (σ : MH) {o} (h : String_isLatin1_t1 σ = some o) : Ev m_String_isLatin1_t1 1 [.retAddr 1] σ (some (.int o)) σ := Ev.of2 (by decide +kernel) rfl (Nat.le_of_ble_eq_true rfl) ⟨.boolean, rfl, nrB (bzp2 h)⟩ (t_String_isLatin1_t10 σ (bzp1 h))
def String_coder_t10  (σ : MH) : Option (Int32) := if (1 : Int32) = (0 : Int32) then some ((1 : Int32)) else some ((0 : Int32))
set_option maxRecDepth 20000 in
set_option maxHeartbeats 2000000 in
theorem t_String_coder_t10   (σ : MH) {o} (h : String_coder_t10 σ = some o) : Go m_String_coder_t1 1 (some 0, [some (.retAddr 1)], [], σ) ((none, [], [.int o], σ)) := by
  unfold String_coder_t10 at h
  refine Go.t (Go_gets (by decide +kernel) (idx := 38) tw644) ?_
  refine Go_if_eq bk_String_coder_t1 0 rfl (fun c1 => ?_) (fun c1 => ?_)
  · have h := ifT c1 h
    have h := Option.some.inj h
    subst h
    refine Go.t (Go_sg bk_String_coder_t1 3 1 (c2 := (some 14, [some (.retAddr 1)], [.int (1 : Int32)], σ)) (ps := []) rfl trivial) ?_
    exact Go_reti bk_String_coder_t1 4 rfl
  · have h := ifF c1 h
    refine Go.t (Go_sg bk_String_coder_t1 1 1 (c2 := (some 7, [some (.retAddr 1)], [.retAddr 1], σ)) (ps := []) rfl trivial) ?_
    refine Go.t (Go_gfc (i := 1) (by decide +kernel) (idx := 15) (by decide) tw1780) ?_
    refine Go.t (Go_sg bk_String_coder_t1 2 1 (c2 := (some 14, [some (.retAddr 1)], [.int (0 : Int32)], σ)) (ps := []) rfl trivial) ?_
    have h := Option.some.inj h
    subst h
    exact Go_reti bk_String_coder_t1 4 rfl
def String_coder_t1  (σ : MH) : Option (Int32) := bzp (String_coder_t10 σ)
set_option maxRecDepth 20000 in
set_option maxHeartbeats 2000000 in
theorem ev_String_coder_t1   (σ : MH) {o} (h : String_coder_t1 σ = some o) : Ev m_String_coder_t1 1 [.retAddr 1] σ (some (.int o)) σ := Ev.of2 (by decide +kernel) rfl (Nat.le_of_ble_eq_true rfl) ⟨.byte, rfl, nrY (bzp2 h)⟩ (t_String_coder_t10 σ (bzp1 h))
def String_length_t10  (σ : MH) : Option (Int32) := (String_coder_t1 σ).bind fun x1 => some (jshr (11 : Int32) x1)
set_option maxRecDepth 20000 in
set_option maxHeartbeats 2000000 in
theorem t_String_length_t10   (σ : MH) {o} (h : String_length_t10 σ = some o) : Go m_String_length_t1 2 (some 0, [some (.retAddr 1)], [], σ) ((none, [], [.int o], σ)) := by
  unfold String_length_t10 at h
  refine Go.t (Go_sg bk_String_length_t1 0 1 (c2 := (some 1, [some (.retAddr 1)], [.retAddr 1], σ)) (ps := []) rfl trivial) ?_
  refine Go.t (Go_gfv (i := 1) 1 rfl (by decide +kernel) (idx := 9) (by decide) tw1781) ?_
  refine Go.t (Go_als (i := 1) rfl (by decide +kernel) (by decide) (x := 11) rfl) ?_
  refine Go.t (Go_sg bk_String_length_t1 2 1 (c2 := (some 6, [some (.retAddr 1)], [.retAddr 1, .int (11 : Int32)], σ)) (ps := []) rfl trivial) ?_
  obtain ⟨x1, q3, h⟩ := bdS h
  refine Go.t (Go_callR bk_String_length_t1 3 rfl nk_String_coder_t1 tw650 tw651 rfl tw652 (a := 1) (as := []) (S := [.int (11 : Int32)]) (by decide) rfl rfl rfl (Nat.le_of_ble_eq_true rfl) (Nat.le_of_ble_eq_true rfl) (ev_String_coder_t1 _ q3)) ?_
  have h := Option.some.inj h
  subst h
  refine Go.t (Go_sg bk_String_length_t1 4 1 (c2 := (some 10, [some (.retAddr 1)], [.int (jshr (11 : Int32) x1)], σ)) (ps := []) rfl trivial) ?_
  exact Go_reti bk_String_length_t1 5 rfl
def String_length_t1  (σ : MH) : Option (Int32) := String_length_t10 σ
set_option maxRecDepth 20000 in
set_option maxHeartbeats 2000000 in
theorem ev_String_length_t1   (σ : MH) {o} (h : String_length_t1 σ = some o) : Ev m_String_length_t1 2 [.retAddr 1] σ (some (.int o)) σ := Ev.of2 (by decide +kernel) rfl (Nat.le_of_ble_eq_true rfl) ⟨.int, rfl, rfl⟩ (t_String_length_t10 σ h)
def cH_StringLatin1_indexOfChar_t1_7 (v3 : Int32) (v4 : Int32) (σ : MH) (s : Int32) : MC := (some 7, [some (.float 1), none, none, some (.int v3), some (.int v4), some (.int s)], [], σ)
def cR_StringLatin1_indexOfChar_t1_7 (v3 : Int32) (v4 : Int32) (σ : MH) : ((Int32)) → MC := (fun r : Int32 => ((none, [], [.int r], σ) : MC))
def StringLatin1_indexOfChar_t1_l7 (v3 : Int32) (v4 : Int32) (v5 : Int32) (σ : MH) : Option (((Int32) ⊕ ((Int32)))) := if v3 ≤ v5 then some (.inr ((-1 : Int32))) else (if inb v5 11 = true then if sB 1 v5.toNatClampNeg = v4 then some (.inr (v5)) else some (.inl (v5 + (1 : Int32))) else none)
set_option maxRecDepth 20000 in
set_option maxHeartbeats 2000000 in
theorem t_StringLatin1_indexOfChar_t1_l7 (v3 : Int32) (v4 : Int32) (v5 : Int32)  (σ : MH) {o} (h : StringLatin1_indexOfChar_t1_l7 v3 v4 v5 σ = some o) : Go m_StringLatin1_indexOfChar_t1 1 (cH_StringLatin1_indexOfChar_t1_7 v3 v4 σ (v5)) (cS (cH_StringLatin1_indexOfChar_t1_7 v3 v4 σ) (cR_StringLatin1_indexOfChar_t1_7 v3 v4 σ) o) := by
  unfold StringLatin1_indexOfChar_t1_l7 at h
  unfold cH_StringLatin1_indexOfChar_t1_7
  refine Go.t (Go_sg bk_StringLatin1_indexOfChar_t1 5 2 (c2 := (some 10, [some (.float 1), none, none, some (.int v3), some (.int v4), some (.int v5)], [.int v3, .int v5], σ)) (ps := []) rfl trivial) ?_
  refine Go_icmp_ge bk_StringLatin1_indexOfChar_t1 7 rfl (fun c3 => ?_) (fun c3 => ?_)
  · have h := ifT c3 h
    have h := Option.some.inj h
    subst h
    refine Go.t (Go_sg bk_StringLatin1_indexOfChar_t1 17 1 (c2 := (some 32, [some (.float 1), none, none, some (.int v3), some (.int v4), some (.int v5)], [.int (-1 : Int32)], σ)) (ps := []) rfl trivial) ?_
    exact Go_reti bk_StringLatin1_indexOfChar_t1 18 rfl
  · have h := ifF c3 h
    obtain ⟨g1, h⟩ := gdS h
    refine Go.t (Go_sg bk_StringLatin1_indexOfChar_t1 8 2 (c2 := (some 16, [some (.float 1), none, none, some (.int v3), some (.int v4), some (.int v5)], [.int v5, .float 1], σ)) (ps := []) rfl trivial) ?_
    refine Go.t (Go_bls (i := 1) (n := 11) rfl (by decide +kernel) (by decide) rfl g1) ?_
    refine Go.t (Go_sg bk_StringLatin1_indexOfChar_t1 11 1 (c2 := (some 19, [some (.float 1), none, none, some (.int v3), some (.int v4), some (.int v5)], [.int v4, .int (sB 1 v5.toNatClampNeg)], σ)) (ps := []) rfl trivial) ?_
    refine Go_icmp_ne bk_StringLatin1_indexOfChar_t1 12 rfl (fun c2 => ?_) (fun c2 => ?_)
    · have h := ifF c2 h
      refine Go.t (Go_sg bk_StringLatin1_indexOfChar_t1 15 2 (c2 := (some 7, [some (.float 1), none, none, some (.int v3), some (.int v4), some (.int (v5 + (1 : Int32)))], [], σ)) (ps := []) rfl trivial) ?_
      have h := Option.some.inj h
      subst h
      exact Go.fg (LSub.cs (LSub.cn (LSub.cn (LSub.cs (LSub.cs (LSub.cs (LSub.nil)))))))
    · have h := ifT c2 h
      have h := Option.some.inj h
      subst h
      refine Go.t (Go_sg bk_StringLatin1_indexOfChar_t1 13 1 (c2 := (some 24, [some (.float 1), none, none, some (.int v3), some (.int v4), some (.int v5)], [.int v5], σ)) (ps := []) rfl trivial) ?_
      exact Go_reti bk_StringLatin1_indexOfChar_t1 14 rfl
def StringLatin1_indexOfChar_t1_L7 (v3 : Int32) (v4 : Int32) (σ : MH) (s : Int32) : Option ((Int32)) := itr (fun s : Int32 => StringLatin1_indexOfChar_t1_l7 v3 v4 s σ) FU s
set_option maxRecDepth 20000 in
set_option maxHeartbeats 2000000 in
theorem t_StringLatin1_indexOfChar_t1_L7 (v3 : Int32) (v4 : Int32)  (σ : MH) (s : Int32) {r} (h : StringLatin1_indexOfChar_t1_L7 v3 v4 σ s = some r) : Go m_StringLatin1_indexOfChar_t1 1 (cH_StringLatin1_indexOfChar_t1_7 v3 v4 σ s) (cR_StringLatin1_indexOfChar_t1_7 v3 v4 σ r) := Go_itr (fun s o ho => t_StringLatin1_indexOfChar_t1_l7 v3 v4 s σ ho) FU s r h
def StringLatin1_indexOfChar_t10 (v1 : Int32) (v2 : Int32) (v3 : Int32) (σ : MH) : Option (Int32) := (StringLatin1_indexOfChar_t1_L7 v3 (jb v1) σ (v2)).bind fun z4 => some (z4)
set_option maxRecDepth 20000 in
set_option maxHeartbeats 2000000 in
theorem t_StringLatin1_indexOfChar_t10 (v1 : Int32) (v2 : Int32) (v3 : Int32)  (σ : MH) {o} (h : StringLatin1_indexOfChar_t10 v1 v2 v3 σ = some o) : Go m_StringLatin1_indexOfChar_t1 1 (some 0, [some (.float 1), some (.int v1), some (.int v2), some (.int v3), none, none], [], σ) ((none, [], [.int o], σ)) := by
  unfold StringLatin1_indexOfChar_t10 at h
  refine Go.t (Go_sg bk_StringLatin1_indexOfChar_t1 0 5 (c2 := (some 7, [some (.float 1), some (.int v1), some (.int v2), some (.int v3), some (.int (jb v1)), some (.int v2)], [], σ)) (ps := []) rfl trivial) ?_
  obtain ⟨z4, q5, h⟩ := bdS h
  refine Go.t (Go.t (Go.fg (LSub.cs (LSub.cn (LSub.cn (LSub.cs (LSub.cs (LSub.cs (LSub.nil)))))))) (t_StringLatin1_indexOfChar_t1_L7 v3 (jb v1) σ _ q5)) ?_
  have h := Option.some.inj h
  subst h
  exact Go.rf
def StringLatin1_indexOfChar_t1 (v1 : Int32) (v2 : Int32) (v3 : Int32) (σ : MH) : Option (Int32) := StringLatin1_indexOfChar_t10 v1 v2 v3 σ
set_option maxRecDepth 20000 in
set_option maxHeartbeats 2000000 in
theorem ev_StringLatin1_indexOfChar_t1 (v1 : Int32) (v2 : Int32) (v3 : Int32)  (σ : MH) {o} (h : StringLatin1_indexOfChar_t1 v1 v2 v3 σ = some o) : Ev m_StringLatin1_indexOfChar_t1 1 [.float 1, .int v1, .int v2, .int v3] σ (some (.int o)) σ := Ev.of2 (by decide +kernel) rfl (Nat.le_of_ble_eq_true rfl) ⟨.int, rfl, rfl⟩ (t_StringLatin1_indexOfChar_t10 v1 v2 v3 σ h)
def StringLatin1_indexOf_t10 (v1 : Int32) (v2 : Int32) (v3 : Int32) (σ : MH) : Option (Int32) := (StringLatin1_canEncode v1 σ).bind fun x1 => if x1 = (0 : Int32) then some ((-1 : Int32)) else (if jmax v2 (0 : Int32) < jmin v3 (11 : Int32) then ((StringLatin1_indexOfChar_t1 v1 (jmax v2 (0 : Int32)) (jmin v3 (11 : Int32)) σ).bind fun x4 => some (x4)) else some ((-1 : Int32)))
set_option maxRecDepth 20000 in
set_option maxHeartbeats 2000000 in
theorem t_StringLatin1_indexOf_t10 (v1 : Int32) (v2 : Int32) (v3 : Int32)  (σ : MH) {o} (h : StringLatin1_indexOf_t10 v1 v2 v3 σ = some o) : Go m_StringLatin1_indexOf_t1 2 (some 0, [some (.float 1), some (.int v1), some (.int v2), some (.int v3)], [], σ) ((none, [], [.int o], σ)) := by
  unfold StringLatin1_indexOf_t10 at h
  refine Go.t (Go_sg bk_StringLatin1_indexOf_t1 0 1 (c2 := (some 1, [some (.float 1), some (.int v1), some (.int v2), some (.int v3)], [.int v1], σ)) (ps := []) rfl trivial) ?_
  obtain ⟨x1, q3, h⟩ := bdS h
  refine Go.t (Go_callS bk_StringLatin1_indexOf_t1 1 rfl nk_StringLatin1_canEncode tw657 tw658 (as := [.int v1]) (S := []) rfl rfl rfl (Nat.le_of_ble_eq_true rfl) (Nat.le_of_ble_eq_true rfl) (ev_StringLatin1_canEncode _ _ q3)) ?_
  refine Go_if_ne bk_StringLatin1_indexOf_t1 2 rfl (fun c8 => ?_) (fun c8 => ?_)
  · have h := ifF c8 h
    refine Go.t (Go_sg bk_StringLatin1_indexOf_t1 5 2 (c2 := (some 11, [some (.float 1), some (.int v1), some (.int v2), some (.int v3)], [.int (0 : Int32), .int v2], σ)) (ps := []) rfl trivial) ?_
    refine Go.t (Go_mmax bk_StringLatin1_indexOf_t1 7 rfl tw660 (Nat.le_of_ble_eq_true rfl) (Nat.le_of_ble_eq_true rfl)) ?_
    refine Go.t (Go_sg bk_StringLatin1_indexOf_t1 8 3 (c2 := (some 17, [some (.float 1), some (.int v1), some (.int (jmax v2 (0 : Int32))), some (.int v3)], [.float 1, .int v3], σ)) (ps := []) rfl trivial) ?_
    refine Go.t (Go_als (i := 1) rfl (by decide +kernel) (by decide) (x := 11) rfl) ?_
    refine Go.t (Go_mmin bk_StringLatin1_indexOf_t1 12 rfl tw663 (Nat.le_of_ble_eq_true rfl) (Nat.le_of_ble_eq_true rfl)) ?_
    refine Go.t (Go_sg bk_StringLatin1_indexOf_t1 13 3 (c2 := (some 24, [some (.float 1), some (.int v1), some (.int (jmax v2 (0 : Int32))), some (.int (jmin v3 (11 : Int32)))], [.int (jmin v3 (11 : Int32)), .int (jmax v2 (0 : Int32))], σ)) (ps := []) rfl trivial) ?_
    refine Go_icmp_lt bk_StringLatin1_indexOf_t1 16 rfl (fun c7 => ?_) (fun c7 => ?_)
    · have h := ifT c7 h
      refine Go.t (Go_sg bk_StringLatin1_indexOf_t1 19 4 (c2 := (some 33, [some (.float 1), some (.int v1), some (.int (jmax v2 (0 : Int32))), some (.int (jmin v3 (11 : Int32)))], [.int (jmin v3 (11 : Int32)), .int (jmax v2 (0 : Int32)), .int v1, .float 1], σ)) (ps := []) rfl trivial) ?_
      obtain ⟨x4, q6, h⟩ := bdS h
      refine Go.t (Go_callS bk_StringLatin1_indexOf_t1 23 rfl nk_StringLatin1_indexOfChar_t1 tw666 tw667 (as := [.float 1, .int v1, .int (jmax v2 (0 : Int32)), .int (jmin v3 (11 : Int32))]) (S := []) rfl rfl rfl (Nat.le_of_ble_eq_true rfl) (Nat.le_of_ble_eq_true rfl) (ev_StringLatin1_indexOfChar_t1 _ _ _ _ q6)) ?_
      have h := Option.some.inj h
      subst h
      exact Go_reti bk_StringLatin1_indexOf_t1 24 rfl
    · have h := ifF c7 h
      have h := Option.some.inj h
      subst h
      refine Go.t (Go_sg bk_StringLatin1_indexOf_t1 17 1 (c2 := (some 28, [some (.float 1), some (.int v1), some (.int (jmax v2 (0 : Int32))), some (.int (jmin v3 (11 : Int32)))], [.int (-1 : Int32)], σ)) (ps := []) rfl trivial) ?_
      exact Go_reti bk_StringLatin1_indexOf_t1 18 rfl
  · have h := ifT c8 h
    have h := Option.some.inj h
    subst h
    refine Go.t (Go_sg bk_StringLatin1_indexOf_t1 3 1 (c2 := (some 8, [some (.float 1), some (.int v1), some (.int v2), some (.int v3)], [.int (-1 : Int32)], σ)) (ps := []) rfl trivial) ?_
    exact Go_reti bk_StringLatin1_indexOf_t1 4 rfl
def StringLatin1_indexOf_t1 (v1 : Int32) (v2 : Int32) (v3 : Int32) (σ : MH) : Option (Int32) := StringLatin1_indexOf_t10 v1 v2 v3 σ
set_option maxRecDepth 20000 in
set_option maxHeartbeats 2000000 in
theorem ev_StringLatin1_indexOf_t1 (v1 : Int32) (v2 : Int32) (v3 : Int32)  (σ : MH) {o} (h : StringLatin1_indexOf_t1 v1 v2 v3 σ = some o) : Ev m_StringLatin1_indexOf_t1 2 [.float 1, .int v1, .int v2, .int v3] σ (some (.int o)) σ := Ev.of2 (by decide +kernel) rfl (Nat.le_of_ble_eq_true rfl) ⟨.int, rfl, rfl⟩ (t_StringLatin1_indexOf_t10 v1 v2 v3 σ h)
def String_indexOf_ii_t10 (v1 : Int32) (v2 : Int32) (σ : MH) : Option (Int32) := (String_isLatin1_t1 σ).bind fun x1 => if x1 = (0 : Int32) then (none) else ((String_length_t1 σ).bind fun x4 => (StringLatin1_indexOf_t1 v1 v2 x4 σ).bind fun x7 => some (x7))
set_option maxRecDepth 20000 in
set_option maxHeartbeats 2000000 in
theorem t_String_indexOf_ii_t10 (v1 : Int32) (v2 : Int32)  (σ : MH) {o} (h : String_indexOf_ii_t10 v1 v2 σ = some o) : Go m_String_indexOf_ii_t1 3 (some 0, [some (.retAddr 1), some (.int v1), some (.int v2)], [], σ) ((none, [], [.int o], σ)) := by
  unfold String_indexOf_ii_t10 at h
  refine Go.t (Go_sg bk_String_indexOf_ii_t1 0 1 (c2 := (some 1, [some (.retAddr 1), some (.int v1), some (.int v2)], [.retAddr 1], σ)) (ps := []) rfl trivial) ?_
  obtain ⟨x1, q3, h⟩ := bdS h
  refine Go.t (Go_callR bk_String_indexOf_ii_t1 1 rfl nk_String_isLatin1_t1 tw640 tw641 rfl tw642 (a := 1) (as := []) (S := []) (by decide) rfl rfl rfl (Nat.le_of_ble_eq_true rfl) (Nat.le_of_ble_eq_true rfl) (ev_String_isLatin1_t1 _ q3)) ?_
  refine Go_if_eq bk_String_indexOf_ii_t1 2 rfl (fun c10 => ?_) (fun c10 => ?_)
  · have h := ifT c10 h
    cases h
  · have h := ifF c10 h
    refine Go.t (Go_sg bk_String_indexOf_ii_t1 3 1 (c2 := (some 8, [some (.retAddr 1), some (.int v1), some (.int v2)], [.retAddr 1], σ)) (ps := []) rfl trivial) ?_
    refine Go.t (Go_gfv (i := 1) 1 rfl (by decide +kernel) (idx := 9) (by decide) tw1781) ?_
    refine Go.t (Go_sg bk_String_indexOf_ii_t1 4 3 (c2 := (some 14, [some (.retAddr 1), some (.int v1), some (.int v2)], [.retAddr 1, .int v2, .int v1, .float 1], σ)) (ps := []) rfl trivial) ?_
    obtain ⟨x4, q6, h⟩ := bdS h
    refine Go.t (Go_callR bk_String_indexOf_ii_t1 7 rfl nk_String_length_t1 tw646 tw647 rfl tw648 (a := 1) (as := []) (S := [.int v2, .int v1, .float 1]) (by decide) rfl rfl rfl (Nat.le_of_ble_eq_true rfl) (Nat.le_of_ble_eq_true rfl) (ev_String_length_t1 _ q6)) ?_
    obtain ⟨x7, q9, h⟩ := bdS h
    refine Go.t (Go_callS bk_String_indexOf_ii_t1 8 rfl nk_StringLatin1_indexOf_t1 tw654 tw655 (as := [.float 1, .int v1, .int v2, .int x4]) (S := []) rfl rfl rfl (Nat.le_of_ble_eq_true rfl) (Nat.le_of_ble_eq_true rfl) (ev_StringLatin1_indexOf_t1 _ _ _ _ q9)) ?_
    refine Go.t (Go_sg bk_String_indexOf_ii_t1 9 1 (c2 := (some 36, [some (.retAddr 1), some (.int v1), some (.int v2)], [.int x7], σ)) (ps := []) rfl trivial) ?_
    have h := Option.some.inj h
    subst h
    exact Go_reti bk_String_indexOf_ii_t1 10 rfl
def String_indexOf_ii_t1 (v1 : Int32) (v2 : Int32) (σ : MH) : Option (Int32) := String_indexOf_ii_t10 v1 v2 σ
set_option maxRecDepth 20000 in
set_option maxHeartbeats 2000000 in
theorem ev_String_indexOf_ii_t1 (v1 : Int32) (v2 : Int32)  (σ : MH) {o} (h : String_indexOf_ii_t1 v1 v2 σ = some o) : Ev m_String_indexOf_ii_t1 3 [.retAddr 1, .int v1, .int v2] σ (some (.int o)) σ := Ev.of2 (by decide +kernel) rfl (Nat.le_of_ble_eq_true rfl) ⟨.int, rfl, rfl⟩ (t_String_indexOf_ii_t10 v1 v2 σ h)
def String_indexOf_i_t10 (v1 : Int32) (σ : MH) : Option (Int32) := (String_indexOf_ii_t1 v1 (0 : Int32) σ).bind fun x1 => some (x1)
set_option maxRecDepth 20000 in
set_option maxHeartbeats 2000000 in
theorem t_String_indexOf_i_t10 (v1 : Int32)  (σ : MH) {o} (h : String_indexOf_i_t10 v1 σ = some o) : Go m_String_indexOf_i_t1 4 (some 0, [some (.retAddr 1), some (.int v1)], [], σ) ((none, [], [.int o], σ)) := by
  unfold String_indexOf_i_t10 at h
  refine Go.t (Go_sg bk_String_indexOf_i_t1 0 3 (c2 := (some 3, [some (.retAddr 1), some (.int v1)], [.int (0 : Int32), .int v1, .retAddr 1], σ)) (ps := []) rfl trivial) ?_
  obtain ⟨x1, q3, h⟩ := bdS h
  refine Go.t (Go_callR bk_String_indexOf_i_t1 3 rfl nk_String_indexOf_ii_t1 tw636 tw637 rfl tw638 (a := 1) (as := [.int v1, .int (0 : Int32)]) (S := []) (by decide) rfl rfl rfl (Nat.le_of_ble_eq_true rfl) (Nat.le_of_ble_eq_true rfl) (ev_String_indexOf_ii_t1 _ _ _ q3)) ?_
  have h := Option.some.inj h
  subst h
  exact Go_reti bk_String_indexOf_i_t1 4 rfl
def String_indexOf_i_t1 (v1 : Int32) (σ : MH) : Option (Int32) := String_indexOf_i_t10 v1 σ
set_option maxRecDepth 20000 in
set_option maxHeartbeats 2000000 in
theorem ev_String_indexOf_i_t1 (v1 : Int32)  (σ : MH) {o} (h : String_indexOf_i_t1 v1 σ = some o) : Ev m_String_indexOf_i_t1 4 [.retAddr 1, .int v1] σ (some (.int o)) σ := Ev.of2 (by decide +kernel) rfl (Nat.le_of_ble_eq_true rfl) ⟨.int, rfl, rfl⟩ (t_String_indexOf_i_t10 v1 σ h)
def LawReader_land0 (v1 : Int32) (σ : MH) : Option (MH) := if v1 < (0 : Int32) then some (σ) else (if (512 : Int32) ≤ v1 then some (σ) else (if inb v1 512 = true then some (sI σ 118 v1.toNatClampNeg (σ.1 117 5)) else none))
set_option maxRecDepth 20000 in
set_option maxHeartbeats 2000000 in
theorem t_LawReader_land0 (v1 : Int32)  (σ : MH) {o} (h : LawReader_land0 v1 σ = some o) : Go m_LawReader_land 1 (some 0, [some (.ref 123), some (.int v1)], [], σ) ((none, [], [], o)) := by
  unfold LawReader_land0 at h
  refine Go.t (Go_sg bk_LawReader_land 0 1 (c2 := (some 1, [some (.ref 123), some (.int v1)], [.int v1], σ)) (ps := []) rfl trivial) ?_
  refine Go_if_lt bk_LawReader_land 1 rfl (fun c3 => ?_) (fun c3 => ?_)
  · have h := ifT c3 h
    have h := Option.some.inj h
    subst h
    exact Go_ret0 bk_LawReader_land 13 rfl
  · have h := ifF c3 h
    refine Go.t (Go_sg bk_LawReader_land 2 2 (c2 := (some 8, [some (.ref 123), some (.int v1)], [.int (512 : Int32), .int v1], σ)) (ps := []) rfl trivial) ?_
    refine Go_icmp_ge bk_LawReader_land 4 rfl (fun c2 => ?_) (fun c2 => ?_)
    · have h := ifT c2 h
      have h := Option.some.inj h
      subst h
      exact Go_ret0 bk_LawReader_land 13 rfl
    · have h := ifF c2 h
      obtain ⟨g1, h⟩ := gdS h
      have h := Option.some.inj h
      subst h
      refine Go.t (Go_sg bk_LawReader_land 5 8 (c2 := (some 27, [some (.ref 123), some (.int v1)], [], sI σ 118 v1.toNatClampNeg (σ.1 117 5))) (ps := [shk 123 = 5, shk 117 = 4, shk 123 = 5, shk 117 = 4, IA 118 512 ∧ inb v1 512 = true]) rfl ⟨rfl, rfl, rfl, rfl, ⟨⟨rfl, rfl⟩, g1⟩, trivial⟩) ?_
      exact Go_ret0 bk_LawReader_land 13 rfl
def LawReader_land (v1 : Int32) (σ : MH) : Option (MH) := LawReader_land0 v1 σ
set_option maxRecDepth 20000 in
set_option maxHeartbeats 2000000 in
theorem ev_LawReader_land (v1 : Int32)  (σ : MH) {o} (h : LawReader_land v1 σ = some o) : Ev m_LawReader_land 1 [.ref 123, .int v1] σ none o := Ev.of2 (by decide +kernel) rfl (Nat.le_of_ble_eq_true rfl) rfl (t_LawReader_land0 v1 σ h)
def LawReader_emitJump0 (v1 : Int32) (v2 : Int32) (σ : MH) : Option (Int32 × MH) := (LawReader_land v2 σ).bind fun σ2 => (Law_emit v1 σ2).bind fun σ5 => (Law_emit (0 : Int32) σ5).bind fun σ8 => some ((σ8.1 117 5) - (1 : Int32), σ8)
set_option maxRecDepth 20000 in
set_option maxHeartbeats 2000000 in
theorem t_LawReader_emitJump0 (v1 : Int32) (v2 : Int32)  (σ : MH) {o} (h : LawReader_emitJump0 v1 v2 σ = some o) : Go m_LawReader_emitJump 2 (some 0, [some (.ref 123), some (.int v1), some (.int v2)], [], σ) ((none, [], [.int o.1], o.2)) := by
  unfold LawReader_emitJump0 at h
  refine Go.t (Go_sg bk_LawReader_emitJump 0 2 (c2 := (some 2, [some (.ref 123), some (.int v1), some (.int v2)], [.int v2, .ref 123], σ)) (ps := []) rfl trivial) ?_
  obtain ⟨σ2, q3, h⟩ := bdS h
  refine Go.t (Go_callV bk_LawReader_emitJump 2 rfl nk_LawReader_land tw775 tw777 tw11 (ci := 5) rfl (as := [.int v2]) (S := []) rfl rfl rfl rfl (Nat.le_of_ble_eq_true rfl) (Nat.le_of_ble_eq_true rfl) (ev_LawReader_land _ _ q3)) ?_
  refine Go.t (Go_sg bk_LawReader_emitJump 3 3 (c2 := (some 10, [some (.ref 123), some (.int v1), some (.int v2)], [.int v1, .ref 117], σ2)) (ps := [shk 123 = 5]) rfl ⟨rfl, trivial⟩) ?_
  obtain ⟨σ5, q6, h⟩ := bdS h
  refine Go.t (Go_callV bk_LawReader_emitJump 6 rfl nk_Law_emit tw750 tw751 tw752 (ci := 4) rfl (as := [.int v1]) (S := []) rfl rfl rfl rfl (Nat.le_of_ble_eq_true rfl) (Nat.le_of_ble_eq_true rfl) (ev_Law_emit _ _ q6)) ?_
  refine Go.t (Go_sg bk_LawReader_emitJump 7 3 (c2 := (some 18, [some (.ref 123), some (.int v1), some (.int v2)], [.int (0 : Int32), .ref 117], σ5)) (ps := [shk 123 = 5]) rfl ⟨rfl, trivial⟩) ?_
  obtain ⟨σ8, q9, h⟩ := bdS h
  refine Go.t (Go_callV bk_LawReader_emitJump 10 rfl nk_Law_emit tw750 tw751 tw752 (ci := 4) rfl (as := [.int (0 : Int32)]) (S := []) rfl rfl rfl rfl (Nat.le_of_ble_eq_true rfl) (Nat.le_of_ble_eq_true rfl) (ev_Law_emit _ _ q9)) ?_
  have h := Option.some.inj h
  subst h
  refine Go.t (Go_sg bk_LawReader_emitJump 11 5 (c2 := (some 30, [some (.ref 123), some (.int v1), some (.int v2)], [.int ((σ8.1 117 5) - (1 : Int32))], σ8)) (ps := [shk 123 = 5, shk 117 = 4]) rfl ⟨rfl, rfl, trivial⟩) ?_
  exact Go_reti bk_LawReader_emitJump 16 rfl
def LawReader_emitJump (v1 : Int32) (v2 : Int32) (σ : MH) : Option (Int32 × MH) := LawReader_emitJump0 v1 v2 σ
set_option maxRecDepth 20000 in
set_option maxHeartbeats 2000000 in
theorem ev_LawReader_emitJump (v1 : Int32) (v2 : Int32)  (σ : MH) {o} (h : LawReader_emitJump v1 v2 σ = some o) : Ev m_LawReader_emitJump 2 [.ref 123, .int v1, .int v2] σ (some (.int o.1)) o.2 := Ev.of2 (by decide +kernel) rfl (Nat.le_of_ble_eq_true rfl) ⟨.int, rfl, rfl⟩ (t_LawReader_emitJump0 v1 v2 σ h)
