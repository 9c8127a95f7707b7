/-! THE READERS THAT CALL ONE ANOTHER -/
def RecOK (rec : Nat → Int32 → Int32 → MH → Option (Int32 × MH)) (d : Nat) : Prop := (∀ a b σ r σ', rec 0 a b σ = some (r, σ') → Ev m_LawReader_readSum d [.ref 123, .int a] σ (some (.int r)) σ') ∧ (∀ a b σ r σ', rec 1 a b σ = some (r, σ') → Ev m_LawReader_readProduct d [.ref 123, .int a] σ (some (.int r)) σ') ∧ (∀ a b σ r σ', rec 2 a b σ = some (r, σ') → Ev m_LawReader_readFactor d [.ref 123, .int a] σ (some (.int r)) σ') ∧ (∀ a b σ r σ', rec 3 a b σ = some (r, σ') → Ev m_LawReader_readEither d [.ref 123, .int a] σ (some (.int r)) σ') ∧ (∀ a b σ r σ', rec 4 a b σ = some (r, σ') → Ev m_LawReader_readBoth d [.ref 123, .int a] σ (some (.int r)) σ') ∧ (∀ a b σ r σ', rec 5 a b σ = some (r, σ') → Ev m_LawReader_readTest d [.ref 123, .int a] σ (some (.int r)) σ') ∧ (∀ a b σ r σ', rec 6 a b σ = some (r, σ') → Ev m_LawReader_readInner d [.ref 123, .int a, .int b] σ (some (.int r)) σ')
def cH_LawReader_readSum_4 (v1 : Int32) (s : Int32 × Int32 × MH) : MC := (some 4, [some (.ref 123), some (.int v1), some (.int s.1), some (.int s.2.1)], [], s.2.2)
def cR_LawReader_readSum_4 (v1 : Int32) : ((MH) ⊕ (Int32 × MH)) → MC := (cS (fun r : MH => ((some 69, [some (.ref 123), none, none, none], [], r) : MC)) (fun r : Int32 × MH => ((none, [], [.int r.1], r.2) : MC)))
def LawReader_readSum_b53 (rec : Nat → Int32 → Int32 → MH → Option (Int32 × MH)) (v1 : Int32) (v2 : Int32) (v3 : Int32) (σ : MH) : Option (((Int32 × Int32 × MH) ⊕ ((MH) ⊕ (Int32 × MH)))) := some (.inl (v2, v3 + (1 : Int32), sI σ 123 2 ((σ.1 123 2) + (1 : Int32))))
set_option maxRecDepth 20000 in
set_option maxHeartbeats 2000000 in
theorem t_LawReader_readSum_b53 {rec : Nat → Int32 → Int32 → MH → Option (Int32 × MH)} {dR : Nat} (hd : 9 ≤ dR) (hR : RecOK rec dR) (v1 : Int32) (v2 : Int32) (v3 : Int32)   (σ : MH) {o} (h : LawReader_readSum_b53 rec v1 v2 v3 σ = some o) : Go m_LawReader_readSum (dR + 1) (some 53, [some (.ref 123), some (.int v1), some (.int v2), some (.int v3)], [], σ) (cS (cH_LawReader_readSum_4 v1) (cR_LawReader_readSum_4 v1) o) := by
  unfold LawReader_readSum_b53 at h
  refine Go.t (Go_sg bk_LawReader_readSum 31 8 (c2 := (some 4, [some (.ref 123), some (.int v1), some (.int v2), some (.int (v3 + (1 : Int32)))], [], sI σ 123 2 ((σ.1 123 2) + (1 : Int32)))) (ps := [shk 123 = 5, shk 123 = 5]) rfl ⟨rfl, rfl, trivial⟩) ?_
  have h := Option.some.inj h
  subst h
  exact Go.fg (LSub.cs (LSub.cs (LSub.cs (LSub.cs (LSub.nil)))))
def LawReader_readSum_b34 (rec : Nat → Int32 → Int32 → MH → Option (Int32 × MH)) (v1 : Int32) (v3 : Int32) (σ : MH) : Option (((Int32 × Int32 × MH) ⊕ ((MH) ⊕ (Int32 × MH)))) := (Reader_sign σ).bind fun x4 => if x4 = (43 : Int32) then (LawReader_readSum_b53 rec v1 x4 v3 σ) else (if x4 = (45 : Int32) then (LawReader_readSum_b53 rec v1 x4 v3 σ) else some (.inr (.inr ((1 : Int32), σ))))
set_option maxRecDepth 20000 in
set_option maxHeartbeats 2000000 in
theorem t_LawReader_readSum_b34 {rec : Nat → Int32 → Int32 → MH → Option (Int32 × MH)} {dR : Nat} (hd : 9 ≤ dR) (hR : RecOK rec dR) (v1 : Int32) (v3 : Int32)   (σ : MH) {o} (h : LawReader_readSum_b34 rec v1 v3 σ = some o) : Go m_LawReader_readSum (dR + 1) (some 34, [some (.ref 123), some (.int v1), none, some (.int v3)], [], σ) (cS (cH_LawReader_readSum_4 v1) (cR_LawReader_readSum_4 v1) o) := by
  unfold LawReader_readSum_b34 at h
  refine Go.t (Go_sg bk_LawReader_readSum 20 1 (c2 := (some 35, [some (.ref 123), some (.int v1), none, some (.int v3)], [.ref 123], σ)) (ps := []) rfl trivial) ?_
  obtain ⟨x4, q6, h⟩ := bdS h
  refine Go.t (Go_callU bk_LawReader_readSum 21 rfl nk_Reader_sign (xc := "PuzzleWed$LawReader") tw626 tw627 tw630 (C := RX5) tw629 (ci := 5) rfl (as := []) (S := []) rfl rfl rfl rfl (Nat.le_of_ble_eq_true rfl) (Nat.le_trans (Nat.le_of_ble_eq_true rfl : 2 ≤ 10) (Nat.succ_le_succ hd)) (ev_Reader_sign _ q6)) ?_
  refine Go.t (Go_sg bk_LawReader_readSum 22 3 (c2 := (some 42, [some (.ref 123), some (.int v1), some (.int x4), some (.int v3)], [.int (43 : Int32), .int x4], σ)) (ps := []) rfl trivial) ?_
  refine Go_icmp_eq bk_LawReader_readSum 25 rfl (fun c8 => ?_) (fun c8 => ?_)
  · have h := ifT c8 h
    exact Go.t (Go.fg (LSub.cs (LSub.cs (LSub.cs (LSub.cs (LSub.nil)))))) (t_LawReader_readSum_b53 hd hR v1 x4 v3 σ h)
  · have h := ifF c8 h
    refine Go.t (Go_sg bk_LawReader_readSum 26 2 (c2 := (some 48, [some (.ref 123), some (.int v1), some (.int x4), some (.int v3)], [.int (45 : Int32), .int x4], σ)) (ps := []) rfl trivial) ?_
    refine Go_icmp_eq bk_LawReader_readSum 28 rfl (fun c7 => ?_) (fun c7 => ?_)
    · have h := ifT c7 h
      exact Go.t (Go.fg (LSub.cs (LSub.cs (LSub.cs (LSub.cs (LSub.nil)))))) (t_LawReader_readSum_b53 hd hR v1 x4 v3 σ h)
    · have h := ifF c7 h
      have h := Option.some.inj h
      subst h
      refine Go.t (Go_sg bk_LawReader_readSum 29 1 (c2 := (some 52, [some (.ref 123), some (.int v1), some (.int x4), some (.int v3)], [.int (1 : Int32)], σ)) (ps := []) rfl trivial) ?_
      exact Go_reti bk_LawReader_readSum 30 rfl
def LawReader_readSum_l4 (rec : Nat → Int32 → Int32 → MH → Option (Int32 × MH)) (v1 : Int32) (v2 : Int32) (v3 : Int32) (σ : MH) : Option (((Int32 × Int32 × MH) ⊕ ((MH) ⊕ (Int32 × MH)))) := if σ.1 123 1 < v3 then some (.inr (.inl (σ))) else ((rec 1 v1 0 σ).bind fun (x1, σ2) => if x1 = (0 : Int32) then some (.inr (.inr ((0 : Int32), σ2))) else (if v2 = (0 : Int32) then (LawReader_readSum_b34 rec v1 v3 σ2) else ((Law_emit v2 σ2).bind fun σ10 => LawReader_readSum_b34 rec v1 v3 σ10)))
set_option maxRecDepth 20000 in
set_option maxHeartbeats 2000000 in
theorem t_LawReader_readSum_l4 {rec : Nat → Int32 → Int32 → MH → Option (Int32 × MH)} {dR : Nat} (hd : 9 ≤ dR) (hR : RecOK rec dR) (v1 : Int32) (v2 : Int32) (v3 : Int32)  (σ : MH) {o} (h : LawReader_readSum_l4 rec v1 v2 v3 σ = some o) : Go m_LawReader_readSum (dR + 1) (cH_LawReader_readSum_4 v1 (v2, v3, σ)) (cS (cH_LawReader_readSum_4 v1) (cR_LawReader_readSum_4 v1) o) := by
  unfold LawReader_readSum_l4 at h
  unfold cH_LawReader_readSum_4
  refine Go.t (Go_sg bk_LawReader_readSum 4 3 (c2 := (some 9, [some (.ref 123), some (.int v1), some (.int v2), some (.int v3)], [.int (σ.1 123 1), .int v3], σ)) (ps := [shk 123 = 5]) rfl ⟨rfl, trivial⟩) ?_
  refine Go_icmp_gt bk_LawReader_readSum 7 rfl (fun c14 => ?_) (fun c14 => ?_)
  · have h := ifT c14 h
    have h := Option.some.inj h
    subst h
    exact Go.fg (LSub.cs (LSub.cn (LSub.cn (LSub.cn (LSub.nil)))))
  · have h := ifF c14 h
    refine Go.t (Go_sg bk_LawReader_readSum 8 2 (c2 := (some 14, [some (.ref 123), some (.int v1), some (.int v2), some (.int v3)], [.int v1, .ref 123], σ)) (ps := []) rfl trivial) ?_
    obtain ⟨⟨x1, σ2⟩, q3, h⟩ := bdS h
    dsimp only at h
    refine Go.t (Go_callV bk_LawReader_readSum 10 rfl nk_LawReader_readProduct tw734 tw736 tw2 (ci := 5) rfl (as := [.int v1]) (S := []) rfl rfl rfl rfl (Nat.le_of_ble_eq_true rfl) (Nat.le_refl _) (hR.2.1 _ _ _ _ _ q3)) ?_
    refine Go_if_ne bk_LawReader_readSum 11 rfl (fun c13 => ?_) (fun c13 => ?_)
    · have h := ifF c13 h
      refine Go.t (Go_sg bk_LawReader_readSum 14 1 (c2 := (some 23, [some (.ref 123), some (.int v1), some (.int v2), some (.int v3)], [.int v2], σ2)) (ps := []) rfl trivial) ?_
      refine Go_if_eq bk_LawReader_readSum 15 rfl (fun c12 => ?_) (fun c12 => ?_)
      · have h := ifT c12 h
        exact Go.t (Go.fg (LSub.cs (LSub.cs (LSub.cn (LSub.cs (LSub.nil)))))) (t_LawReader_readSum_b34 hd hR v1 v3 σ2 h)
      · have h := ifF c12 h
        refine Go.t (Go_sg bk_LawReader_readSum 16 3 (c2 := (some 31, [some (.ref 123), some (.int v1), some (.int v2), some (.int v3)], [.int v2, .ref 117], σ2)) (ps := [shk 123 = 5]) rfl ⟨rfl, trivial⟩) ?_
        obtain ⟨σ10, q11, h⟩ := bdS h
        refine Go.t (Go_callV bk_LawReader_readSum 19 rfl nk_Law_emit tw750 tw751 tw752 (ci := 4) rfl (as := [.int v2]) (S := []) rfl rfl rfl rfl (Nat.le_of_ble_eq_true rfl) (Nat.le_trans (Nat.le_of_ble_eq_true rfl : 2 ≤ 10) (Nat.succ_le_succ hd)) (ev_Law_emit _ _ q11)) ?_
        exact Go.t (Go.fg (LSub.cs (LSub.cs (LSub.cn (LSub.cs (LSub.nil)))))) (t_LawReader_readSum_b34 hd hR v1 v3 σ10 h)
    · have h := ifT c13 h
      have h := Option.some.inj h
      subst h
      refine Go.t (Go_sg bk_LawReader_readSum 12 1 (c2 := (some 21, [some (.ref 123), some (.int v1), some (.int v2), some (.int v3)], [.int (0 : Int32)], σ2)) (ps := []) rfl trivial) ?_
      exact Go_reti bk_LawReader_readSum 13 rfl
def LawReader_readSum_L4 (rec : Nat → Int32 → Int32 → MH → Option (Int32 × MH)) (v1 : Int32) (s : Int32 × Int32 × MH) : Option ((MH) ⊕ (Int32 × MH)) := itr (fun s : Int32 × Int32 × MH => LawReader_readSum_l4 rec v1 s.1 s.2.1 s.2.2) FU s
set_option maxRecDepth 20000 in
set_option maxHeartbeats 2000000 in
theorem t_LawReader_readSum_L4 {rec : Nat → Int32 → Int32 → MH → Option (Int32 × MH)} {dR : Nat} (hd : 9 ≤ dR) (hR : RecOK rec dR) (v1 : Int32)  (s : Int32 × Int32 × MH) {r} (h : LawReader_readSum_L4 rec v1 s = some r) : Go m_LawReader_readSum (dR + 1) (cH_LawReader_readSum_4 v1 s) (cR_LawReader_readSum_4 v1 r) := Go_itr (fun s o ho => t_LawReader_readSum_l4 hd hR v1 s.1 s.2.1 s.2.2 ho) FU s r h
def LawReader_readSum0 (rec : Nat → Int32 → Int32 → MH → Option (Int32 × MH)) (v1 : Int32) (σ : MH) : Option (Int32 × MH) := (LawReader_readSum_L4 rec v1 ((0 : Int32), (0 : Int32), σ)).bind fun z15 => (match z15 with | .inl z15a => (Reader_fail (1 : Int32) z15a).bind fun (x17, σ18) => some (x17, σ18) | .inr z15b => some (z15b.1, z15b.2))
set_option maxRecDepth 20000 in
set_option maxHeartbeats 2000000 in
theorem t_LawReader_readSum0 {rec : Nat → Int32 → Int32 → MH → Option (Int32 × MH)} {dR : Nat} (hd : 9 ≤ dR) (hR : RecOK rec dR) (v1 : Int32)  (σ : MH) {o} (h : LawReader_readSum0 rec v1 σ = some o) : Go m_LawReader_readSum (dR + 1) (some 0, [some (.ref 123), some (.int v1), none, none], [], σ) ((none, [], [.int o.1], o.2)) := by
  unfold LawReader_readSum0 at h
  refine Go.t (Go_sg bk_LawReader_readSum 0 4 (c2 := (some 4, [some (.ref 123), some (.int v1), some (.int (0 : Int32)), some (.int (0 : Int32))], [], σ)) (ps := []) rfl trivial) ?_
  obtain ⟨z15, q16, h⟩ := bdS h
  refine Go.t (Go.t (Go.fg (LSub.cs (LSub.cs (LSub.cs (LSub.cs (LSub.nil)))))) (t_LawReader_readSum_L4 hd hR v1 _ q16)) ?_
  rcases z15 with z15a | z15b
  · dsimp only at h
    refine Go.t (Go_sg bk_LawReader_readSum 39 2 (c2 := (some 71, [some (.ref 123), none, none, none], [.int (1 : Int32), .ref 123], z15a)) (ps := []) rfl trivial) ?_
    obtain ⟨⟨x17, σ18⟩, q19, h⟩ := bdS h
    dsimp only at h
    refine Go.t (Go_callU bk_LawReader_readSum 41 rfl nk_Reader_fail (xc := "PuzzleWed$LawReader") tw718 tw719 tw722 (C := RX5) tw721 (ci := 5) rfl (as := [.int (1 : Int32)]) (S := []) rfl rfl rfl rfl (Nat.le_of_ble_eq_true rfl) (Nat.le_trans (Nat.le_of_ble_eq_true rfl : 3 ≤ 10) (Nat.succ_le_succ hd)) (ev_Reader_fail _ _ q19)) ?_
    have h := Option.some.inj h
    subst h
    exact Go_reti bk_LawReader_readSum 42 rfl
  · dsimp only at h
    have h := Option.some.inj h
    subst h
    exact Go.rf
def LawReader_readSum (rec : Nat → Int32 → Int32 → MH → Option (Int32 × MH)) (v1 : Int32) (σ : MH) : Option (Int32 × MH) := bzo (LawReader_readSum0 rec v1 σ)
set_option maxRecDepth 20000 in
set_option maxHeartbeats 2000000 in
theorem ev_LawReader_readSum {rec : Nat → Int32 → Int32 → MH → Option (Int32 × MH)} {dR : Nat} (hd : 9 ≤ dR) (hR : RecOK rec dR) (v1 : Int32)  (σ : MH) {o} (h : LawReader_readSum rec v1 σ = some o) : Ev m_LawReader_readSum (dR + 1) [.ref 123, .int v1] σ (some (.int o.1)) o.2 := Ev.of2 (by decide +kernel) rfl (Nat.le_of_ble_eq_true rfl) ⟨.boolean, rfl, nrB (bzo2 h)⟩ (t_LawReader_readSum0 hd hR v1 σ (bzo1 h))
def cH_LawReader_readProduct_4 (v1 : Int32) (s : Int32 × Int32 × MH) : MC := (some 4, [some (.ref 123), some (.int v1), some (.int s.1), some (.int s.2.1)], [], s.2.2)
def cR_LawReader_readProduct_4 (v1 : Int32) : ((MH) ⊕ (Int32 × MH)) → MC := (cS (fun r : MH => ((some 75, [some (.ref 123), none, none, none], [], r) : MC)) (fun r : Int32 × MH => ((none, [], [.int r.1], r.2) : MC)))
def LawReader_readProduct_b59 (rec : Nat → Int32 → Int32 → MH → Option (Int32 × MH)) (v1 : Int32) (v2 : Int32) (v3 : Int32) (σ : MH) : Option (((Int32 × Int32 × MH) ⊕ ((MH) ⊕ (Int32 × MH)))) := some (.inl (v2, v3 + (1 : Int32), sI σ 123 2 ((σ.1 123 2) + (1 : Int32))))
set_option maxRecDepth 20000 in
set_option maxHeartbeats 2000000 in
theorem t_LawReader_readProduct_b59 {rec : Nat → Int32 → Int32 → MH → Option (Int32 × MH)} {dR : Nat} (hd : 9 ≤ dR) (hR : RecOK rec dR) (v1 : Int32) (v2 : Int32) (v3 : Int32)   (σ : MH) {o} (h : LawReader_readProduct_b59 rec v1 v2 v3 σ = some o) : Go m_LawReader_readProduct (dR + 1) (some 59, [some (.ref 123), some (.int v1), some (.int v2), some (.int v3)], [], σ) (cS (cH_LawReader_readProduct_4 v1) (cR_LawReader_readProduct_4 v1) o) := by
  unfold LawReader_readProduct_b59 at h
  refine Go.t (Go_sg bk_LawReader_readProduct 34 8 (c2 := (some 4, [some (.ref 123), some (.int v1), some (.int v2), some (.int (v3 + (1 : Int32)))], [], sI σ 123 2 ((σ.1 123 2) + (1 : Int32)))) (ps := [shk 123 = 5, shk 123 = 5]) rfl ⟨rfl, rfl, trivial⟩) ?_
  have h := Option.some.inj h
  subst h
  exact Go.fg (LSub.cs (LSub.cs (LSub.cs (LSub.cs (LSub.nil)))))
def LawReader_readProduct_b34 (rec : Nat → Int32 → Int32 → MH → Option (Int32 × MH)) (v1 : Int32) (v3 : Int32) (σ : MH) : Option (((Int32 × Int32 × MH) ⊕ ((MH) ⊕ (Int32 × MH)))) := (Reader_sign σ).bind fun x4 => if x4 = (42 : Int32) then (LawReader_readProduct_b59 rec v1 x4 v3 σ) else (if x4 = (47 : Int32) then (LawReader_readProduct_b59 rec v1 x4 v3 σ) else (if x4 = (37 : Int32) then (LawReader_readProduct_b59 rec v1 x4 v3 σ) else some (.inr (.inr ((1 : Int32), σ)))))
set_option maxRecDepth 20000 in
set_option maxHeartbeats 2000000 in
theorem t_LawReader_readProduct_b34 {rec : Nat → Int32 → Int32 → MH → Option (Int32 × MH)} {dR : Nat} (hd : 9 ≤ dR) (hR : RecOK rec dR) (v1 : Int32) (v3 : Int32)   (σ : MH) {o} (h : LawReader_readProduct_b34 rec v1 v3 σ = some o) : Go m_LawReader_readProduct (dR + 1) (some 34, [some (.ref 123), some (.int v1), none, some (.int v3)], [], σ) (cS (cH_LawReader_readProduct_4 v1) (cR_LawReader_readProduct_4 v1) o) := by
  unfold LawReader_readProduct_b34 at h
  refine Go.t (Go_sg bk_LawReader_readProduct 20 1 (c2 := (some 35, [some (.ref 123), some (.int v1), none, some (.int v3)], [.ref 123], σ)) (ps := []) rfl trivial) ?_
  obtain ⟨x4, q6, h⟩ := bdS h
  refine Go.t (Go_callU bk_LawReader_readProduct 21 rfl nk_Reader_sign (xc := "PuzzleWed$LawReader") tw626 tw627 tw630 (C := RX5) tw629 (ci := 5) rfl (as := []) (S := []) rfl rfl rfl rfl (Nat.le_of_ble_eq_true rfl) (Nat.le_trans (Nat.le_of_ble_eq_true rfl : 2 ≤ 10) (Nat.succ_le_succ hd)) (ev_Reader_sign _ q6)) ?_
  refine Go.t (Go_sg bk_LawReader_readProduct 22 3 (c2 := (some 42, [some (.ref 123), some (.int v1), some (.int x4), some (.int v3)], [.int (42 : Int32), .int x4], σ)) (ps := []) rfl trivial) ?_
  refine Go_icmp_eq bk_LawReader_readProduct 25 rfl (fun c9 => ?_) (fun c9 => ?_)
  · have h := ifT c9 h
    exact Go.t (Go.fg (LSub.cs (LSub.cs (LSub.cs (LSub.cs (LSub.nil)))))) (t_LawReader_readProduct_b59 hd hR v1 x4 v3 σ h)
  · have h := ifF c9 h
    refine Go.t (Go_sg bk_LawReader_readProduct 26 2 (c2 := (some 48, [some (.ref 123), some (.int v1), some (.int x4), some (.int v3)], [.int (47 : Int32), .int x4], σ)) (ps := []) rfl trivial) ?_
    refine Go_icmp_eq bk_LawReader_readProduct 28 rfl (fun c8 => ?_) (fun c8 => ?_)
    · have h := ifT c8 h
      exact Go.t (Go.fg (LSub.cs (LSub.cs (LSub.cs (LSub.cs (LSub.nil)))))) (t_LawReader_readProduct_b59 hd hR v1 x4 v3 σ h)
    · have h := ifF c8 h
      refine Go.t (Go_sg bk_LawReader_readProduct 29 2 (c2 := (some 54, [some (.ref 123), some (.int v1), some (.int x4), some (.int v3)], [.int (37 : Int32), .int x4], σ)) (ps := []) rfl trivial) ?_
      refine Go_icmp_eq bk_LawReader_readProduct 31 rfl (fun c7 => ?_) (fun c7 => ?_)
      · have h := ifT c7 h
        exact Go.t (Go.fg (LSub.cs (LSub.cs (LSub.cs (LSub.cs (LSub.nil)))))) (t_LawReader_readProduct_b59 hd hR v1 x4 v3 σ h)
      · have h := ifF c7 h
        have h := Option.some.inj h
        subst h
        refine Go.t (Go_sg bk_LawReader_readProduct 32 1 (c2 := (some 58, [some (.ref 123), some (.int v1), some (.int x4), some (.int v3)], [.int (1 : Int32)], σ)) (ps := []) rfl trivial) ?_
        exact Go_reti bk_LawReader_readProduct 33 rfl
def LawReader_readProduct_l4 (rec : Nat → Int32 → Int32 → MH → Option (Int32 × MH)) (v1 : Int32) (v2 : Int32) (v3 : Int32) (σ : MH) : Option (((Int32 × Int32 × MH) ⊕ ((MH) ⊕ (Int32 × MH)))) := if σ.1 123 1 < v3 then some (.inr (.inl (σ))) else ((rec 2 v1 0 σ).bind fun (x1, σ2) => if x1 = (0 : Int32) then some (.inr (.inr ((0 : Int32), σ2))) else (if v2 = (0 : Int32) then (LawReader_readProduct_b34 rec v1 v3 σ2) else ((Law_emit v2 σ2).bind fun σ11 => LawReader_readProduct_b34 rec v1 v3 σ11)))
set_option maxRecDepth 20000 in
set_option maxHeartbeats 2000000 in
theorem t_LawReader_readProduct_l4 {rec : Nat → Int32 → Int32 → MH → Option (Int32 × MH)} {dR : Nat} (hd : 9 ≤ dR) (hR : RecOK rec dR) (v1 : Int32) (v2 : Int32) (v3 : Int32)  (σ : MH) {o} (h : LawReader_readProduct_l4 rec v1 v2 v3 σ = some o) : Go m_LawReader_readProduct (dR + 1) (cH_LawReader_readProduct_4 v1 (v2, v3, σ)) (cS (cH_LawReader_readProduct_4 v1) (cR_LawReader_readProduct_4 v1) o) := by
  unfold LawReader_readProduct_l4 at h
  unfold cH_LawReader_readProduct_4
  refine Go.t (Go_sg bk_LawReader_readProduct 4 3 (c2 := (some 9, [some (.ref 123), some (.int v1), some (.int v2), some (.int v3)], [.int (σ.1 123 1), .int v3], σ)) (ps := [shk 123 = 5]) rfl ⟨rfl, trivial⟩) ?_
  refine Go_icmp_gt bk_LawReader_readProduct 7 rfl (fun c15 => ?_) (fun c15 => ?_)
  · have h := ifT c15 h
    have h := Option.some.inj h
    subst h
    exact Go.fg (LSub.cs (LSub.cn (LSub.cn (LSub.cn (LSub.nil)))))
  · have h := ifF c15 h
    refine Go.t (Go_sg bk_LawReader_readProduct 8 2 (c2 := (some 14, [some (.ref 123), some (.int v1), some (.int v2), some (.int v3)], [.int v1, .ref 123], σ)) (ps := []) rfl trivial) ?_
    obtain ⟨⟨x1, σ2⟩, q3, h⟩ := bdS h
    dsimp only at h
    refine Go.t (Go_callV bk_LawReader_readProduct 10 rfl nk_LawReader_readFactor tw738 tw740 tw3 (ci := 5) rfl (as := [.int v1]) (S := []) rfl rfl rfl rfl (Nat.le_of_ble_eq_true rfl) (Nat.le_refl _) (hR.2.2.1 _ _ _ _ _ q3)) ?_
    refine Go_if_ne bk_LawReader_readProduct 11 rfl (fun c14 => ?_) (fun c14 => ?_)
    · have h := ifF c14 h
      refine Go.t (Go_sg bk_LawReader_readProduct 14 1 (c2 := (some 23, [some (.ref 123), some (.int v1), some (.int v2), some (.int v3)], [.int v2], σ2)) (ps := []) rfl trivial) ?_
      refine Go_if_eq bk_LawReader_readProduct 15 rfl (fun c13 => ?_) (fun c13 => ?_)
      · have h := ifT c13 h
        exact Go.t (Go.fg (LSub.cs (LSub.cs (LSub.cn (LSub.cs (LSub.nil)))))) (t_LawReader_readProduct_b34 hd hR v1 v3 σ2 h)
      · have h := ifF c13 h
        refine Go.t (Go_sg bk_LawReader_readProduct 16 3 (c2 := (some 31, [some (.ref 123), some (.int v1), some (.int v2), some (.int v3)], [.int v2, .ref 117], σ2)) (ps := [shk 123 = 5]) rfl ⟨rfl, trivial⟩) ?_
        obtain ⟨σ11, q12, h⟩ := bdS h
        refine Go.t (Go_callV bk_LawReader_readProduct 19 rfl nk_Law_emit tw750 tw751 tw752 (ci := 4) rfl (as := [.int v2]) (S := []) rfl rfl rfl rfl (Nat.le_of_ble_eq_true rfl) (Nat.le_trans (Nat.le_of_ble_eq_true rfl : 2 ≤ 10) (Nat.succ_le_succ hd)) (ev_Law_emit _ _ q12)) ?_
        exact Go.t (Go.fg (LSub.cs (LSub.cs (LSub.cn (LSub.cs (LSub.nil)))))) (t_LawReader_readProduct_b34 hd hR v1 v3 σ11 h)
    · have h := ifT c14 h
      have h := Option.some.inj h
      subst h
      refine Go.t (Go_sg bk_LawReader_readProduct 12 1 (c2 := (some 21, [some (.ref 123), some (.int v1), some (.int v2), some (.int v3)], [.int (0 : Int32)], σ2)) (ps := []) rfl trivial) ?_
      exact Go_reti bk_LawReader_readProduct 13 rfl
def LawReader_readProduct_L4 (rec : Nat → Int32 → Int32 → MH → Option (Int32 × MH)) (v1 : Int32) (s : Int32 × Int32 × MH) : Option ((MH) ⊕ (Int32 × MH)) := itr (fun s : Int32 × Int32 × MH => LawReader_readProduct_l4 rec v1 s.1 s.2.1 s.2.2) FU s
set_option maxRecDepth 20000 in
set_option maxHeartbeats 2000000 in
theorem t_LawReader_readProduct_L4 {rec : Nat → Int32 → Int32 → MH → Option (Int32 × MH)} {dR : Nat} (hd : 9 ≤ dR) (hR : RecOK rec dR) (v1 : Int32)  (s : Int32 × Int32 × MH) {r} (h : LawReader_readProduct_L4 rec v1 s = some r) : Go m_LawReader_readProduct (dR + 1) (cH_LawReader_readProduct_4 v1 s) (cR_LawReader_readProduct_4 v1 r) := Go_itr (fun s o ho => t_LawReader_readProduct_l4 hd hR v1 s.1 s.2.1 s.2.2 ho) FU s r h
def LawReader_readProduct0 (rec : Nat → Int32 → Int32 → MH → Option (Int32 × MH)) (v1 : Int32) (σ : MH) : Option (Int32 × MH) := (LawReader_readProduct_L4 rec v1 ((0 : Int32), (0 : Int32), σ)).bind fun z16 => (match z16 with | .inl z16a => (Reader_fail (1 : Int32) z16a).bind fun (x18, σ19) => some (x18, σ19) | .inr z16b => some (z16b.1, z16b.2))
set_option maxRecDepth 20000 in
set_option maxHeartbeats 2000000 in
theorem t_LawReader_readProduct0 {rec : Nat → Int32 → Int32 → MH → Option (Int32 × MH)} {dR : Nat} (hd : 9 ≤ dR) (hR : RecOK rec dR) (v1 : Int32)  (σ : MH) {o} (h : LawReader_readProduct0 rec v1 σ = some o) : Go m_LawReader_readProduct (dR + 1) (some 0, [some (.ref 123), some (.int v1), none, none], [], σ) ((none, [], [.int o.1], o.2)) := by
  unfold LawReader_readProduct0 at h
  refine Go.t (Go_sg bk_LawReader_readProduct 0 4 (c2 := (some 4, [some (.ref 123), some (.int v1), some (.int (0 : Int32)), some (.int (0 : Int32))], [], σ)) (ps := []) rfl trivial) ?_
  obtain ⟨z16, q17, h⟩ := bdS h
  refine Go.t (Go.t (Go.fg (LSub.cs (LSub.cs (LSub.cs (LSub.cs (LSub.nil)))))) (t_LawReader_readProduct_L4 hd hR v1 _ q17)) ?_
  rcases z16 with z16a | z16b
  · dsimp only at h
    refine Go.t (Go_sg bk_LawReader_readProduct 42 2 (c2 := (some 77, [some (.ref 123), none, none, none], [.int (1 : Int32), .ref 123], z16a)) (ps := []) rfl trivial) ?_
    obtain ⟨⟨x18, σ19⟩, q20, h⟩ := bdS h
    dsimp only at h
    refine Go.t (Go_callU bk_LawReader_readProduct 44 rfl nk_Reader_fail (xc := "PuzzleWed$LawReader") tw718 tw719 tw722 (C := RX5) tw721 (ci := 5) rfl (as := [.int (1 : Int32)]) (S := []) rfl rfl rfl rfl (Nat.le_of_ble_eq_true rfl) (Nat.le_trans (Nat.le_of_ble_eq_true rfl : 3 ≤ 10) (Nat.succ_le_succ hd)) (ev_Reader_fail _ _ q20)) ?_
    have h := Option.some.inj h
    subst h
    exact Go_reti bk_LawReader_readProduct 45 rfl
  · dsimp only at h
    have h := Option.some.inj h
    subst h
    exact Go.rf
def LawReader_readProduct (rec : Nat → Int32 → Int32 → MH → Option (Int32 × MH)) (v1 : Int32) (σ : MH) : Option (Int32 × MH) := bzo (LawReader_readProduct0 rec v1 σ)
set_option maxRecDepth 20000 in
set_option maxHeartbeats 2000000 in
theorem ev_LawReader_readProduct {rec : Nat → Int32 → Int32 → MH → Option (Int32 × MH)} {dR : Nat} (hd : 9 ≤ dR) (hR : RecOK rec dR) (v1 : Int32)  (σ : MH) {o} (h : LawReader_readProduct rec v1 σ = some o) : Ev m_LawReader_readProduct (dR + 1) [.ref 123, .int v1] σ (some (.int o.1)) o.2 := Ev.of2 (by decide +kernel) rfl (Nat.le_of_ble_eq_true rfl) ⟨.boolean, rfl, nrB (bzo2 h)⟩ (t_LawReader_readProduct0 hd hR v1 σ (bzo1 h))
def LawReader_readFactor_b93 (rec : Nat → Int32 → Int32 → MH → Option (Int32 × MH)) (s0 : Int32) (σ : MH) : Option (Int32 × MH) := if (0 : Int32) ≤ s0 then ((Law_emit (2 : Int32) σ).bind fun σ11 => (Law_emit s0 σ11).bind fun σ14 => some ((1 : Int32), sI σ14 123 2 ((σ14.1 123 2) + (1 : Int32)))) else ((Reader_fail (1 : Int32) σ).bind fun (x16, σ17) => some (x16, σ17))
set_option maxRecDepth 20000 in
set_option maxHeartbeats 2000000 in
theorem t_LawReader_readFactor_b93 {rec : Nat → Int32 → Int32 → MH → Option (Int32 × MH)} {dR : Nat} (hd : 9 ≤ dR) (hR : RecOK rec dR) (s0 : Int32)   (σ : MH) {o} (h : LawReader_readFactor_b93 rec s0 σ = some o) : Go m_LawReader_readFactor (dR + 1) (some 93, [some (.ref 123), none, none, none], [.int s0], σ) ((none, [], [.int o.1], o.2)) := by
  unfold LawReader_readFactor_b93 at h
  refine Go.t (Go_sg bk_LawReader_readFactor 50 2 (c2 := (some 95, [some (.ref 123), none, none, some (.int s0)], [.int s0], σ)) (ps := []) rfl trivial) ?_
  refine Go_if_ge bk_LawReader_readFactor 52 rfl (fun c19 => ?_) (fun c19 => ?_)
  · have h := ifT c19 h
    refine Go.t (Go_sg bk_LawReader_readFactor 57 3 (c2 := (some 109, [some (.ref 123), none, none, some (.int s0)], [.int (2 : Int32), .ref 117], σ)) (ps := [shk 123 = 5]) rfl ⟨rfl, trivial⟩) ?_
    obtain ⟨σ11, q12, h⟩ := bdS h
    refine Go.t (Go_callV bk_LawReader_readFactor 60 rfl nk_Law_emit tw750 tw751 tw752 (ci := 4) rfl (as := [.int (2 : Int32)]) (S := []) rfl rfl rfl rfl (Nat.le_of_ble_eq_true rfl) (Nat.le_trans (Nat.le_of_ble_eq_true rfl : 2 ≤ 10) (Nat.succ_le_succ hd)) (ev_Law_emit _ _ q12)) ?_
    refine Go.t (Go_sg bk_LawReader_readFactor 61 3 (c2 := (some 117, [some (.ref 123), none, none, some (.int s0)], [.int s0, .ref 117], σ11)) (ps := [shk 123 = 5]) rfl ⟨rfl, trivial⟩) ?_
    obtain ⟨σ14, q15, h⟩ := bdS h
    refine Go.t (Go_callV bk_LawReader_readFactor 64 rfl nk_Law_emit tw750 tw751 tw752 (ci := 4) rfl (as := [.int s0]) (S := []) rfl rfl rfl rfl (Nat.le_of_ble_eq_true rfl) (Nat.le_trans (Nat.le_of_ble_eq_true rfl : 2 ≤ 10) (Nat.succ_le_succ hd)) (ev_Law_emit _ _ q15)) ?_
    have h := Option.some.inj h
    subst h
    refine Go.t (Go_sg bk_LawReader_readFactor 65 7 (c2 := (some 131, [some (.ref 123), none, none, some (.int s0)], [.int (1 : Int32)], sI σ14 123 2 ((σ14.1 123 2) + (1 : Int32)))) (ps := [shk 123 = 5, shk 123 = 5]) rfl ⟨rfl, rfl, trivial⟩) ?_
    exact Go_reti bk_LawReader_readFactor 72 rfl
  · have h := ifF c19 h
    refine Go.t (Go_sg bk_LawReader_readFactor 53 2 (c2 := (some 100, [some (.ref 123), none, none, some (.int s0)], [.int (1 : Int32), .ref 123], σ)) (ps := []) rfl trivial) ?_
    obtain ⟨⟨x16, σ17⟩, q18, h⟩ := bdS h
    dsimp only at h
    refine Go.t (Go_callU bk_LawReader_readFactor 55 rfl nk_Reader_fail (xc := "PuzzleWed$LawReader") tw718 tw719 tw722 (C := RX5) tw721 (ci := 5) rfl (as := [.int (1 : Int32)]) (S := []) rfl rfl rfl rfl (Nat.le_of_ble_eq_true rfl) (Nat.le_trans (Nat.le_of_ble_eq_true rfl : 3 ≤ 10) (Nat.succ_le_succ hd)) (ev_Reader_fail _ _ q18)) ?_
    have h := Option.some.inj h
    subst h
    exact Go_reti bk_LawReader_readFactor 56 rfl
def LawReader_readFactor_b75 (rec : Nat → Int32 → Int32 → MH → Option (Int32 × MH)) (v2 : Int32) (σ : MH) : Option (Int32 × MH) := (Reader_isEnd σ).bind fun x4 => if x4 = (0 : Int32) then ((String_indexOf_i_t1 (jc v2) σ).bind fun x7 => LawReader_readFactor_b93 rec x7 σ) else (LawReader_readFactor_b93 rec (-1 : Int32) σ)
set_option maxRecDepth 20000 in
set_option maxHeartbeats 2000000 in
theorem t_LawReader_readFactor_b75 {rec : Nat → Int32 → Int32 → MH → Option (Int32 × MH)} {dR : Nat} (hd : 9 ≤ dR) (hR : RecOK rec dR) (v2 : Int32)   (σ : MH) {o} (h : LawReader_readFactor_b75 rec v2 σ = some o) : Go m_LawReader_readFactor (dR + 1) (some 75, [some (.ref 123), none, some (.int v2), none], [], σ) ((none, [], [.int o.1], o.2)) := by
  unfold LawReader_readFactor_b75 at h
  refine Go.t (Go_sg bk_LawReader_readFactor 42 1 (c2 := (some 76, [some (.ref 123), none, some (.int v2), none], [.ref 123], σ)) (ps := []) rfl trivial) ?_
  obtain ⟨x4, q6, h⟩ := bdS h
  refine Go.t (Go_callU bk_LawReader_readFactor 43 rfl nk_Reader_isEnd (xc := "PuzzleWed$LawReader") tw619 tw620 tw623 (C := RX5) tw622 (ci := 5) rfl (as := []) (S := []) rfl rfl rfl rfl (Nat.le_of_ble_eq_true rfl) (Nat.le_trans (Nat.le_of_ble_eq_true rfl : 2 ≤ 10) (Nat.succ_le_succ hd)) (ev_Reader_isEnd _ q6)) ?_
  refine Go_if_eq bk_LawReader_readFactor 44 rfl (fun c20 => ?_) (fun c20 => ?_)
  · have h := ifT c20 h
    refine Go.t (Go_lds (by decide +kernel) (idx := 108) (k := 1) rfl) ?_
    refine Go.t (Go_sg bk_LawReader_readFactor 47 2 (c2 := (some 90, [some (.ref 123), none, some (.int v2), none], [.int (jc v2), .retAddr 1], σ)) (ps := []) rfl trivial) ?_
    obtain ⟨x7, q9, h⟩ := bdS h
    refine Go.t (Go_callR bk_LawReader_readFactor 49 rfl nk_String_indexOf_i_t1 tw632 tw633 rfl tw634 (a := 1) (as := [.int (jc v2)]) (S := []) (by decide) rfl rfl rfl (Nat.le_of_ble_eq_true rfl) (Nat.le_trans (Nat.le_of_ble_eq_true rfl : 5 ≤ 10) (Nat.succ_le_succ hd)) (ev_String_indexOf_i_t1 _ _ q9)) ?_
    exact Go.t (Go.fg (LSub.cs (LSub.cn (LSub.cn (LSub.cn (LSub.nil)))))) (t_LawReader_readFactor_b93 hd hR x7 σ h)
  · have h := ifF c20 h
    refine Go.t (Go_sg bk_LawReader_readFactor 45 2 (c2 := (some 93, [some (.ref 123), none, some (.int v2), none], [.int (-1 : Int32)], σ)) (ps := []) rfl trivial) ?_
    exact Go.t (Go.fg (LSub.cs (LSub.cn (LSub.cn (LSub.cn (LSub.nil)))))) (t_LawReader_readFactor_b93 hd hR (-1 : Int32) σ h)
def LawReader_readFactor0 (rec : Nat → Int32 → Int32 → MH → Option (Int32 × MH)) (v1 : Int32) (σ : MH) : Option (Int32 × MH) := (Reader_sign σ).bind fun x1 => if x1 = (91 : Int32) then (if v1 < (6 : Int32) then ((rec 0 (v1 + (1 : Int32)) 0 (sI σ 123 2 ((σ.1 123 2) + (1 : Int32)))).bind fun (x26, σ27) => if x26 = (0 : Int32) then some ((0 : Int32), σ27) else ((LawReader_pass (93 : Int32) σ27).bind fun (x29, σ30) => if x29 = (0 : Int32) then some ((0 : Int32), σ30) else some ((1 : Int32), σ30))) else ((Reader_fail (5 : Int32) σ).bind fun (x34, σ35) => some (x34, σ35))) else (if x1 < (48 : Int32) then (LawReader_readFactor_b75 rec x1 σ) else (if (57 : Int32) < x1 then (LawReader_readFactor_b75 rec x1 σ) else ((LawReader_readNumber σ).bind fun (x21, σ22) => some (x21, σ22))))
set_option maxRecDepth 20000 in
set_option maxHeartbeats 2000000 in
theorem t_LawReader_readFactor0 {rec : Nat → Int32 → Int32 → MH → Option (Int32 × MH)} {dR : Nat} (hd : 9 ≤ dR) (hR : RecOK rec dR) (v1 : Int32)  (σ : MH) {o} (h : LawReader_readFactor0 rec v1 σ = some o) : Go m_LawReader_readFactor (dR + 1) (some 0, [some (.ref 123), some (.int v1), none, none], [], σ) ((none, [], [.int o.1], o.2)) := by
  unfold LawReader_readFactor0 at h
  refine Go.t (Go_sg bk_LawReader_readFactor 0 1 (c2 := (some 1, [some (.ref 123), some (.int v1), none, none], [.ref 123], σ)) (ps := []) rfl trivial) ?_
  obtain ⟨x1, q3, h⟩ := bdS h
  refine Go.t (Go_callU bk_LawReader_readFactor 1 rfl nk_Reader_sign (xc := "PuzzleWed$LawReader") tw626 tw627 tw630 (C := RX5) tw629 (ci := 5) rfl (as := []) (S := []) rfl rfl rfl rfl (Nat.le_of_ble_eq_true rfl) (Nat.le_trans (Nat.le_of_ble_eq_true rfl : 2 ≤ 10) (Nat.succ_le_succ hd)) (ev_Reader_sign _ q3)) ?_
  refine Go.t (Go_sg bk_LawReader_readFactor 2 3 (c2 := (some 8, [some (.ref 123), some (.int v1), some (.int x1), none], [.int (91 : Int32), .int x1], σ)) (ps := []) rfl trivial) ?_
  refine Go_icmp_ne bk_LawReader_readFactor 5 rfl (fun c38 => ?_) (fun c38 => ?_)
  · have h := ifF c38 h
    refine Go.t (Go_sg bk_LawReader_readFactor 33 2 (c2 := (some 61, [some (.ref 123), some (.int v1), some (.int x1), none], [.int (48 : Int32), .int x1], σ)) (ps := []) rfl trivial) ?_
    refine Go_icmp_lt bk_LawReader_readFactor 35 rfl (fun c25 => ?_) (fun c25 => ?_)
    · have h := ifT c25 h
      exact Go.t (Go.fg (LSub.cs (LSub.cn (LSub.cs (LSub.cn (LSub.nil)))))) (t_LawReader_readFactor_b75 hd hR x1 σ h)
    · have h := ifF c25 h
      refine Go.t (Go_sg bk_LawReader_readFactor 36 2 (c2 := (some 67, [some (.ref 123), some (.int v1), some (.int x1), none], [.int (57 : Int32), .int x1], σ)) (ps := []) rfl trivial) ?_
      refine Go_icmp_gt bk_LawReader_readFactor 38 rfl (fun c24 => ?_) (fun c24 => ?_)
      · have h := ifT c24 h
        exact Go.t (Go.fg (LSub.cs (LSub.cn (LSub.cs (LSub.cn (LSub.nil)))))) (t_LawReader_readFactor_b75 hd hR x1 σ h)
      · have h := ifF c24 h
        refine Go.t (Go_sg bk_LawReader_readFactor 39 1 (c2 := (some 71, [some (.ref 123), some (.int v1), some (.int x1), none], [.ref 123], σ)) (ps := []) rfl trivial) ?_
        obtain ⟨⟨x21, σ22⟩, q23, h⟩ := bdS h
        dsimp only at h
        refine Go.t (Go_callV bk_LawReader_readFactor 40 rfl nk_LawReader_readNumber tw746 tw748 tw5 (ci := 5) rfl (as := []) (S := []) rfl rfl rfl rfl (Nat.le_of_ble_eq_true rfl) (Nat.le_trans (Nat.le_of_ble_eq_true rfl : 4 ≤ 10) (Nat.succ_le_succ hd)) (ev_LawReader_readNumber _ q23)) ?_
        have h := Option.some.inj h
        subst h
        exact Go_reti bk_LawReader_readFactor 41 rfl
  · have h := ifT c38 h
    refine Go.t (Go_sg bk_LawReader_readFactor 6 2 (c2 := (some 14, [some (.ref 123), some (.int v1), some (.int x1), none], [.int (6 : Int32), .int v1], σ)) (ps := []) rfl trivial) ?_
    refine Go_icmp_lt bk_LawReader_readFactor 8 rfl (fun c37 => ?_) (fun c37 => ?_)
    · have h := ifT c37 h
      refine Go.t (Go_sg bk_LawReader_readFactor 13 10 (c2 := (some 37, [some (.ref 123), some (.int v1), some (.int x1), none], [.int (v1 + (1 : Int32)), .ref 123], sI σ 123 2 ((σ.1 123 2) + (1 : Int32)))) (ps := [shk 123 = 5, shk 123 = 5]) rfl ⟨rfl, rfl, trivial⟩) ?_
      obtain ⟨⟨x26, σ27⟩, q28, h⟩ := bdS h
      dsimp only at h
      refine Go.t (Go_callV bk_LawReader_readFactor 23 rfl nk_LawReader_readSum tw730 tw732 tw1 (ci := 5) rfl (as := [.int (v1 + (1 : Int32))]) (S := []) rfl rfl rfl rfl (Nat.le_of_ble_eq_true rfl) (Nat.le_refl _) (hR.1 _ _ _ _ _ q28)) ?_
      refine Go_if_eq bk_LawReader_readFactor 24 rfl (fun c33 => ?_) (fun c33 => ?_)
      · have h := ifT c33 h
        have h := Option.some.inj h
        subst h
        refine Go.t (Go_sg bk_LawReader_readFactor 31 1 (c2 := (some 57, [some (.ref 123), some (.int v1), some (.int x1), none], [.int (0 : Int32)], σ27)) (ps := []) rfl trivial) ?_
        exact Go_reti bk_LawReader_readFactor 32 rfl
      · have h := ifF c33 h
        refine Go.t (Go_sg bk_LawReader_readFactor 25 2 (c2 := (some 46, [some (.ref 123), some (.int v1), some (.int x1), none], [.int (93 : Int32), .ref 123], σ27)) (ps := []) rfl trivial) ?_
        obtain ⟨⟨x29, σ30⟩, q31, h⟩ := bdS h
        dsimp only at h
        refine Go.t (Go_callV bk_LawReader_readFactor 27 rfl nk_LawReader_pass tw742 tw744 tw4 (ci := 5) rfl (as := [.int (93 : Int32)]) (S := []) rfl rfl rfl rfl (Nat.le_of_ble_eq_true rfl) (Nat.le_trans (Nat.le_of_ble_eq_true rfl : 4 ≤ 10) (Nat.succ_le_succ hd)) (ev_LawReader_pass _ _ q31)) ?_
        refine Go_if_eq bk_LawReader_readFactor 28 rfl (fun c32 => ?_) (fun c32 => ?_)
        · have h := ifT c32 h
          have h := Option.some.inj h
          subst h
          refine Go.t (Go_sg bk_LawReader_readFactor 31 1 (c2 := (some 57, [some (.ref 123), some (.int v1), some (.int x1), none], [.int (0 : Int32)], σ30)) (ps := []) rfl trivial) ?_
          exact Go_reti bk_LawReader_readFactor 32 rfl
        · have h := ifF c32 h
          refine Go.t (Go_sg bk_LawReader_readFactor 29 2 (c2 := (some 57, [some (.ref 123), some (.int v1), some (.int x1), none], [.int (1 : Int32)], σ30)) (ps := []) rfl trivial) ?_
          have h := Option.some.inj h
          subst h
          exact Go_reti bk_LawReader_readFactor 32 rfl
    · have h := ifF c37 h
      refine Go.t (Go_sg bk_LawReader_readFactor 9 2 (c2 := (some 19, [some (.ref 123), some (.int v1), some (.int x1), none], [.int (5 : Int32), .ref 123], σ)) (ps := []) rfl trivial) ?_
      obtain ⟨⟨x34, σ35⟩, q36, h⟩ := bdS h
      dsimp only at h
      refine Go.t (Go_callU bk_LawReader_readFactor 11 rfl nk_Reader_fail (xc := "PuzzleWed$LawReader") tw718 tw719 tw722 (C := RX5) tw721 (ci := 5) rfl (as := [.int (5 : Int32)]) (S := []) rfl rfl rfl rfl (Nat.le_of_ble_eq_true rfl) (Nat.le_trans (Nat.le_of_ble_eq_true rfl : 3 ≤ 10) (Nat.succ_le_succ hd)) (ev_Reader_fail _ _ q36)) ?_
      have h := Option.some.inj h
      subst h
      exact Go_reti bk_LawReader_readFactor 12 rfl
def LawReader_readFactor (rec : Nat → Int32 → Int32 → MH → Option (Int32 × MH)) (v1 : Int32) (σ : MH) : Option (Int32 × MH) := bzo (LawReader_readFactor0 rec v1 σ)
set_option maxRecDepth 20000 in
set_option maxHeartbeats 2000000 in
theorem ev_LawReader_readFactor {rec : Nat → Int32 → Int32 → MH → Option (Int32 × MH)} {dR : Nat} (hd : 9 ≤ dR) (hR : RecOK rec dR) (v1 : Int32)  (σ : MH) {o} (h : LawReader_readFactor rec v1 σ = some o) : Ev m_LawReader_readFactor (dR + 1) [.ref 123, .int v1] σ (some (.int o.1)) o.2 := Ev.of2 (by decide +kernel) rfl (Nat.le_of_ble_eq_true rfl) ⟨.boolean, rfl, nrB (bzo2 h)⟩ (t_LawReader_readFactor0 hd hR v1 σ (bzo1 h))
def cH_LawReader_readEither_4 (v1 : Int32) (s : Int32 × Int32 × MH) : MC := (some 4, [some (.ref 123), some (.int v1), some (.int s.1), some (.int s.2.1)], [], s.2.2)
def cR_LawReader_readEither_4 (v1 : Int32) : ((Int32 × MH) ⊕ (Int32 × MH) ⊕ (Int32 × MH)) → MC := (cS (fun r : Int32 × MH => ((some 58, [some (.ref 123), none, some (.int r.1), none], [], r.2) : MC)) (cS (fun r : Int32 × MH => ((some 31, [some (.ref 123), none, some (.int r.1), none], [], r.2) : MC)) (fun r : Int32 × MH => ((none, [], [.int r.1], r.2) : MC))))
def LawReader_readEither_l4 (rec : Nat → Int32 → Int32 → MH → Option (Int32 × MH)) (v1 : Int32) (v2 : Int32) (v3 : Int32) (σ : MH) : Option (((Int32 × Int32 × MH) ⊕ ((Int32 × MH) ⊕ (Int32 × MH) ⊕ (Int32 × MH)))) := if σ.1 123 1 < v3 then some (.inr (.inl (v2, σ))) else ((rec 4 v1 0 σ).bind fun (x1, σ2) => if x1 = (0 : Int32) then some (.inr (.inr (.inr ((0 : Int32), σ2)))) else ((Reader_sign σ2).bind fun x4 => if x4 = (124 : Int32) then ((LawReader_emitJump (124 : Int32) v2 σ2).bind fun (x7, σ8) => some (.inl (x7, v3 + (1 : Int32), sI σ8 123 2 ((σ8.1 123 2) + (1 : Int32))))) else some (.inr (.inr (.inl (v2, σ2))))))
set_option maxRecDepth 20000 in
set_option maxHeartbeats 2000000 in
theorem t_LawReader_readEither_l4 {rec : Nat → Int32 → Int32 → MH → Option (Int32 × MH)} {dR : Nat} (hd : 9 ≤ dR) (hR : RecOK rec dR) (v1 : Int32) (v2 : Int32) (v3 : Int32)  (σ : MH) {o} (h : LawReader_readEither_l4 rec v1 v2 v3 σ = some o) : Go m_LawReader_readEither (dR + 1) (cH_LawReader_readEither_4 v1 (v2, v3, σ)) (cS (cH_LawReader_readEither_4 v1) (cR_LawReader_readEither_4 v1) o) := by
  unfold LawReader_readEither_l4 at h
  unfold cH_LawReader_readEither_4
  refine Go.t (Go_sg bk_LawReader_readEither 4 3 (c2 := (some 9, [some (.ref 123), some (.int v1), some (.int v2), some (.int v3)], [.int (σ.1 123 1), .int v3], σ)) (ps := [shk 123 = 5]) rfl ⟨rfl, trivial⟩) ?_
  refine Go_icmp_gt bk_LawReader_readEither 7 rfl (fun c12 => ?_) (fun c12 => ?_)
  · have h := ifT c12 h
    have h := Option.some.inj h
    subst h
    exact Go.fg (LSub.cs (LSub.cn (LSub.cs (LSub.cn (LSub.nil)))))
  · have h := ifF c12 h
    refine Go.t (Go_sg bk_LawReader_readEither 8 2 (c2 := (some 14, [some (.ref 123), some (.int v1), some (.int v2), some (.int v3)], [.int v1, .ref 123], σ)) (ps := []) rfl trivial) ?_
    obtain ⟨⟨x1, σ2⟩, q3, h⟩ := bdS h
    dsimp only at h
    refine Go.t (Go_callV bk_LawReader_readEither 10 rfl nk_LawReader_readBoth tw759 tw761 tw7 (ci := 5) rfl (as := [.int v1]) (S := []) rfl rfl rfl rfl (Nat.le_of_ble_eq_true rfl) (Nat.le_refl _) (hR.2.2.2.2.1 _ _ _ _ _ q3)) ?_
    refine Go_if_ne bk_LawReader_readEither 11 rfl (fun c11 => ?_) (fun c11 => ?_)
    · have h := ifF c11 h
      refine Go.t (Go_sg bk_LawReader_readEither 14 1 (c2 := (some 23, [some (.ref 123), some (.int v1), some (.int v2), some (.int v3)], [.ref 123], σ2)) (ps := []) rfl trivial) ?_
      obtain ⟨x4, q6, h⟩ := bdS h
      refine Go.t (Go_callU bk_LawReader_readEither 15 rfl nk_Reader_sign (xc := "PuzzleWed$LawReader") tw626 tw627 tw630 (C := RX5) tw629 (ci := 5) rfl (as := []) (S := []) rfl rfl rfl rfl (Nat.le_of_ble_eq_true rfl) (Nat.le_trans (Nat.le_of_ble_eq_true rfl : 2 ≤ 10) (Nat.succ_le_succ hd)) (ev_Reader_sign _ q6)) ?_
      refine Go.t (Go_sg bk_LawReader_readEither 16 1 (c2 := (some 28, [some (.ref 123), some (.int v1), some (.int v2), some (.int v3)], [.int (124 : Int32), .int x4], σ2)) (ps := []) rfl trivial) ?_
      refine Go_icmp_eq bk_LawReader_readEither 17 rfl (fun c10 => ?_) (fun c10 => ?_)
      · have h := ifT c10 h
        refine Go.t (Go_sg bk_LawReader_readEither 19 3 (c2 := (some 38, [some (.ref 123), some (.int v1), some (.int v2), some (.int v3)], [.int v2, .int (124 : Int32), .ref 123], σ2)) (ps := []) rfl trivial) ?_
        obtain ⟨⟨x7, σ8⟩, q9, h⟩ := bdS h
        dsimp only at h
        refine Go.t (Go_callV bk_LawReader_readEither 22 rfl nk_LawReader_emitJump tw771 tw773 tw10 (ci := 5) rfl (as := [.int (124 : Int32), .int v2]) (S := []) rfl rfl rfl rfl (Nat.le_of_ble_eq_true rfl) (Nat.le_trans (Nat.le_of_ble_eq_true rfl : 3 ≤ 10) (Nat.succ_le_succ hd)) (ev_LawReader_emitJump _ _ _ q9)) ?_
        refine Go.t (Go_sg bk_LawReader_readEither 23 9 (c2 := (some 4, [some (.ref 123), some (.int v1), some (.int x7), some (.int (v3 + (1 : Int32)))], [], sI σ8 123 2 ((σ8.1 123 2) + (1 : Int32)))) (ps := [shk 123 = 5, shk 123 = 5]) rfl ⟨rfl, rfl, trivial⟩) ?_
        have h := Option.some.inj h
        subst h
        exact Go.fg (LSub.cs (LSub.cs (LSub.cs (LSub.cs (LSub.nil)))))
      · have h := ifF c10 h
        have h := Option.some.inj h
        subst h
        exact Go.fg (LSub.cs (LSub.cn (LSub.cs (LSub.cn (LSub.nil)))))
    · have h := ifT c11 h
      have h := Option.some.inj h
      subst h
      refine Go.t (Go_sg bk_LawReader_readEither 12 1 (c2 := (some 21, [some (.ref 123), some (.int v1), some (.int v2), some (.int v3)], [.int (0 : Int32)], σ2)) (ps := []) rfl trivial) ?_
      exact Go_reti bk_LawReader_readEither 13 rfl
def LawReader_readEither_L4 (rec : Nat → Int32 → Int32 → MH → Option (Int32 × MH)) (v1 : Int32) (s : Int32 × Int32 × MH) : Option ((Int32 × MH) ⊕ (Int32 × MH) ⊕ (Int32 × MH)) := itr (fun s : Int32 × Int32 × MH => LawReader_readEither_l4 rec v1 s.1 s.2.1 s.2.2) FU s
set_option maxRecDepth 20000 in
set_option maxHeartbeats 2000000 in
theorem t_LawReader_readEither_L4 {rec : Nat → Int32 → Int32 → MH → Option (Int32 × MH)} {dR : Nat} (hd : 9 ≤ dR) (hR : RecOK rec dR) (v1 : Int32)  (s : Int32 × Int32 × MH) {r} (h : LawReader_readEither_L4 rec v1 s = some r) : Go m_LawReader_readEither (dR + 1) (cH_LawReader_readEither_4 v1 s) (cR_LawReader_readEither_4 v1 r) := Go_itr (fun s o ho => t_LawReader_readEither_l4 hd hR v1 s.1 s.2.1 s.2.2 ho) FU s r h
def LawReader_readEither_b58 (rec : Nat → Int32 → Int32 → MH → Option (Int32 × MH)) (v2 : Int32) (σ : MH) : Option (Int32 × MH) := (LawReader_land v2 σ).bind fun σ16 => some ((1 : Int32), σ16)
set_option maxRecDepth 20000 in
set_option maxHeartbeats 2000000 in
theorem t_LawReader_readEither_b58 {rec : Nat → Int32 → Int32 → MH → Option (Int32 × MH)} {dR : Nat} (hd : 9 ≤ dR) (hR : RecOK rec dR) (v2 : Int32)   (σ : MH) {o} (h : LawReader_readEither_b58 rec v2 σ = some o) : Go m_LawReader_readEither (dR + 1) (some 58, [some (.ref 123), none, some (.int v2), none], [], σ) ((none, [], [.int o.1], o.2)) := by
  unfold LawReader_readEither_b58 at h
  refine Go.t (Go_sg bk_LawReader_readEither 32 2 (c2 := (some 60, [some (.ref 123), none, some (.int v2), none], [.int v2, .ref 123], σ)) (ps := []) rfl trivial) ?_
  obtain ⟨σ16, q17, h⟩ := bdS h
  refine Go.t (Go_callV bk_LawReader_readEither 34 rfl nk_LawReader_land tw775 tw777 tw11 (ci := 5) rfl (as := [.int v2]) (S := []) rfl rfl rfl rfl (Nat.le_of_ble_eq_true rfl) (Nat.le_trans (Nat.le_of_ble_eq_true rfl : 2 ≤ 10) (Nat.succ_le_succ hd)) (ev_LawReader_land _ _ q17)) ?_
  have h := Option.some.inj h
  subst h
  refine Go.t (Go_sg bk_LawReader_readEither 35 1 (c2 := (some 64, [some (.ref 123), none, some (.int v2), none], [.int (1 : Int32)], σ16)) (ps := []) rfl trivial) ?_
  exact Go_reti bk_LawReader_readEither 36 rfl
def LawReader_readEither0 (rec : Nat → Int32 → Int32 → MH → Option (Int32 × MH)) (v1 : Int32) (σ : MH) : Option (Int32 × MH) := (LawReader_readEither_L4 rec v1 ((-1 : Int32), (0 : Int32), σ)).bind fun z13 => (match z13 with | .inl z13a => LawReader_readEither_b58 rec z13a.1 z13a.2 | .inr z13r => (match z13r with | .inl z13b => LawReader_readEither_b58 rec z13b.1 z13b.2 | .inr z13c => some (z13c.1, z13c.2)))
set_option maxRecDepth 20000 in
set_option maxHeartbeats 2000000 in
theorem t_LawReader_readEither0 {rec : Nat → Int32 → Int32 → MH → Option (Int32 × MH)} {dR : Nat} (hd : 9 ≤ dR) (hR : RecOK rec dR) (v1 : Int32)  (σ : MH) {o} (h : LawReader_readEither0 rec v1 σ = some o) : Go m_LawReader_readEither (dR + 1) (some 0, [some (.ref 123), some (.int v1), none, none], [], σ) ((none, [], [.int o.1], o.2)) := by
  unfold LawReader_readEither0 at h
  refine Go.t (Go_sg bk_LawReader_readEither 0 4 (c2 := (some 4, [some (.ref 123), some (.int v1), some (.int (-1 : Int32)), some (.int (0 : Int32))], [], σ)) (ps := []) rfl trivial) ?_
  obtain ⟨z13, q14, h⟩ := bdS h
  refine Go.t (Go.t (Go.fg (LSub.cs (LSub.cs (LSub.cs (LSub.cs (LSub.nil)))))) (t_LawReader_readEither_L4 hd hR v1 _ q14)) ?_
  rcases z13 with z13a | z13r
  · dsimp only at h
    exact Go.t (Go.fg (LSub.cs (LSub.cn (LSub.cs (LSub.cn (LSub.nil)))))) (t_LawReader_readEither_b58 hd hR z13a.1 z13a.2 h)
  · dsimp only at h
    rcases z13r with z13b | z13c
    · dsimp only at h
      refine Go.t (Go_sg bk_LawReader_readEither 18 1 (c2 := (some 58, [some (.ref 123), none, some (.int z13b.1), none], [], z13b.2)) (ps := []) rfl trivial) ?_
      exact Go.t (Go.fg (LSub.cs (LSub.cn (LSub.cs (LSub.cn (LSub.nil)))))) (t_LawReader_readEither_b58 hd hR z13b.1 z13b.2 h)
    · dsimp only at h
      have h := Option.some.inj h
      subst h
      exact Go.rf
def LawReader_readEither (rec : Nat → Int32 → Int32 → MH → Option (Int32 × MH)) (v1 : Int32) (σ : MH) : Option (Int32 × MH) := bzo (LawReader_readEither0 rec v1 σ)
set_option maxRecDepth 20000 in
set_option maxHeartbeats 2000000 in
theorem ev_LawReader_readEither {rec : Nat → Int32 → Int32 → MH → Option (Int32 × MH)} {dR : Nat} (hd : 9 ≤ dR) (hR : RecOK rec dR) (v1 : Int32)  (σ : MH) {o} (h : LawReader_readEither rec v1 σ = some o) : Ev m_LawReader_readEither (dR + 1) [.ref 123, .int v1] σ (some (.int o.1)) o.2 := Ev.of2 (by decide +kernel) rfl (Nat.le_of_ble_eq_true rfl) ⟨.boolean, rfl, nrB (bzo2 h)⟩ (t_LawReader_readEither0 hd hR v1 σ (bzo1 h))
def cH_LawReader_readBoth_4 (v1 : Int32) (s : Int32 × Int32 × MH) : MC := (some 4, [some (.ref 123), some (.int v1), some (.int s.1), some (.int s.2.1)], [], s.2.2)
def cR_LawReader_readBoth_4 (v1 : Int32) : ((Int32 × MH) ⊕ (Int32 × MH) ⊕ (Int32 × MH)) → MC := (cS (fun r : Int32 × MH => ((some 58, [some (.ref 123), none, some (.int r.1), none], [], r.2) : MC)) (cS (fun r : Int32 × MH => ((some 31, [some (.ref 123), none, some (.int r.1), none], [], r.2) : MC)) (fun r : Int32 × MH => ((none, [], [.int r.1], r.2) : MC))))
def LawReader_readBoth_l4 (rec : Nat → Int32 → Int32 → MH → Option (Int32 × MH)) (v1 : Int32) (v2 : Int32) (v3 : Int32) (σ : MH) : Option (((Int32 × Int32 × MH) ⊕ ((Int32 × MH) ⊕ (Int32 × MH) ⊕ (Int32 × MH)))) := if σ.1 123 1 < v3 then some (.inr (.inl (v2, σ))) else ((rec 5 v1 0 σ).bind fun (x1, σ2) => if x1 = (0 : Int32) then some (.inr (.inr (.inr ((0 : Int32), σ2)))) else ((Reader_sign σ2).bind fun x4 => if x4 = (38 : Int32) then ((LawReader_emitJump (38 : Int32) v2 σ2).bind fun (x7, σ8) => some (.inl (x7, v3 + (1 : Int32), sI σ8 123 2 ((σ8.1 123 2) + (1 : Int32))))) else some (.inr (.inr (.inl (v2, σ2))))))
set_option maxRecDepth 20000 in
set_option maxHeartbeats 2000000 in
theorem t_LawReader_readBoth_l4 {rec : Nat → Int32 → Int32 → MH → Option (Int32 × MH)} {dR : Nat} (hd : 9 ≤ dR) (hR : RecOK rec dR) (v1 : Int32) (v2 : Int32) (v3 : Int32)  (σ : MH) {o} (h : LawReader_readBoth_l4 rec v1 v2 v3 σ = some o) : Go m_LawReader_readBoth (dR + 1) (cH_LawReader_readBoth_4 v1 (v2, v3, σ)) (cS (cH_LawReader_readBoth_4 v1) (cR_LawReader_readBoth_4 v1) o) := by
  unfold LawReader_readBoth_l4 at h
  unfold cH_LawReader_readBoth_4
  refine Go.t (Go_sg bk_LawReader_readBoth 4 3 (c2 := (some 9, [some (.ref 123), some (.int v1), some (.int v2), some (.int v3)], [.int (σ.1 123 1), .int v3], σ)) (ps := [shk 123 = 5]) rfl ⟨rfl, trivial⟩) ?_
  refine Go_icmp_gt bk_LawReader_readBoth 7 rfl (fun c12 => ?_) (fun c12 => ?_)
  · have h := ifT c12 h
    have h := Option.some.inj h
    subst h
    exact Go.fg (LSub.cs (LSub.cn (LSub.cs (LSub.cn (LSub.nil)))))
  · have h := ifF c12 h
    refine Go.t (Go_sg bk_LawReader_readBoth 8 2 (c2 := (some 14, [some (.ref 123), some (.int v1), some (.int v2), some (.int v3)], [.int v1, .ref 123], σ)) (ps := []) rfl trivial) ?_
    obtain ⟨⟨x1, σ2⟩, q3, h⟩ := bdS h
    dsimp only at h
    refine Go.t (Go_callV bk_LawReader_readBoth 10 rfl nk_LawReader_readTest tw763 tw765 tw8 (ci := 5) rfl (as := [.int v1]) (S := []) rfl rfl rfl rfl (Nat.le_of_ble_eq_true rfl) (Nat.le_refl _) (hR.2.2.2.2.2.1 _ _ _ _ _ q3)) ?_
    refine Go_if_ne bk_LawReader_readBoth 11 rfl (fun c11 => ?_) (fun c11 => ?_)
    · have h := ifF c11 h
      refine Go.t (Go_sg bk_LawReader_readBoth 14 1 (c2 := (some 23, [some (.ref 123), some (.int v1), some (.int v2), some (.int v3)], [.ref 123], σ2)) (ps := []) rfl trivial) ?_
      obtain ⟨x4, q6, h⟩ := bdS h
      refine Go.t (Go_callU bk_LawReader_readBoth 15 rfl nk_Reader_sign (xc := "PuzzleWed$LawReader") tw626 tw627 tw630 (C := RX5) tw629 (ci := 5) rfl (as := []) (S := []) rfl rfl rfl rfl (Nat.le_of_ble_eq_true rfl) (Nat.le_trans (Nat.le_of_ble_eq_true rfl : 2 ≤ 10) (Nat.succ_le_succ hd)) (ev_Reader_sign _ q6)) ?_
      refine Go.t (Go_sg bk_LawReader_readBoth 16 1 (c2 := (some 28, [some (.ref 123), some (.int v1), some (.int v2), some (.int v3)], [.int (38 : Int32), .int x4], σ2)) (ps := []) rfl trivial) ?_
      refine Go_icmp_eq bk_LawReader_readBoth 17 rfl (fun c10 => ?_) (fun c10 => ?_)
      · have h := ifT c10 h
        refine Go.t (Go_sg bk_LawReader_readBoth 19 3 (c2 := (some 38, [some (.ref 123), some (.int v1), some (.int v2), some (.int v3)], [.int v2, .int (38 : Int32), .ref 123], σ2)) (ps := []) rfl trivial) ?_
        obtain ⟨⟨x7, σ8⟩, q9, h⟩ := bdS h
        dsimp only at h
        refine Go.t (Go_callV bk_LawReader_readBoth 22 rfl nk_LawReader_emitJump tw771 tw773 tw10 (ci := 5) rfl (as := [.int (38 : Int32), .int v2]) (S := []) rfl rfl rfl rfl (Nat.le_of_ble_eq_true rfl) (Nat.le_trans (Nat.le_of_ble_eq_true rfl : 3 ≤ 10) (Nat.succ_le_succ hd)) (ev_LawReader_emitJump _ _ _ q9)) ?_
        refine Go.t (Go_sg bk_LawReader_readBoth 23 9 (c2 := (some 4, [some (.ref 123), some (.int v1), some (.int x7), some (.int (v3 + (1 : Int32)))], [], sI σ8 123 2 ((σ8.1 123 2) + (1 : Int32)))) (ps := [shk 123 = 5, shk 123 = 5]) rfl ⟨rfl, rfl, trivial⟩) ?_
        have h := Option.some.inj h
        subst h
        exact Go.fg (LSub.cs (LSub.cs (LSub.cs (LSub.cs (LSub.nil)))))
      · have h := ifF c10 h
        have h := Option.some.inj h
        subst h
        exact Go.fg (LSub.cs (LSub.cn (LSub.cs (LSub.cn (LSub.nil)))))
    · have h := ifT c11 h
      have h := Option.some.inj h
      subst h
      refine Go.t (Go_sg bk_LawReader_readBoth 12 1 (c2 := (some 21, [some (.ref 123), some (.int v1), some (.int v2), some (.int v3)], [.int (0 : Int32)], σ2)) (ps := []) rfl trivial) ?_
      exact Go_reti bk_LawReader_readBoth 13 rfl
def LawReader_readBoth_L4 (rec : Nat → Int32 → Int32 → MH → Option (Int32 × MH)) (v1 : Int32) (s : Int32 × Int32 × MH) : Option ((Int32 × MH) ⊕ (Int32 × MH) ⊕ (Int32 × MH)) := itr (fun s : Int32 × Int32 × MH => LawReader_readBoth_l4 rec v1 s.1 s.2.1 s.2.2) FU s
set_option maxRecDepth 20000 in
set_option maxHeartbeats 2000000 in
theorem t_LawReader_readBoth_L4 {rec : Nat → Int32 → Int32 → MH → Option (Int32 × MH)} {dR : Nat} (hd : 9 ≤ dR) (hR : RecOK rec dR) (v1 : Int32)  (s : Int32 × Int32 × MH) {r} (h : LawReader_readBoth_L4 rec v1 s = some r) : Go m_LawReader_readBoth (dR + 1) (cH_LawReader_readBoth_4 v1 s) (cR_LawReader_readBoth_4 v1 r) := Go_itr (fun s o ho => t_LawReader_readBoth_l4 hd hR v1 s.1 s.2.1 s.2.2 ho) FU s r h
def LawReader_readBoth_b58 (rec : Nat → Int32 → Int32 → MH → Option (Int32 × MH)) (v2 : Int32) (σ : MH) : Option (Int32 × MH) := (LawReader_land v2 σ).bind fun σ16 => some ((1 : Int32), σ16)
set_option maxRecDepth 20000 in
set_option maxHeartbeats 2000000 in
theorem t_LawReader_readBoth_b58 {rec : Nat → Int32 → Int32 → MH → Option (Int32 × MH)} {dR : Nat} (hd : 9 ≤ dR) (hR : RecOK rec dR) (v2 : Int32)   (σ : MH) {o} (h : LawReader_readBoth_b58 rec v2 σ = some o) : Go m_LawReader_readBoth (dR + 1) (some 58, [some (.ref 123), none, some (.int v2), none], [], σ) ((none, [], [.int o.1], o.2)) := by
  unfold LawReader_readBoth_b58 at h
  refine Go.t (Go_sg bk_LawReader_readBoth 32 2 (c2 := (some 60, [some (.ref 123), none, some (.int v2), none], [.int v2, .ref 123], σ)) (ps := []) rfl trivial) ?_
  obtain ⟨σ16, q17, h⟩ := bdS h
  refine Go.t (Go_callV bk_LawReader_readBoth 34 rfl nk_LawReader_land tw775 tw777 tw11 (ci := 5) rfl (as := [.int v2]) (S := []) rfl rfl rfl rfl (Nat.le_of_ble_eq_true rfl) (Nat.le_trans (Nat.le_of_ble_eq_true rfl : 2 ≤ 10) (Nat.succ_le_succ hd)) (ev_LawReader_land _ _ q17)) ?_
  have h := Option.some.inj h
  subst h
  refine Go.t (Go_sg bk_LawReader_readBoth 35 1 (c2 := (some 64, [some (.ref 123), none, some (.int v2), none], [.int (1 : Int32)], σ16)) (ps := []) rfl trivial) ?_
  exact Go_reti bk_LawReader_readBoth 36 rfl
def LawReader_readBoth0 (rec : Nat → Int32 → Int32 → MH → Option (Int32 × MH)) (v1 : Int32) (σ : MH) : Option (Int32 × MH) := (LawReader_readBoth_L4 rec v1 ((-1 : Int32), (0 : Int32), σ)).bind fun z13 => (match z13 with | .inl z13a => LawReader_readBoth_b58 rec z13a.1 z13a.2 | .inr z13r => (match z13r with | .inl z13b => LawReader_readBoth_b58 rec z13b.1 z13b.2 | .inr z13c => some (z13c.1, z13c.2)))
set_option maxRecDepth 20000 in
set_option maxHeartbeats 2000000 in
theorem t_LawReader_readBoth0 {rec : Nat → Int32 → Int32 → MH → Option (Int32 × MH)} {dR : Nat} (hd : 9 ≤ dR) (hR : RecOK rec dR) (v1 : Int32)  (σ : MH) {o} (h : LawReader_readBoth0 rec v1 σ = some o) : Go m_LawReader_readBoth (dR + 1) (some 0, [some (.ref 123), some (.int v1), none, none], [], σ) ((none, [], [.int o.1], o.2)) := by
  unfold LawReader_readBoth0 at h
  refine Go.t (Go_sg bk_LawReader_readBoth 0 4 (c2 := (some 4, [some (.ref 123), some (.int v1), some (.int (-1 : Int32)), some (.int (0 : Int32))], [], σ)) (ps := []) rfl trivial) ?_
  obtain ⟨z13, q14, h⟩ := bdS h
  refine Go.t (Go.t (Go.fg (LSub.cs (LSub.cs (LSub.cs (LSub.cs (LSub.nil)))))) (t_LawReader_readBoth_L4 hd hR v1 _ q14)) ?_
  rcases z13 with z13a | z13r
  · dsimp only at h
    exact Go.t (Go.fg (LSub.cs (LSub.cn (LSub.cs (LSub.cn (LSub.nil)))))) (t_LawReader_readBoth_b58 hd hR z13a.1 z13a.2 h)
  · dsimp only at h
    rcases z13r with z13b | z13c
    · dsimp only at h
      refine Go.t (Go_sg bk_LawReader_readBoth 18 1 (c2 := (some 58, [some (.ref 123), none, some (.int z13b.1), none], [], z13b.2)) (ps := []) rfl trivial) ?_
      exact Go.t (Go.fg (LSub.cs (LSub.cn (LSub.cs (LSub.cn (LSub.nil)))))) (t_LawReader_readBoth_b58 hd hR z13b.1 z13b.2 h)
    · dsimp only at h
      have h := Option.some.inj h
      subst h
      exact Go.rf
def LawReader_readBoth (rec : Nat → Int32 → Int32 → MH → Option (Int32 × MH)) (v1 : Int32) (σ : MH) : Option (Int32 × MH) := bzo (LawReader_readBoth0 rec v1 σ)
set_option maxRecDepth 20000 in
set_option maxHeartbeats 2000000 in
theorem ev_LawReader_readBoth {rec : Nat → Int32 → Int32 → MH → Option (Int32 × MH)} {dR : Nat} (hd : 9 ≤ dR) (hR : RecOK rec dR) (v1 : Int32)  (σ : MH) {o} (h : LawReader_readBoth rec v1 σ = some o) : Ev m_LawReader_readBoth (dR + 1) [.ref 123, .int v1] σ (some (.int o.1)) o.2 := Ev.of2 (by decide +kernel) rfl (Nat.le_of_ble_eq_true rfl) ⟨.boolean, rfl, nrB (bzo2 h)⟩ (t_LawReader_readBoth0 hd hR v1 σ (bzo1 h))
def LawReader_readTest_b17 (rec : Nat → Int32 → Int32 → MH → Option (Int32 × MH)) (v1 : Int32) (v2 : Int32) (σ : MH) : Option (Int32 × MH) := (rec 6 v2 v1 σ).bind fun (x4, σ5) => some (x4, σ5)
set_option maxRecDepth 20000 in
set_option maxHeartbeats 2000000 in
theorem t_LawReader_readTest_b17 {rec : Nat → Int32 → Int32 → MH → Option (Int32 × MH)} {dR : Nat} (hd : 9 ≤ dR) (hR : RecOK rec dR) (v1 : Int32) (v2 : Int32)   (σ : MH) {o} (h : LawReader_readTest_b17 rec v1 v2 σ = some o) : Go m_LawReader_readTest (dR + 1) (some 17, [some (.ref 123), some (.int v1), some (.int v2), none], [], σ) ((none, [], [.int o.1], o.2)) := by
  unfold LawReader_readTest_b17 at h
  refine Go.t (Go_sg bk_LawReader_readTest 9 3 (c2 := (some 20, [some (.ref 123), some (.int v1), some (.int v2), none], [.int v1, .int v2, .ref 123], σ)) (ps := []) rfl trivial) ?_
  obtain ⟨⟨x4, σ5⟩, q6, h⟩ := bdS h
  dsimp only at h
  refine Go.t (Go_callV bk_LawReader_readTest 12 rfl nk_LawReader_readInner tw767 tw769 tw9 (ci := 5) rfl (as := [.int v2, .int v1]) (S := []) rfl rfl rfl rfl (Nat.le_of_ble_eq_true rfl) (Nat.le_refl _) (hR.2.2.2.2.2.2 _ _ _ _ _ q6)) ?_
  have h := Option.some.inj h
  subst h
  exact Go_reti bk_LawReader_readTest 13 rfl
def LawReader_readTest_b63 (rec : Nat → Int32 → Int32 → MH → Option (Int32 × MH)) (v1 : Int32) (v3 : Int32) (σ : MH) : Option (Int32 × MH) := (rec 0 v1 0 (sI σ 123 2 ((σ.1 123 2) + (1 : Int32)))).bind fun (x13, σ14) => if x13 = (0 : Int32) then some ((0 : Int32), σ14) else ((Law_emit v3 σ14).bind fun σ17 => some ((1 : Int32), σ17))
set_option maxRecDepth 20000 in
set_option maxHeartbeats 2000000 in
theorem t_LawReader_readTest_b63 {rec : Nat → Int32 → Int32 → MH → Option (Int32 × MH)} {dR : Nat} (hd : 9 ≤ dR) (hR : RecOK rec dR) (v1 : Int32) (v3 : Int32)   (σ : MH) {o} (h : LawReader_readTest_b63 rec v1 v3 σ = some o) : Go m_LawReader_readTest (dR + 1) (some 63, [some (.ref 123), some (.int v1), none, some (.int v3)], [], σ) ((none, [], [.int o.1], o.2)) := by
  unfold LawReader_readTest_b63 at h
  refine Go.t (Go_sg bk_LawReader_readTest 36 8 (c2 := (some 75, [some (.ref 123), some (.int v1), none, some (.int v3)], [.int v1, .ref 123], sI σ 123 2 ((σ.1 123 2) + (1 : Int32)))) (ps := [shk 123 = 5, shk 123 = 5]) rfl ⟨rfl, rfl, trivial⟩) ?_
  obtain ⟨⟨x13, σ14⟩, q15, h⟩ := bdS h
  dsimp only at h
  refine Go.t (Go_callV bk_LawReader_readTest 44 rfl nk_LawReader_readSum tw730 tw732 tw1 (ci := 5) rfl (as := [.int v1]) (S := []) rfl rfl rfl rfl (Nat.le_of_ble_eq_true rfl) (Nat.le_refl _) (hR.1 _ _ _ _ _ q15)) ?_
  refine Go_if_ne bk_LawReader_readTest 45 rfl (fun c19 => ?_) (fun c19 => ?_)
  · have h := ifF c19 h
    refine Go.t (Go_sg bk_LawReader_readTest 48 3 (c2 := (some 88, [some (.ref 123), some (.int v1), none, some (.int v3)], [.int v3, .ref 117], σ14)) (ps := [shk 123 = 5]) rfl ⟨rfl, trivial⟩) ?_
    obtain ⟨σ17, q18, h⟩ := bdS h
    refine Go.t (Go_callV bk_LawReader_readTest 51 rfl nk_Law_emit tw750 tw751 tw752 (ci := 4) rfl (as := [.int v3]) (S := []) rfl rfl rfl rfl (Nat.le_of_ble_eq_true rfl) (Nat.le_trans (Nat.le_of_ble_eq_true rfl : 2 ≤ 10) (Nat.succ_le_succ hd)) (ev_Law_emit _ _ q18)) ?_
    have h := Option.some.inj h
    subst h
    refine Go.t (Go_sg bk_LawReader_readTest 52 1 (c2 := (some 92, [some (.ref 123), some (.int v1), none, some (.int v3)], [.int (1 : Int32)], σ17)) (ps := []) rfl trivial) ?_
    exact Go_reti bk_LawReader_readTest 53 rfl
  · have h := ifT c19 h
    have h := Option.some.inj h
    subst h
    refine Go.t (Go_sg bk_LawReader_readTest 46 1 (c2 := (some 82, [some (.ref 123), some (.int v1), none, some (.int v3)], [.int (0 : Int32)], σ14)) (ps := []) rfl trivial) ?_
    exact Go_reti bk_LawReader_readTest 47 rfl
def LawReader_readTest0 (rec : Nat → Int32 → Int32 → MH → Option (Int32 × MH)) (v1 : Int32) (σ : MH) : Option (Int32 × MH) := (Reader_sign σ).bind fun x1 => if x1 = (33 : Int32) then (LawReader_readTest_b17 rec v1 x1 σ) else (if x1 = (40 : Int32) then (LawReader_readTest_b17 rec v1 x1 σ) else ((rec 0 v1 0 σ).bind fun (x7, σ8) => if x7 = (0 : Int32) then some ((0 : Int32), σ8) else ((Reader_sign σ8).bind fun x10 => if x10 = (60 : Int32) then (LawReader_readTest_b63 rec v1 x10 σ8) else (if x10 = (62 : Int32) then (LawReader_readTest_b63 rec v1 x10 σ8) else (if x10 = (61 : Int32) then (LawReader_readTest_b63 rec v1 x10 σ8) else ((Reader_fail (1 : Int32) σ8).bind fun (x20, σ21) => some (x20, σ21)))))))
set_option maxRecDepth 20000 in
set_option maxHeartbeats 2000000 in
theorem t_LawReader_readTest0 {rec : Nat → Int32 → Int32 → MH → Option (Int32 × MH)} {dR : Nat} (hd : 9 ≤ dR) (hR : RecOK rec dR) (v1 : Int32)  (σ : MH) {o} (h : LawReader_readTest0 rec v1 σ = some o) : Go m_LawReader_readTest (dR + 1) (some 0, [some (.ref 123), some (.int v1), none, none], [], σ) ((none, [], [.int o.1], o.2)) := by
  unfold LawReader_readTest0 at h
  refine Go.t (Go_sg bk_LawReader_readTest 0 1 (c2 := (some 1, [some (.ref 123), some (.int v1), none, none], [.ref 123], σ)) (ps := []) rfl trivial) ?_
  obtain ⟨x1, q3, h⟩ := bdS h
  refine Go.t (Go_callU bk_LawReader_readTest 1 rfl nk_Reader_sign (xc := "PuzzleWed$LawReader") tw626 tw627 tw630 (C := RX5) tw629 (ci := 5) rfl (as := []) (S := []) rfl rfl rfl rfl (Nat.le_of_ble_eq_true rfl) (Nat.le_trans (Nat.le_of_ble_eq_true rfl : 2 ≤ 10) (Nat.succ_le_succ hd)) (ev_Reader_sign _ q3)) ?_
  refine Go.t (Go_sg bk_LawReader_readTest 2 3 (c2 := (some 8, [some (.ref 123), some (.int v1), some (.int x1), none], [.int (33 : Int32), .int x1], σ)) (ps := []) rfl trivial) ?_
  refine Go_icmp_eq bk_LawReader_readTest 5 rfl (fun c28 => ?_) (fun c28 => ?_)
  · have h := ifT c28 h
    exact Go.t (Go.fg (LSub.cs (LSub.cs (LSub.cs (LSub.cn (LSub.nil)))))) (t_LawReader_readTest_b17 hd hR v1 x1 σ h)
  · have h := ifF c28 h
    refine Go.t (Go_sg bk_LawReader_readTest 6 2 (c2 := (some 14, [some (.ref 123), some (.int v1), some (.int x1), none], [.int (40 : Int32), .int x1], σ)) (ps := []) rfl trivial) ?_
    refine Go_icmp_ne bk_LawReader_readTest 8 rfl (fun c27 => ?_) (fun c27 => ?_)
    · have h := ifF c27 h
      refine Go.t (Go_sg bk_LawReader_readTest 14 2 (c2 := (some 26, [some (.ref 123), some (.int v1), some (.int x1), none], [.int v1, .ref 123], σ)) (ps := []) rfl trivial) ?_
      obtain ⟨⟨x7, σ8⟩, q9, h⟩ := bdS h
      dsimp only at h
      refine Go.t (Go_callV bk_LawReader_readTest 16 rfl nk_LawReader_readSum tw730 tw732 tw1 (ci := 5) rfl (as := [.int v1]) (S := []) rfl rfl rfl rfl (Nat.le_of_ble_eq_true rfl) (Nat.le_refl _) (hR.1 _ _ _ _ _ q9)) ?_
      refine Go_if_ne bk_LawReader_readTest 17 rfl (fun c26 => ?_) (fun c26 => ?_)
      · have h := ifF c26 h
        refine Go.t (Go_sg bk_LawReader_readTest 20 1 (c2 := (some 35, [some (.ref 123), some (.int v1), some (.int x1), none], [.ref 123], σ8)) (ps := []) rfl trivial) ?_
        obtain ⟨x10, q12, h⟩ := bdS h
        refine Go.t (Go_callU bk_LawReader_readTest 21 rfl nk_Reader_sign (xc := "PuzzleWed$LawReader") tw626 tw627 tw630 (C := RX5) tw629 (ci := 5) rfl (as := []) (S := []) rfl rfl rfl rfl (Nat.le_of_ble_eq_true rfl) (Nat.le_trans (Nat.le_of_ble_eq_true rfl : 2 ≤ 10) (Nat.succ_le_succ hd)) (ev_Reader_sign _ q12)) ?_
        refine Go.t (Go_sg bk_LawReader_readTest 22 3 (c2 := (some 42, [some (.ref 123), some (.int v1), some (.int x1), some (.int x10)], [.int (60 : Int32), .int x10], σ8)) (ps := []) rfl trivial) ?_
        refine Go_icmp_eq bk_LawReader_readTest 25 rfl (fun c25 => ?_) (fun c25 => ?_)
        · have h := ifT c25 h
          exact Go.t (Go.fg (LSub.cs (LSub.cs (LSub.cn (LSub.cs (LSub.nil)))))) (t_LawReader_readTest_b63 hd hR v1 x10 σ8 h)
        · have h := ifF c25 h
          refine Go.t (Go_sg bk_LawReader_readTest 26 2 (c2 := (some 48, [some (.ref 123), some (.int v1), some (.int x1), some (.int x10)], [.int (62 : Int32), .int x10], σ8)) (ps := []) rfl trivial) ?_
          refine Go_icmp_eq bk_LawReader_readTest 28 rfl (fun c24 => ?_) (fun c24 => ?_)
          · have h := ifT c24 h
            exact Go.t (Go.fg (LSub.cs (LSub.cs (LSub.cn (LSub.cs (LSub.nil)))))) (t_LawReader_readTest_b63 hd hR v1 x10 σ8 h)
          · have h := ifF c24 h
            refine Go.t (Go_sg bk_LawReader_readTest 29 2 (c2 := (some 54, [some (.ref 123), some (.int v1), some (.int x1), some (.int x10)], [.int (61 : Int32), .int x10], σ8)) (ps := []) rfl trivial) ?_
            refine Go_icmp_eq bk_LawReader_readTest 31 rfl (fun c23 => ?_) (fun c23 => ?_)
            · have h := ifT c23 h
              exact Go.t (Go.fg (LSub.cs (LSub.cs (LSub.cn (LSub.cs (LSub.nil)))))) (t_LawReader_readTest_b63 hd hR v1 x10 σ8 h)
            · have h := ifF c23 h
              refine Go.t (Go_sg bk_LawReader_readTest 32 2 (c2 := (some 59, [some (.ref 123), some (.int v1), some (.int x1), some (.int x10)], [.int (1 : Int32), .ref 123], σ8)) (ps := []) rfl trivial) ?_
              obtain ⟨⟨x20, σ21⟩, q22, h⟩ := bdS h
              dsimp only at h
              refine Go.t (Go_callU bk_LawReader_readTest 34 rfl nk_Reader_fail (xc := "PuzzleWed$LawReader") tw718 tw719 tw722 (C := RX5) tw721 (ci := 5) rfl (as := [.int (1 : Int32)]) (S := []) rfl rfl rfl rfl (Nat.le_of_ble_eq_true rfl) (Nat.le_trans (Nat.le_of_ble_eq_true rfl : 3 ≤ 10) (Nat.succ_le_succ hd)) (ev_Reader_fail _ _ q22)) ?_
              have h := Option.some.inj h
              subst h
              exact Go_reti bk_LawReader_readTest 35 rfl
      · have h := ifT c26 h
        have h := Option.some.inj h
        subst h
        refine Go.t (Go_sg bk_LawReader_readTest 18 1 (c2 := (some 33, [some (.ref 123), some (.int v1), some (.int x1), none], [.int (0 : Int32)], σ8)) (ps := []) rfl trivial) ?_
        exact Go_reti bk_LawReader_readTest 19 rfl
    · have h := ifT c27 h
      exact Go.t (Go.fg (LSub.cs (LSub.cs (LSub.cs (LSub.cn (LSub.nil)))))) (t_LawReader_readTest_b17 hd hR v1 x1 σ h)
def LawReader_readTest (rec : Nat → Int32 → Int32 → MH → Option (Int32 × MH)) (v1 : Int32) (σ : MH) : Option (Int32 × MH) := bzo (LawReader_readTest0 rec v1 σ)
set_option maxRecDepth 20000 in
set_option maxHeartbeats 2000000 in
theorem ev_LawReader_readTest {rec : Nat → Int32 → Int32 → MH → Option (Int32 × MH)} {dR : Nat} (hd : 9 ≤ dR) (hR : RecOK rec dR) (v1 : Int32)  (σ : MH) {o} (h : LawReader_readTest rec v1 σ = some o) : Ev m_LawReader_readTest (dR + 1) [.ref 123, .int v1] σ (some (.int o.1)) o.2 := Ev.of2 (by decide +kernel) rfl (Nat.le_of_ble_eq_true rfl) ⟨.boolean, rfl, nrB (bzo2 h)⟩ (t_LawReader_readTest0 hd hR v1 σ (bzo1 h))
def LawReader_readInner0 (rec : Nat → Int32 → Int32 → MH → Option (Int32 × MH)) (v1 : Int32) (v2 : Int32) (σ : MH) : Option (Int32 × MH) := if v2 < (6 : Int32) then (if v1 = (40 : Int32) then ((rec 3 (v2 + (1 : Int32)) 0 (sI σ 123 2 ((σ.1 123 2) + (1 : Int32)))).bind fun (x8, σ9) => if x8 = (0 : Int32) then some ((0 : Int32), σ9) else ((LawReader_pass (41 : Int32) σ9).bind fun (x11, σ12) => if x11 = (0 : Int32) then some ((0 : Int32), σ12) else some ((1 : Int32), σ12))) else ((rec 5 (v2 + (1 : Int32)) 0 (sI σ 123 2 ((σ.1 123 2) + (1 : Int32)))).bind fun (x1, σ2) => if x1 = (0 : Int32) then some ((0 : Int32), σ2) else ((Law_emit (33 : Int32) σ2).bind fun σ5 => some ((1 : Int32), σ5)))) else ((Reader_fail (5 : Int32) σ).bind fun (x17, σ18) => some (x17, σ18))
set_option maxRecDepth 20000 in
set_option maxHeartbeats 2000000 in
theorem t_LawReader_readInner0 {rec : Nat → Int32 → Int32 → MH → Option (Int32 × MH)} {dR : Nat} (hd : 9 ≤ dR) (hR : RecOK rec dR) (v1 : Int32) (v2 : Int32)  (σ : MH) {o} (h : LawReader_readInner0 rec v1 v2 σ = some o) : Go m_LawReader_readInner (dR + 1) (some 0, [some (.ref 123), some (.int v1), some (.int v2)], [], σ) ((none, [], [.int o.1], o.2)) := by
  unfold LawReader_readInner0 at h
  refine Go.t (Go_sg bk_LawReader_readInner 0 2 (c2 := (some 3, [some (.ref 123), some (.int v1), some (.int v2)], [.int (6 : Int32), .int v2], σ)) (ps := []) rfl trivial) ?_
  refine Go_icmp_lt bk_LawReader_readInner 2 rfl (fun c20 => ?_) (fun c20 => ?_)
  · have h := ifT c20 h
    refine Go.t (Go_sg bk_LawReader_readInner 7 8 (c2 := (some 25, [some (.ref 123), some (.int v1), some (.int v2)], [.int (40 : Int32), .int v1], sI σ 123 2 ((σ.1 123 2) + (1 : Int32)))) (ps := [shk 123 = 5, shk 123 = 5]) rfl ⟨rfl, rfl, trivial⟩) ?_
    refine Go_icmp_ne bk_LawReader_readInner 15 rfl (fun c16 => ?_) (fun c16 => ?_)
    · have h := ifF c16 h
      refine Go.t (Go_sg bk_LawReader_readInner 30 4 (c2 := (some 57, [some (.ref 123), some (.int v1), some (.int v2)], [.int (v2 + (1 : Int32)), .ref 123], sI σ 123 2 ((σ.1 123 2) + (1 : Int32)))) (ps := []) rfl trivial) ?_
      obtain ⟨⟨x1, σ2⟩, q3, h⟩ := bdS h
      dsimp only at h
      refine Go.t (Go_callV bk_LawReader_readInner 34 rfl nk_LawReader_readTest tw763 tw765 tw8 (ci := 5) rfl (as := [.int (v2 + (1 : Int32))]) (S := []) rfl rfl rfl rfl (Nat.le_of_ble_eq_true rfl) (Nat.le_refl _) (hR.2.2.2.2.2.1 _ _ _ _ _ q3)) ?_
      refine Go_if_ne bk_LawReader_readInner 35 rfl (fun c7 => ?_) (fun c7 => ?_)
      · have h := ifF c7 h
        refine Go.t (Go_sg bk_LawReader_readInner 38 3 (c2 := (some 71, [some (.ref 123), some (.int v1), some (.int v2)], [.int (33 : Int32), .ref 117], σ2)) (ps := [shk 123 = 5]) rfl ⟨rfl, trivial⟩) ?_
        obtain ⟨σ5, q6, h⟩ := bdS h
        refine Go.t (Go_callV bk_LawReader_readInner 41 rfl nk_Law_emit tw750 tw751 tw752 (ci := 4) rfl (as := [.int (33 : Int32)]) (S := []) rfl rfl rfl rfl (Nat.le_of_ble_eq_true rfl) (Nat.le_trans (Nat.le_of_ble_eq_true rfl : 2 ≤ 10) (Nat.succ_le_succ hd)) (ev_Law_emit _ _ q6)) ?_
        have h := Option.some.inj h
        subst h
        refine Go.t (Go_sg bk_LawReader_readInner 42 1 (c2 := (some 75, [some (.ref 123), some (.int v1), some (.int v2)], [.int (1 : Int32)], σ5)) (ps := []) rfl trivial) ?_
        exact Go_reti bk_LawReader_readInner 43 rfl
      · have h := ifT c7 h
        have h := Option.some.inj h
        subst h
        refine Go.t (Go_sg bk_LawReader_readInner 36 1 (c2 := (some 64, [some (.ref 123), some (.int v1), some (.int v2)], [.int (0 : Int32)], σ2)) (ps := []) rfl trivial) ?_
        exact Go_reti bk_LawReader_readInner 37 rfl
    · have h := ifT c16 h
      refine Go.t (Go_sg bk_LawReader_readInner 16 4 (c2 := (some 32, [some (.ref 123), some (.int v1), some (.int v2)], [.int (v2 + (1 : Int32)), .ref 123], sI σ 123 2 ((σ.1 123 2) + (1 : Int32)))) (ps := []) rfl trivial) ?_
      obtain ⟨⟨x8, σ9⟩, q10, h⟩ := bdS h
      dsimp only at h
      refine Go.t (Go_callV bk_LawReader_readInner 20 rfl nk_LawReader_readEither tw755 tw757 tw6 (ci := 5) rfl (as := [.int (v2 + (1 : Int32))]) (S := []) rfl rfl rfl rfl (Nat.le_of_ble_eq_true rfl) (Nat.le_refl _) (hR.2.2.2.1 _ _ _ _ _ q10)) ?_
      refine Go_if_eq bk_LawReader_readInner 21 rfl (fun c15 => ?_) (fun c15 => ?_)
      · have h := ifT c15 h
        have h := Option.some.inj h
        subst h
        refine Go.t (Go_sg bk_LawReader_readInner 28 1 (c2 := (some 52, [some (.ref 123), some (.int v1), some (.int v2)], [.int (0 : Int32)], σ9)) (ps := []) rfl trivial) ?_
        exact Go_reti bk_LawReader_readInner 29 rfl
      · have h := ifF c15 h
        refine Go.t (Go_sg bk_LawReader_readInner 22 2 (c2 := (some 41, [some (.ref 123), some (.int v1), some (.int v2)], [.int (41 : Int32), .ref 123], σ9)) (ps := []) rfl trivial) ?_
        obtain ⟨⟨x11, σ12⟩, q13, h⟩ := bdS h
        dsimp only at h
        refine Go.t (Go_callV bk_LawReader_readInner 24 rfl nk_LawReader_pass tw742 tw744 tw4 (ci := 5) rfl (as := [.int (41 : Int32)]) (S := []) rfl rfl rfl rfl (Nat.le_of_ble_eq_true rfl) (Nat.le_trans (Nat.le_of_ble_eq_true rfl : 4 ≤ 10) (Nat.succ_le_succ hd)) (ev_LawReader_pass _ _ q13)) ?_
        refine Go_if_eq bk_LawReader_readInner 25 rfl (fun c14 => ?_) (fun c14 => ?_)
        · have h := ifT c14 h
          have h := Option.some.inj h
          subst h
          refine Go.t (Go_sg bk_LawReader_readInner 28 1 (c2 := (some 52, [some (.ref 123), some (.int v1), some (.int v2)], [.int (0 : Int32)], σ12)) (ps := []) rfl trivial) ?_
          exact Go_reti bk_LawReader_readInner 29 rfl
        · have h := ifF c14 h
          refine Go.t (Go_sg bk_LawReader_readInner 26 2 (c2 := (some 52, [some (.ref 123), some (.int v1), some (.int v2)], [.int (1 : Int32)], σ12)) (ps := []) rfl trivial) ?_
          have h := Option.some.inj h
          subst h
          exact Go_reti bk_LawReader_readInner 29 rfl
  · have h := ifF c20 h
    refine Go.t (Go_sg bk_LawReader_readInner 3 2 (c2 := (some 8, [some (.ref 123), some (.int v1), some (.int v2)], [.int (5 : Int32), .ref 123], σ)) (ps := []) rfl trivial) ?_
    obtain ⟨⟨x17, σ18⟩, q19, h⟩ := bdS h
    dsimp only at h
    refine Go.t (Go_callU bk_LawReader_readInner 5 rfl nk_Reader_fail (xc := "PuzzleWed$LawReader") tw718 tw719 tw722 (C := RX5) tw721 (ci := 5) rfl (as := [.int (5 : Int32)]) (S := []) rfl rfl rfl rfl (Nat.le_of_ble_eq_true rfl) (Nat.le_trans (Nat.le_of_ble_eq_true rfl : 3 ≤ 10) (Nat.succ_le_succ hd)) (ev_Reader_fail _ _ q19)) ?_
    have h := Option.some.inj h
    subst h
    exact Go_reti bk_LawReader_readInner 6 rfl
def LawReader_readInner (rec : Nat → Int32 → Int32 → MH → Option (Int32 × MH)) (v1 : Int32) (v2 : Int32) (σ : MH) : Option (Int32 × MH) := bzo (LawReader_readInner0 rec v1 v2 σ)
set_option maxRecDepth 20000 in
set_option maxHeartbeats 2000000 in
theorem ev_LawReader_readInner {rec : Nat → Int32 → Int32 → MH → Option (Int32 × MH)} {dR : Nat} (hd : 9 ≤ dR) (hR : RecOK rec dR) (v1 : Int32) (v2 : Int32)  (σ : MH) {o} (h : LawReader_readInner rec v1 v2 σ = some o) : Ev m_LawReader_readInner (dR + 1) [.ref 123, .int v1, .int v2] σ (some (.int o.1)) o.2 := Ev.of2 (by decide +kernel) rfl (Nat.le_of_ble_eq_true rfl) ⟨.boolean, rfl, nrB (bzo2 h)⟩ (t_LawReader_readInner0 hd hR v1 v2 σ (bzo1 h))
def LRn : Nat → Nat → Int32 → Int32 → MH → Option (Int32 × MH)
  | 0, _, _, _, _ => none
  | n + 1, k, a, b, σ => if k = 0 then LawReader_readSum (LRn n) a σ else if k = 1 then LawReader_readProduct (LRn n) a σ else if k = 2 then LawReader_readFactor (LRn n) a σ else if k = 3 then LawReader_readEither (LRn n) a σ else if k = 4 then LawReader_readBoth (LRn n) a σ else if k = 5 then LawReader_readTest (LRn n) a σ else if k = 6 then LawReader_readInner (LRn n) a b σ else none
theorem LRn_ok : ∀ n, RecOK (LRn n) (9 + n)
  | 0 => ⟨(fun _ _ _ _ _ h => by cases h), (fun _ _ _ _ _ h => by cases h), (fun _ _ _ _ _ h => by cases h), (fun _ _ _ _ _ h => by cases h), (fun _ _ _ _ _ h => by cases h), (fun _ _ _ _ _ h => by cases h), (fun _ _ _ _ _ h => by cases h)⟩
  | n + 1 => ⟨fun a b σ r σ' h => ev_LawReader_readSum (dR := 9 + n) (Nat.le_add_right 9 n) (LRn_ok n) a σ (show LawReader_readSum (LRn n) a σ = some (r, σ') from h), fun a b σ r σ' h => ev_LawReader_readProduct (dR := 9 + n) (Nat.le_add_right 9 n) (LRn_ok n) a σ (show LawReader_readProduct (LRn n) a σ = some (r, σ') from h), fun a b σ r σ' h => ev_LawReader_readFactor (dR := 9 + n) (Nat.le_add_right 9 n) (LRn_ok n) a σ (show LawReader_readFactor (LRn n) a σ = some (r, σ') from h), fun a b σ r σ' h => ev_LawReader_readEither (dR := 9 + n) (Nat.le_add_right 9 n) (LRn_ok n) a σ (show LawReader_readEither (LRn n) a σ = some (r, σ') from h), fun a b σ r σ' h => ev_LawReader_readBoth (dR := 9 + n) (Nat.le_add_right 9 n) (LRn_ok n) a σ (show LawReader_readBoth (LRn n) a σ = some (r, σ') from h), fun a b σ r σ' h => ev_LawReader_readTest (dR := 9 + n) (Nat.le_add_right 9 n) (LRn_ok n) a σ (show LawReader_readTest (LRn n) a σ = some (r, σ') from h), fun a b σ r σ' h => ev_LawReader_readInner (dR := 9 + n) (Nat.le_add_right 9 n) (LRn_ok n) a b σ (show LawReader_readInner (LRn n) a b σ = some (r, σ') from h)⟩
def LR : Nat → Int32 → Int32 → MH → Option (Int32 × MH) := LRn 64
theorem LR_ok : RecOK LR 73 := LRn_ok 64
def LawReader_readClause_b28  (σ : MH) : Option (Int32 × MH) := (Reader_fail (1 : Int32) σ).bind fun (x4, σ5) => some (x4, σ5)
set_option maxRecDepth 20000 in
set_option maxHeartbeats 2000000 in
theorem t_LawReader_readClause_b28    (σ : MH) {o} (h : LawReader_readClause_b28 σ = some o) : Go m_LawReader_readClause 75 (some 28, [some (.ref 123), none], [], σ) ((none, [], [.int o.1], o.2)) := by
  unfold LawReader_readClause_b28 at h
  refine Go.t (Go_sg bk_LawReader_readClause 12 2 (c2 := (some 30, [some (.ref 123), none], [.int (1 : Int32), .ref 123], σ)) (ps := []) rfl trivial) ?_
  obtain ⟨⟨x4, σ5⟩, q6, h⟩ := bdS h
  dsimp only at h
  refine Go.t (Go_callU bk_LawReader_readClause 14 rfl nk_Reader_fail (xc := "PuzzleWed$LawReader") tw718 tw719 tw722 (C := RX5) tw721 (ci := 5) rfl (as := [.int (1 : Int32)]) (S := []) rfl rfl rfl rfl (Nat.le_of_ble_eq_true rfl) (Nat.le_of_ble_eq_true rfl) (ev_Reader_fail _ _ q6)) ?_
  have h := Option.some.inj h
  subst h
  exact Go_reti bk_LawReader_readClause 15 rfl
def LawReader_readClause_b44  (σ : MH) : Option (Int32 × MH) := (Reader_fail (4 : Int32) σ).bind fun (x13, σ14) => some (x13, σ14)
set_option maxRecDepth 20000 in
set_option maxHeartbeats 2000000 in
theorem t_LawReader_readClause_b44    (σ : MH) {o} (h : LawReader_readClause_b44 σ = some o) : Go m_LawReader_readClause 75 (some 44, [some (.ref 123), none], [], σ) ((none, [], [.int o.1], o.2)) := by
  unfold LawReader_readClause_b44 at h
  refine Go.t (Go_sg bk_LawReader_readClause 21 2 (c2 := (some 46, [some (.ref 123), none], [.int (4 : Int32), .ref 123], σ)) (ps := []) rfl trivial) ?_
  obtain ⟨⟨x13, σ14⟩, q15, h⟩ := bdS h
  dsimp only at h
  refine Go.t (Go_callU bk_LawReader_readClause 23 rfl nk_Reader_fail (xc := "PuzzleWed$LawReader") tw718 tw719 tw722 (C := RX5) tw721 (ci := 5) rfl (as := [.int (4 : Int32)]) (S := []) rfl rfl rfl rfl (Nat.le_of_ble_eq_true rfl) (Nat.le_of_ble_eq_true rfl) (ev_Reader_fail _ _ q15)) ?_
  have h := Option.some.inj h
  subst h
  exact Go_reti bk_LawReader_readClause 24 rfl
def LawReader_readClause0  (σ : MH) : Option (Int32 × MH) := (Reader_isEnd σ).bind fun x1 => if x1 = (0 : Int32) then ((Reader_sign σ).bind fun x7 => (String_indexOf_i_t0 (jc x7) σ).bind fun x10 => if (0 : Int32) ≤ x10 then (if σ.1 117 6 < (0 : Int32) then (LawReader_readClause_b44 σ) else (if σ.1 117 6 < (16 : Int32) then ((Reader_sign σ).bind fun x16 => if inb (σ.1 117 6) 16 = true then (LR 0 (0 : Int32) 0 (sI (sI (sI σ 119 (σ.1 117 6).toNatClampNeg x16) 120 (σ.1 117 6).toNatClampNeg ((sI σ 119 (σ.1 117 6).toNatClampNeg x16).1 117 5)) 123 2 (((sI (sI σ 119 (σ.1 117 6).toNatClampNeg x16) 120 (σ.1 117 6).toNatClampNeg ((sI σ 119 (σ.1 117 6).toNatClampNeg x16).1 117 5)).1 123 2) + (1 : Int32)))).bind fun (x20, σ21) => if x20 = (0 : Int32) then some ((0 : Int32), σ21) else ((Law_emit (0 : Int32) σ21).bind fun σ24 => (LawReader_pass (40 : Int32) (sI σ24 121 (σ.1 117 6).toNatClampNeg (σ24.1 117 5))).bind fun (x26, σ27) => if x26 = (0 : Int32) then some ((0 : Int32), σ27) else ((LR 3 (1 : Int32) 0 σ27).bind fun (x29, σ30) => if x29 = (0 : Int32) then some ((0 : Int32), σ30) else ((LawReader_pass (41 : Int32) σ30).bind fun (x32, σ33) => if x32 = (0 : Int32) then some ((0 : Int32), σ33) else ((Law_emit (0 : Int32) σ33).bind fun σ36 => some ((1 : Int32), sI σ36 117 6 ((σ.1 117 6) + (1 : Int32))))))) else none) else (LawReader_readClause_b44 σ))) else (LawReader_readClause_b28 σ)) else (LawReader_readClause_b28 σ)
set_option maxRecDepth 20000 in
set_option maxHeartbeats 2000000 in
theorem t_LawReader_readClause0   (σ : MH) {o} (h : LawReader_readClause0 σ = some o) : Go m_LawReader_readClause 75 (some 0, [some (.ref 123), none], [], σ) ((none, [], [.int o.1], o.2)) := by
  unfold LawReader_readClause0 at h
  refine Go.t (Go_sg bk_LawReader_readClause 0 5 (c2 := (some 9, [some (.ref 123), some (.int (σ.1 117 6))], [.ref 123], σ)) (ps := [shk 123 = 5, shk 117 = 4]) rfl ⟨rfl, rfl, trivial⟩) ?_
  obtain ⟨x1, q3, h⟩ := bdS h
  refine Go.t (Go_callU bk_LawReader_readClause 5 rfl nk_Reader_isEnd (xc := "PuzzleWed$LawReader") tw619 tw620 tw623 (C := RX5) tw622 (ci := 5) rfl (as := []) (S := []) rfl rfl rfl rfl (Nat.le_of_ble_eq_true rfl) (Nat.le_of_ble_eq_true rfl) (ev_Reader_isEnd _ q3)) ?_
  refine Go_if_ne bk_LawReader_readClause 6 rfl (fun c45 => ?_) (fun c45 => ?_)
  · have h := ifF c45 h
    exact Go.t (Go.fg (LSub.cs (LSub.cn (LSub.nil)))) (t_LawReader_readClause_b28 σ h)
  · have h := ifT c45 h
    refine Go.t (Go_lds (by decide +kernel) (idx := 46) (k := 0) rfl) ?_
    refine Go.t (Go_sg bk_LawReader_readClause 7 1 (c2 := (some 18, [some (.ref 123), some (.int (σ.1 117 6))], [.ref 123, .retAddr 0], σ)) (ps := []) rfl trivial) ?_
    obtain ⟨x7, q9, h⟩ := bdS h
    refine Go.t (Go_callU bk_LawReader_readClause 8 rfl nk_Reader_sign (xc := "PuzzleWed$LawReader") tw626 tw627 tw630 (C := RX5) tw629 (ci := 5) rfl (as := []) (S := [.retAddr 0]) rfl rfl rfl rfl (Nat.le_of_ble_eq_true rfl) (Nat.le_of_ble_eq_true rfl) (ev_Reader_sign _ q9)) ?_
    refine Go.t (Go_sg bk_LawReader_readClause 9 1 (c2 := (some 22, [some (.ref 123), some (.int (σ.1 117 6))], [.int (jc x7), .retAddr 0], σ)) (ps := []) rfl trivial) ?_
    obtain ⟨x10, q12, h⟩ := bdS h
    refine Go.t (Go_callR bk_LawReader_readClause 10 rfl nk_String_indexOf_i_t0 tw632 tw633 rfl tw634 (a := 0) (as := [.int (jc x7)]) (S := []) (by decide) rfl rfl rfl (Nat.le_of_ble_eq_true rfl) (Nat.le_of_ble_eq_true rfl) (ev_String_indexOf_i_t0 _ _ q12)) ?_
    refine Go_if_ge bk_LawReader_readClause 11 rfl (fun c44 => ?_) (fun c44 => ?_)
    · have h := ifT c44 h
      refine Go.t (Go_sg bk_LawReader_readClause 16 1 (c2 := (some 35, [some (.ref 123), some (.int (σ.1 117 6))], [.int (σ.1 117 6)], σ)) (ps := []) rfl trivial) ?_
      refine Go_if_lt bk_LawReader_readClause 17 rfl (fun c43 => ?_) (fun c43 => ?_)
      · have h := ifT c43 h
        exact Go.t (Go.fg (LSub.cs (LSub.cn (LSub.nil)))) (t_LawReader_readClause_b44 σ h)
      · have h := ifF c43 h
        refine Go.t (Go_sg bk_LawReader_readClause 18 2 (c2 := (some 41, [some (.ref 123), some (.int (σ.1 117 6))], [.int (16 : Int32), .int (σ.1 117 6)], σ)) (ps := []) rfl trivial) ?_
        refine Go_icmp_lt bk_LawReader_readClause 20 rfl (fun c42 => ?_) (fun c42 => ?_)
        · have h := ifT c42 h
          refine Go.t (Go_sg bk_LawReader_readClause 25 5 (c2 := (some 59, [some (.ref 123), some (.int (σ.1 117 6))], [.ref 123, .int (σ.1 117 6), .ref 119], σ)) (ps := [shk 123 = 5, shk 117 = 4]) rfl ⟨rfl, rfl, trivial⟩) ?_
          obtain ⟨x16, q18, h⟩ := bdS h
          refine Go.t (Go_callU bk_LawReader_readClause 30 rfl nk_Reader_sign (xc := "PuzzleWed$LawReader") tw626 tw627 tw630 (C := RX5) tw629 (ci := 5) rfl (as := []) (S := [.int (σ.1 117 6), .ref 119]) rfl rfl rfl rfl (Nat.le_of_ble_eq_true rfl) (Nat.le_of_ble_eq_true rfl) (ev_Reader_sign _ q18)) ?_
          obtain ⟨g19, h⟩ := gdS h
          refine Go.t (Go_sg bk_LawReader_readClause 31 17 (c2 := (some 91, [some (.ref 123), some (.int (σ.1 117 6))], [.int (0 : Int32), .ref 123], sI (sI (sI σ 119 (σ.1 117 6).toNatClampNeg x16) 120 (σ.1 117 6).toNatClampNeg ((sI σ 119 (σ.1 117 6).toNatClampNeg x16).1 117 5)) 123 2 (((sI (sI σ 119 (σ.1 117 6).toNatClampNeg x16) 120 (σ.1 117 6).toNatClampNeg ((sI σ 119 (σ.1 117 6).toNatClampNeg x16).1 117 5)).1 123 2) + (1 : Int32)))) (ps := [IA 119 16 ∧ inb (σ.1 117 6) 16 = true, shk 123 = 5, shk 117 = 4, shk 123 = 5, shk 117 = 4, IA 120 16 ∧ inb (σ.1 117 6) 16 = true, shk 123 = 5, shk 123 = 5]) rfl ⟨⟨⟨rfl, rfl⟩, g19⟩, rfl, rfl, rfl, rfl, ⟨⟨rfl, rfl⟩, g19⟩, rfl, rfl, trivial⟩) ?_
          obtain ⟨⟨x20, σ21⟩, q22, h⟩ := bdS h
          dsimp only at h
          refine Go.t (Go_callV bk_LawReader_readClause 48 rfl nk_LawReader_readSum tw730 tw732 tw1 (ci := 5) rfl (as := [.int (0 : Int32)]) (S := []) rfl rfl rfl rfl (Nat.le_of_ble_eq_true rfl) (Nat.le_of_ble_eq_true rfl) (LR_ok.1 _ _ _ _ _ q22)) ?_
          refine Go_if_ne bk_LawReader_readClause 49 rfl (fun c41 => ?_) (fun c41 => ?_)
          · have h := ifF c41 h
            refine Go.t (Go_sg bk_LawReader_readClause 52 3 (c2 := (some 104, [some (.ref 123), some (.int (σ.1 117 6))], [.int (0 : Int32), .ref 117], σ21)) (ps := [shk 123 = 5]) rfl ⟨rfl, trivial⟩) ?_
            obtain ⟨σ24, q25, h⟩ := bdS h
            refine Go.t (Go_callV bk_LawReader_readClause 55 rfl nk_Law_emit tw750 tw751 tw752 (ci := 4) rfl (as := [.int (0 : Int32)]) (S := []) rfl rfl rfl rfl (Nat.le_of_ble_eq_true rfl) (Nat.le_of_ble_eq_true rfl) (ev_Law_emit _ _ q25)) ?_
            refine Go.t (Go_sg bk_LawReader_readClause 56 10 (c2 := (some 126, [some (.ref 123), some (.int (σ.1 117 6))], [.int (40 : Int32), .ref 123], sI σ24 121 (σ.1 117 6).toNatClampNeg (σ24.1 117 5))) (ps := [shk 123 = 5, shk 117 = 4, shk 123 = 5, shk 117 = 4, IA 121 16 ∧ inb (σ.1 117 6) 16 = true]) rfl ⟨rfl, rfl, rfl, rfl, ⟨⟨rfl, rfl⟩, g19⟩, trivial⟩) ?_
            obtain ⟨⟨x26, σ27⟩, q28, h⟩ := bdS h
            dsimp only at h
            refine Go.t (Go_callV bk_LawReader_readClause 66 rfl nk_LawReader_pass tw742 tw744 tw4 (ci := 5) rfl (as := [.int (40 : Int32)]) (S := []) rfl rfl rfl rfl (Nat.le_of_ble_eq_true rfl) (Nat.le_of_ble_eq_true rfl) (ev_LawReader_pass _ _ q28)) ?_
            refine Go_if_eq bk_LawReader_readClause 67 rfl (fun c40 => ?_) (fun c40 => ?_)
            · have h := ifT c40 h
              have h := Option.some.inj h
              subst h
              refine Go.t (Go_sg bk_LawReader_readClause 76 1 (c2 := (some 150, [some (.ref 123), some (.int (σ.1 117 6))], [.int (0 : Int32)], σ27)) (ps := []) rfl trivial) ?_
              exact Go_reti bk_LawReader_readClause 77 rfl
            · have h := ifF c40 h
              refine Go.t (Go_sg bk_LawReader_readClause 68 2 (c2 := (some 134, [some (.ref 123), some (.int (σ.1 117 6))], [.int (1 : Int32), .ref 123], σ27)) (ps := []) rfl trivial) ?_
              obtain ⟨⟨x29, σ30⟩, q31, h⟩ := bdS h
              dsimp only at h
              refine Go.t (Go_callV bk_LawReader_readClause 70 rfl nk_LawReader_readEither tw755 tw757 tw6 (ci := 5) rfl (as := [.int (1 : Int32)]) (S := []) rfl rfl rfl rfl (Nat.le_of_ble_eq_true rfl) (Nat.le_of_ble_eq_true rfl) (LR_ok.2.2.2.1 _ _ _ _ _ q31)) ?_
              refine Go_if_eq bk_LawReader_readClause 71 rfl (fun c39 => ?_) (fun c39 => ?_)
              · have h := ifT c39 h
                have h := Option.some.inj h
                subst h
                refine Go.t (Go_sg bk_LawReader_readClause 76 1 (c2 := (some 150, [some (.ref 123), some (.int (σ.1 117 6))], [.int (0 : Int32)], σ30)) (ps := []) rfl trivial) ?_
                exact Go_reti bk_LawReader_readClause 77 rfl
              · have h := ifF c39 h
                refine Go.t (Go_sg bk_LawReader_readClause 72 2 (c2 := (some 143, [some (.ref 123), some (.int (σ.1 117 6))], [.int (41 : Int32), .ref 123], σ30)) (ps := []) rfl trivial) ?_
                obtain ⟨⟨x32, σ33⟩, q34, h⟩ := bdS h
                dsimp only at h
                refine Go.t (Go_callV bk_LawReader_readClause 74 rfl nk_LawReader_pass tw742 tw744 tw4 (ci := 5) rfl (as := [.int (41 : Int32)]) (S := []) rfl rfl rfl rfl (Nat.le_of_ble_eq_true rfl) (Nat.le_of_ble_eq_true rfl) (ev_LawReader_pass _ _ q34)) ?_
                refine Go_if_ne bk_LawReader_readClause 75 rfl (fun c38 => ?_) (fun c38 => ?_)
                · have h := ifF c38 h
                  refine Go.t (Go_sg bk_LawReader_readClause 78 3 (c2 := (some 156, [some (.ref 123), some (.int (σ.1 117 6))], [.int (0 : Int32), .ref 117], σ33)) (ps := [shk 123 = 5]) rfl ⟨rfl, trivial⟩) ?_
                  obtain ⟨σ36, q37, h⟩ := bdS h
                  refine Go.t (Go_callV bk_LawReader_readClause 81 rfl nk_Law_emit tw750 tw751 tw752 (ci := 4) rfl (as := [.int (0 : Int32)]) (S := []) rfl rfl rfl rfl (Nat.le_of_ble_eq_true rfl) (Nat.le_of_ble_eq_true rfl) (ev_Law_emit _ _ q37)) ?_
                  have h := Option.some.inj h
                  subst h
                  refine Go.t (Go_sg bk_LawReader_readClause 82 7 (c2 := (some 170, [some (.ref 123), some (.int (σ.1 117 6))], [.int (1 : Int32)], sI σ36 117 6 ((σ.1 117 6) + (1 : Int32)))) (ps := [shk 123 = 5, shk 117 = 4]) rfl ⟨rfl, rfl, trivial⟩) ?_
                  exact Go_reti bk_LawReader_readClause 89 rfl
                · have h := ifT c38 h
                  have h := Option.some.inj h
                  subst h
                  refine Go.t (Go_sg bk_LawReader_readClause 76 1 (c2 := (some 150, [some (.ref 123), some (.int (σ.1 117 6))], [.int (0 : Int32)], σ33)) (ps := []) rfl trivial) ?_
                  exact Go_reti bk_LawReader_readClause 77 rfl
          · have h := ifT c41 h
            have h := Option.some.inj h
            subst h
            refine Go.t (Go_sg bk_LawReader_readClause 50 1 (c2 := (some 98, [some (.ref 123), some (.int (σ.1 117 6))], [.int (0 : Int32)], σ21)) (ps := []) rfl trivial) ?_
            exact Go_reti bk_LawReader_readClause 51 rfl
        · have h := ifF c42 h
          exact Go.t (Go.fg (LSub.cs (LSub.cn (LSub.nil)))) (t_LawReader_readClause_b44 σ h)
    · have h := ifF c44 h
      exact Go.t (Go.fg (LSub.cs (LSub.cn (LSub.nil)))) (t_LawReader_readClause_b28 σ h)
def LawReader_readClause  (σ : MH) : Option (Int32 × MH) := bzo (LawReader_readClause0 σ)
set_option maxRecDepth 20000 in
set_option maxHeartbeats 2000000 in
theorem ev_LawReader_readClause   (σ : MH) {o} (h : LawReader_readClause σ = some o) : Ev m_LawReader_readClause 75 [.ref 123] σ (some (.int o.1)) o.2 := Ev.of2 (by decide +kernel) rfl (Nat.le_of_ble_eq_true rfl) ⟨.boolean, rfl, nrB (bzo2 h)⟩ (t_LawReader_readClause0 σ (bzo1 h))
def cH_LawReader_readLaw_23  (s : Int32 × MH) : MC := (some 23, [some (.ref 123), none, some (.int s.1)], [], s.2)
def cR_LawReader_readLaw_23  : ((MH) ⊕ (MH) ⊕ (Int32 × MH)) → MC := (cS (fun r : MH => ((some 78, [some (.ref 123), none, none], [], r) : MC)) (cS (fun r : MH => ((some 56, [some (.ref 123), none, none], [], r) : MC)) (fun r : Int32 × MH => ((none, [], [.int r.1], r.2) : MC))))
def LawReader_readLaw_l23 (v2 : Int32) (σ : MH) : Option (((Int32 × MH) ⊕ ((MH) ⊕ (MH) ⊕ (Int32 × MH)))) := if (16 : Int32) < v2 then some (.inr (.inl (σ))) else ((LawReader_readClause σ).bind fun (x4, σ5) => if x4 = (0 : Int32) then some (.inr (.inr (.inr ((0 : Int32), σ5)))) else ((Reader_isEnd σ5).bind fun x7 => if x7 = (0 : Int32) then ((Reader_sign σ5).bind fun x10 => if x10 = (59 : Int32) then some (.inl (v2 + (1 : Int32), sI σ5 123 2 ((σ5.1 123 2) + (1 : Int32)))) else some (.inr (.inr (.inl (σ5))))) else some (.inr (.inr (.inr ((1 : Int32), σ5))))))
set_option maxRecDepth 20000 in
set_option maxHeartbeats 2000000 in
theorem t_LawReader_readLaw_l23 (v2 : Int32)  (σ : MH) {o} (h : LawReader_readLaw_l23 v2 σ = some o) : Go m_LawReader_readLaw 76 (cH_LawReader_readLaw_23  (v2, σ)) (cS (cH_LawReader_readLaw_23 ) (cR_LawReader_readLaw_23 ) o) := by
  unfold LawReader_readLaw_l23 at h
  unfold cH_LawReader_readLaw_23
  refine Go.t (Go_sg bk_LawReader_readLaw 13 2 (c2 := (some 26, [some (.ref 123), none, some (.int v2)], [.int (16 : Int32), .int v2], σ)) (ps := []) rfl trivial) ?_
  refine Go_icmp_gt bk_LawReader_readLaw 15 rfl (fun c16 => ?_) (fun c16 => ?_)
  · have h := ifT c16 h
    have h := Option.some.inj h
    subst h
    exact Go.fg (LSub.cs (LSub.cn (LSub.cn (LSub.nil))))
  · have h := ifF c16 h
    refine Go.t (Go_sg bk_LawReader_readLaw 16 1 (c2 := (some 30, [some (.ref 123), none, some (.int v2)], [.ref 123], σ)) (ps := []) rfl trivial) ?_
    obtain ⟨⟨x4, σ5⟩, q6, h⟩ := bdS h
    dsimp only at h
    refine Go.t (Go_callV bk_LawReader_readLaw 17 rfl nk_LawReader_readClause tw615 tw617 tw0 (ci := 5) rfl (as := []) (S := []) rfl rfl rfl rfl (Nat.le_of_ble_eq_true rfl) (Nat.le_of_ble_eq_true rfl) (ev_LawReader_readClause _ q6)) ?_
    refine Go_if_ne bk_LawReader_readLaw 18 rfl (fun c15 => ?_) (fun c15 => ?_)
    · have h := ifF c15 h
      refine Go.t (Go_sg bk_LawReader_readLaw 21 1 (c2 := (some 39, [some (.ref 123), none, some (.int v2)], [.ref 123], σ5)) (ps := []) rfl trivial) ?_
      obtain ⟨x7, q9, h⟩ := bdS h
      refine Go.t (Go_callU bk_LawReader_readLaw 22 rfl nk_Reader_isEnd (xc := "PuzzleWed$LawReader") tw619 tw620 tw623 (C := RX5) tw622 (ci := 5) rfl (as := []) (S := []) rfl rfl rfl rfl (Nat.le_of_ble_eq_true rfl) (Nat.le_of_ble_eq_true rfl) (ev_Reader_isEnd _ q9)) ?_
      refine Go_if_eq bk_LawReader_readLaw 23 rfl (fun c14 => ?_) (fun c14 => ?_)
      · have h := ifT c14 h
        refine Go.t (Go_sg bk_LawReader_readLaw 26 1 (c2 := (some 48, [some (.ref 123), none, some (.int v2)], [.ref 123], σ5)) (ps := []) rfl trivial) ?_
        obtain ⟨x10, q12, h⟩ := bdS h
        refine Go.t (Go_callU bk_LawReader_readLaw 27 rfl nk_Reader_sign (xc := "PuzzleWed$LawReader") tw626 tw627 tw630 (C := RX5) tw629 (ci := 5) rfl (as := []) (S := []) rfl rfl rfl rfl (Nat.le_of_ble_eq_true rfl) (Nat.le_of_ble_eq_true rfl) (ev_Reader_sign _ q12)) ?_
        refine Go.t (Go_sg bk_LawReader_readLaw 28 1 (c2 := (some 53, [some (.ref 123), none, some (.int v2)], [.int (59 : Int32), .int x10], σ5)) (ps := []) rfl trivial) ?_
        refine Go_icmp_eq bk_LawReader_readLaw 29 rfl (fun c13 => ?_) (fun c13 => ?_)
        · have h := ifT c13 h
          refine Go.t (Go_sg bk_LawReader_readLaw 34 8 (c2 := (some 23, [some (.ref 123), none, some (.int (v2 + (1 : Int32)))], [], sI σ5 123 2 ((σ5.1 123 2) + (1 : Int32)))) (ps := [shk 123 = 5, shk 123 = 5]) rfl ⟨rfl, rfl, trivial⟩) ?_
          have h := Option.some.inj h
          subst h
          exact Go.fg (LSub.cs (LSub.cn (LSub.cs (LSub.nil))))
        · have h := ifF c13 h
          have h := Option.some.inj h
          subst h
          exact Go.fg (LSub.cs (LSub.cn (LSub.cn (LSub.nil))))
      · have h := ifF c14 h
        have h := Option.some.inj h
        subst h
        refine Go.t (Go_sg bk_LawReader_readLaw 24 1 (c2 := (some 46, [some (.ref 123), none, some (.int v2)], [.int (1 : Int32)], σ5)) (ps := []) rfl trivial) ?_
        exact Go_reti bk_LawReader_readLaw 25 rfl
    · have h := ifT c15 h
      have h := Option.some.inj h
      subst h
      refine Go.t (Go_sg bk_LawReader_readLaw 19 1 (c2 := (some 37, [some (.ref 123), none, some (.int v2)], [.int (0 : Int32)], σ5)) (ps := []) rfl trivial) ?_
      exact Go_reti bk_LawReader_readLaw 20 rfl
def LawReader_readLaw_L23  (s : Int32 × MH) : Option ((MH) ⊕ (MH) ⊕ (Int32 × MH)) := itr (fun s : Int32 × MH => LawReader_readLaw_l23 s.1 s.2) FU s
set_option maxRecDepth 20000 in
set_option maxHeartbeats 2000000 in
theorem t_LawReader_readLaw_L23   (s : Int32 × MH) {r} (h : LawReader_readLaw_L23  s = some r) : Go m_LawReader_readLaw 76 (cH_LawReader_readLaw_23  s) (cR_LawReader_readLaw_23  r) := Go_itr (fun s o ho => t_LawReader_readLaw_l23 s.1 s.2 ho) FU s r h
def LawReader_readLaw0 (v1 : Int32) (σ : MH) : Option (Int32 × MH) := (Reader_begin v1 σ).bind fun σ2 => (LawReader_readLaw_L23 ((0 : Int32), sI (sI σ2 117 5 (0 : Int32)) 117 6 (0 : Int32))).bind fun z17 => (match z17 with | .inl z17a => (Reader_fail (1 : Int32) z17a).bind fun (x19, σ20) => some (x19, σ20) | .inr z17r => (match z17r with | .inl z17b => (Reader_fail (1 : Int32) z17b).bind fun (x22, σ23) => some (x22, σ23) | .inr z17c => some (z17c.1, z17c.2)))
set_option maxRecDepth 20000 in
set_option maxHeartbeats 2000000 in
theorem t_LawReader_readLaw0 (v1 : Int32)  (σ : MH) {o} (h : LawReader_readLaw0 v1 σ = some o) : Go m_LawReader_readLaw 76 (some 0, [some (.ref 123), some (.int v1), none], [], σ) ((none, [], [.int o.1], o.2)) := by
  unfold LawReader_readLaw0 at h
  refine Go.t (Go_sg bk_LawReader_readLaw 0 2 (c2 := (some 2, [some (.ref 123), some (.int v1), none], [.int v1, .ref 123], σ)) (ps := []) rfl trivial) ?_
  obtain ⟨σ2, q3, h⟩ := bdS h
  refine Go.t (Go_callU bk_LawReader_readLaw 2 rfl nk_Reader_begin (xc := "PuzzleWed$LawReader") tw609 tw610 tw613 (C := RX5) tw612 (ci := 5) rfl (as := [.int v1]) (S := []) rfl rfl rfl rfl (Nat.le_of_ble_eq_true rfl) (Nat.le_of_ble_eq_true rfl) (ev_Reader_begin _ _ q3)) ?_
  refine Go.t (Go_sg bk_LawReader_readLaw 3 10 (c2 := (some 23, [some (.ref 123), some (.int v1), some (.int (0 : Int32))], [], sI (sI σ2 117 5 (0 : Int32)) 117 6 (0 : Int32))) (ps := [shk 123 = 5, shk 117 = 4, shk 123 = 5, shk 117 = 4]) rfl ⟨rfl, rfl, rfl, rfl, trivial⟩) ?_
  obtain ⟨z17, q18, h⟩ := bdS h
  refine Go.t (Go.t (Go.fg (LSub.cs (LSub.cn (LSub.cs (LSub.nil))))) (t_LawReader_readLaw_L23 _ q18)) ?_
  rcases z17 with z17a | z17r
  · dsimp only at h
    refine Go.t (Go_sg bk_LawReader_readLaw 42 2 (c2 := (some 80, [some (.ref 123), none, none], [.int (1 : Int32), .ref 123], z17a)) (ps := []) rfl trivial) ?_
    obtain ⟨⟨x19, σ20⟩, q21, h⟩ := bdS h
    dsimp only at h
    refine Go.t (Go_callU bk_LawReader_readLaw 44 rfl nk_Reader_fail (xc := "PuzzleWed$LawReader") tw718 tw719 tw722 (C := RX5) tw721 (ci := 5) rfl (as := [.int (1 : Int32)]) (S := []) rfl rfl rfl rfl (Nat.le_of_ble_eq_true rfl) (Nat.le_of_ble_eq_true rfl) (ev_Reader_fail _ _ q21)) ?_
    have h := Option.some.inj h
    subst h
    exact Go_reti bk_LawReader_readLaw 45 rfl
  · dsimp only at h
    rcases z17r with z17b | z17c
    · dsimp only at h
      refine Go.t (Go_sg bk_LawReader_readLaw 30 2 (c2 := (some 58, [some (.ref 123), none, none], [.int (1 : Int32), .ref 123], z17b)) (ps := []) rfl trivial) ?_
      obtain ⟨⟨x22, σ23⟩, q24, h⟩ := bdS h
      dsimp only at h
      refine Go.t (Go_callU bk_LawReader_readLaw 32 rfl nk_Reader_fail (xc := "PuzzleWed$LawReader") tw718 tw719 tw722 (C := RX5) tw721 (ci := 5) rfl (as := [.int (1 : Int32)]) (S := []) rfl rfl rfl rfl (Nat.le_of_ble_eq_true rfl) (Nat.le_of_ble_eq_true rfl) (ev_Reader_fail _ _ q24)) ?_
      have h := Option.some.inj h
      subst h
      exact Go_reti bk_LawReader_readLaw 33 rfl
    · dsimp only at h
      have h := Option.some.inj h
      subst h
      exact Go.rf
def LawReader_readLaw (v1 : Int32) (σ : MH) : Option (Int32 × MH) := bzo (LawReader_readLaw0 v1 σ)
set_option maxRecDepth 20000 in
set_option maxHeartbeats 2000000 in
theorem ev_LawReader_readLaw (v1 : Int32)  (σ : MH) {o} (h : LawReader_readLaw v1 σ = some o) : Ev m_LawReader_readLaw 76 [.ref 123, .int v1] σ (some (.int o.1)) o.2 := Ev.of2 (by decide +kernel) rfl (Nat.le_of_ble_eq_true rfl) ⟨.boolean, rfl, nrB (bzo2 h)⟩ (t_LawReader_readLaw0 v1 σ (bzo1 h))
def Pz_law0 (v1 : Int32) (σ : MH) : Option (Int32 × MH) := if v1 < (1 : Int32) then some ((-1 : Int32), σ) else (if (240 : Int32) < v1 then some ((-1 : Int32), σ) else (if v1 ≤ σ.1 109 1 then ((LawReader_readLaw v1 σ).bind fun (x1, σ2) => if x1 = (0 : Int32) then some ((sI σ2 109 1 (0 : Int32)).1 123 3, sI σ2 109 1 (0 : Int32)) else ((Law_copyFrom (sI σ2 109 1 (0 : Int32))).bind fun σ5 => some (σ5.1 111 6, σ5))) else some ((-1 : Int32), σ)))
set_option maxRecDepth 20000 in
set_option maxHeartbeats 2000000 in
theorem t_Pz_law0 (v1 : Int32)  (σ : MH) {o} (h : Pz_law0 v1 σ = some o) : Go m_Pz_law 77 (some 0, [some (.ref 0), some (.int v1), none], [], σ) ((none, [], [.int o.1], o.2)) := by
  unfold Pz_law0 at h
  refine Go.t (Go_sg bk_Pz_law 0 2 (c2 := (some 2, [some (.ref 0), some (.int v1), none], [.int (1 : Int32), .int v1], σ)) (ps := []) rfl trivial) ?_
  refine Go_icmp_lt bk_Pz_law 2 rfl (fun c10 => ?_) (fun c10 => ?_)
  · have h := ifT c10 h
    have h := Option.some.inj h
    subst h
    refine Go.t (Go_sg bk_Pz_law 11 1 (c2 := (some 24, [some (.ref 0), some (.int v1), none], [.int (-1 : Int32)], σ)) (ps := []) rfl trivial) ?_
    exact Go_reti bk_Pz_law 12 rfl
  · have h := ifF c10 h
    refine Go.t (Go_sg bk_Pz_law 3 2 (c2 := (some 9, [some (.ref 0), some (.int v1), none], [.int (240 : Int32), .int v1], σ)) (ps := []) rfl trivial) ?_
    refine Go_icmp_gt bk_Pz_law 5 rfl (fun c9 => ?_) (fun c9 => ?_)
    · have h := ifT c9 h
      have h := Option.some.inj h
      subst h
      refine Go.t (Go_sg bk_Pz_law 11 1 (c2 := (some 24, [some (.ref 0), some (.int v1), none], [.int (-1 : Int32)], σ)) (ps := []) rfl trivial) ?_
      exact Go_reti bk_Pz_law 12 rfl
    · have h := ifF c9 h
      refine Go.t (Go_sg bk_Pz_law 6 4 (c2 := (some 20, [some (.ref 0), some (.int v1), none], [.int (σ.1 109 1), .int v1], σ)) (ps := [shk 0 = 10, shk 109 = 9]) rfl ⟨rfl, rfl, trivial⟩) ?_
      refine Go_icmp_le bk_Pz_law 10 rfl (fun c8 => ?_) (fun c8 => ?_)
      · have h := ifT c8 h
        refine Go.t (Go_sg bk_Pz_law 13 3 (c2 := (some 30, [some (.ref 0), some (.int v1), none], [.int v1, .ref 123], σ)) (ps := [shk 0 = 10]) rfl ⟨rfl, trivial⟩) ?_
        obtain ⟨⟨x1, σ2⟩, q3, h⟩ := bdS h
        dsimp only at h
        refine Go.t (Go_callV bk_Pz_law 16 rfl nk_LawReader_readLaw tw605 tw606 tw607 (ci := 5) rfl (as := [.int v1]) (S := []) rfl rfl rfl rfl (Nat.le_of_ble_eq_true rfl) (Nat.le_of_ble_eq_true rfl) (ev_LawReader_readLaw _ _ q3)) ?_
        refine Go.t (Go_sg bk_Pz_law 17 6 (c2 := (some 43, [some (.ref 0), some (.int v1), some (.int x1)], [.int x1], sI σ2 109 1 (0 : Int32))) (ps := [shk 0 = 10, shk 109 = 9]) rfl ⟨rfl, rfl, trivial⟩) ?_
        refine Go_if_ne bk_Pz_law 23 rfl (fun c7 => ?_) (fun c7 => ?_)
        · have h := ifF c7 h
          refine Go.t (Go_sg bk_Pz_law 28 4 (c2 := (some 62, [some (.ref 0), some (.int v1), some (.int x1)], [.ref 117, .ref 111], sI σ2 109 1 (0 : Int32))) (ps := [shk 0 = 10, shk 0 = 10]) rfl ⟨rfl, rfl, trivial⟩) ?_
          obtain ⟨σ5, q6, h⟩ := bdS h
          refine Go.t (Go_callV bk_Pz_law 32 rfl nk_Law_copyFrom tw779 tw780 tw781 (ci := 4) rfl (as := [.ref 117]) (S := []) rfl rfl rfl rfl (Nat.le_of_ble_eq_true rfl) (Nat.le_of_ble_eq_true rfl) (ev_Law_copyFrom _ q6)) ?_
          have h := Option.some.inj h
          subst h
          refine Go.t (Go_sg bk_Pz_law 33 3 (c2 := (some 72, [some (.ref 0), some (.int v1), some (.int x1)], [.int (σ5.1 111 6)], σ5)) (ps := [shk 0 = 10, shk 111 = 4]) rfl ⟨rfl, rfl, trivial⟩) ?_
          exact Go_reti bk_Pz_law 36 rfl
        · have h := ifT c7 h
          have h := Option.some.inj h
          subst h
          refine Go.t (Go_sg bk_Pz_law 24 3 (c2 := (some 53, [some (.ref 0), some (.int v1), some (.int x1)], [.int ((sI σ2 109 1 (0 : Int32)).1 123 3)], sI σ2 109 1 (0 : Int32))) (ps := [shk 0 = 10, shk 123 = 5]) rfl ⟨rfl, rfl, trivial⟩) ?_
          exact Go_reti bk_Pz_law 27 rfl
      · have h := ifF c8 h
        have h := Option.some.inj h
        subst h
        refine Go.t (Go_sg bk_Pz_law 11 1 (c2 := (some 24, [some (.ref 0), some (.int v1), none], [.int (-1 : Int32)], σ)) (ps := []) rfl trivial) ?_
        exact Go_reti bk_Pz_law 12 rfl
def Pz_law (v1 : Int32) (σ : MH) : Option (Int32 × MH) := Pz_law0 v1 σ
set_option maxRecDepth 20000 in
set_option maxHeartbeats 2000000 in
theorem ev_Pz_law (v1 : Int32)  (σ : MH) {o} (h : Pz_law v1 σ = some o) : Ev m_Pz_law 77 [.ref 0, .int v1] σ (some (.int o.1)) o.2 := Ev.of2 (by decide +kernel) rfl (Nat.le_of_ble_eq_true rfl) ⟨.int, rfl, rfl⟩ (t_Pz_law0 v1 σ h)
