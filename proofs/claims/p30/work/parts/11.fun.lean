/-! FUNCTIONS: Pz_isNumber Land_isTold Pz_person Pz_wear Land_isAlive Land_separate Land_bury Pz_dies Land_isFree Land_join Pz_weds Tape_add Pz_feed Reader_begin Reader_isEnd Reader_sign String_isLatin1_t0 String_coder_t0 String_length_t0 StringLatin1_canEncode StringLatin1_indexOfChar_t0 StringLatin1_indexOf_t0 String_indexOf_ii_t0 String_indexOf_i_t0 Law_emit Reader_failAt Reader_fail LawReader_pass Law_copyFrom Reader_begin_2 Reader_sign_2 Reader_failAt_2 Reader_fail_2 ListReader_readHeight ListReader_readTimes ListReader_put Reader_isEnd_2 ListReader_readEdge Pz_edge ListReader_readWay -/
def Pz_isNumber0 (v0 : Int32) (σ : MH) : Option (Int32) := if v0 < (0 : Int32) then some ((0 : Int32)) else (if (12 : Int32) ≤ v0 then some ((0 : Int32)) else some ((1 : Int32)))
set_option maxRecDepth 20000 in
set_option maxHeartbeats 2000000 in
theorem t_Pz_isNumber0 (v0 : Int32)  (σ : MH) {o} (h : Pz_isNumber0 v0 σ = some o) : Go m_Pz_isNumber 1 (some 0, [some (.int v0)], [], σ) ((none, [], [.int o], σ)) := by
  unfold Pz_isNumber0 at h
  refine Go.t (Go_sg bk_Pz_isNumber 0 1 (c2 := (some 1, [some (.int v0)], [.int v0], σ)) (ps := []) rfl trivial) ?_
  refine Go_if_lt bk_Pz_isNumber 1 rfl (fun c2 => ?_) (fun c2 => ?_)
  · have h := ifT c2 h
    have h := Option.some.inj h
    subst h
    refine Go.t (Go_sg bk_Pz_isNumber 7 1 (c2 := (some 15, [some (.int v0)], [.int (0 : Int32)], σ)) (ps := []) rfl trivial) ?_
    exact Go_reti bk_Pz_isNumber 8 rfl
  · have h := ifF c2 h
    refine Go.t (Go_sg bk_Pz_isNumber 2 2 (c2 := (some 7, [some (.int v0)], [.int (12 : Int32), .int v0], σ)) (ps := []) rfl trivial) ?_
    refine Go_icmp_ge bk_Pz_isNumber 4 rfl (fun c1 => ?_) (fun c1 => ?_)
    · have h := ifT c1 h
      have h := Option.some.inj h
      subst h
      refine Go.t (Go_sg bk_Pz_isNumber 7 1 (c2 := (some 15, [some (.int v0)], [.int (0 : Int32)], σ)) (ps := []) rfl trivial) ?_
      exact Go_reti bk_Pz_isNumber 8 rfl
    · have h := ifF c1 h
      refine Go.t (Go_sg bk_Pz_isNumber 5 2 (c2 := (some 15, [some (.int v0)], [.int (1 : Int32)], σ)) (ps := []) rfl trivial) ?_
      have h := Option.some.inj h
      subst h
      exact Go_reti bk_Pz_isNumber 8 rfl
def Pz_isNumber (v0 : Int32) (σ : MH) : Option (Int32) := bzp (Pz_isNumber0 v0 σ)
set_option maxRecDepth 20000 in
set_option maxHeartbeats 2000000 in
theorem ev_Pz_isNumber (v0 : Int32)  (σ : MH) {o} (h : Pz_isNumber v0 σ = some o) : Ev m_Pz_isNumber 1 [.int v0] σ (some (.int o)) σ := Ev.of2 (by decide +kernel) rfl (Nat.le_of_ble_eq_true rfl) ⟨.boolean, rfl, nrB (bzp2 h)⟩ (t_Pz_isNumber0 v0 σ (bzp1 h))
def Land_isTold0 (v0 : Nat) (v1 : Int32) (σ : MH) : Option (Int32) := (Pz_isNumber v1 σ).bind fun x1 => if x1 = (0 : Int32) then some ((0 : Int32)) else (if (jshr (σ.1 v0 0) v1) &&& (1 : Int32) = (1 : Int32) then some ((1 : Int32)) else some ((0 : Int32)))
set_option maxRecDepth 20000 in
set_option maxHeartbeats 2000000 in
theorem t_Land_isTold0 (v0 : Nat) (v1 : Int32) (hv0 : isLd v0) (σ : MH) {o} (h : Land_isTold0 v0 v1 σ = some o) : Go m_Land_isTold 2 (some 0, [some (.ref v0), some (.int v1)], [], σ) ((none, [], [.int o], σ)) := by
  unfold Land_isTold0 at h
  refine Go.t (Go_sg bk_Land_isTold 0 1 (c2 := (some 1, [some (.ref v0), some (.int v1)], [.int v1], σ)) (ps := []) rfl trivial) ?_
  obtain ⟨x1, q3, h⟩ := bdS h
  refine Go.t (Go_callN bk_Land_isTold 1 rfl nk_Pz_isNumber (host := RX11) (by decide +kernel) tw553 (as := [.int v1]) (S := []) rfl rfl rfl (Nat.le_of_ble_eq_true rfl) (Nat.le_of_ble_eq_true rfl) (ev_Pz_isNumber _ _ q3)) ?_
  refine Go_if_eq bk_Land_isTold 2 rfl (fun c5 => ?_) (fun c5 => ?_)
  · have h := ifT c5 h
    have h := Option.some.inj h
    subst h
    refine Go.t (Go_sg bk_Land_isTold 13 1 (c2 := (some 24, [some (.ref v0), some (.int v1)], [.int (0 : Int32)], σ)) (ps := []) rfl trivial) ?_
    exact Go_reti bk_Land_isTold 14 rfl
  · have h := ifF c5 h
    refine Go.t (Go_sg bk_Land_isTold 3 7 (c2 := (some 16, [some (.ref v0), some (.int v1)], [.int (1 : Int32), .int ((jshr (σ.1 v0 0) v1) &&& (1 : Int32))], σ)) (ps := [shk v0 = 3]) rfl ⟨(ldk hv0), trivial⟩) ?_
    refine Go_icmp_ne bk_Land_isTold 10 rfl (fun c4 => ?_) (fun c4 => ?_)
    · have h := ifF c4 h
      have h := Option.some.inj h
      subst h
      refine Go.t (Go_sg bk_Land_isTold 13 1 (c2 := (some 24, [some (.ref v0), some (.int v1)], [.int (0 : Int32)], σ)) (ps := []) rfl trivial) ?_
      exact Go_reti bk_Land_isTold 14 rfl
    · have h := ifT c4 h
      refine Go.t (Go_sg bk_Land_isTold 11 2 (c2 := (some 24, [some (.ref v0), some (.int v1)], [.int (1 : Int32)], σ)) (ps := []) rfl trivial) ?_
      have h := Option.some.inj h
      subst h
      exact Go_reti bk_Land_isTold 14 rfl
def Land_isTold (v0 : Nat) (v1 : Int32) (σ : MH) : Option (Int32) := bzp (Land_isTold0 v0 v1 σ)
set_option maxRecDepth 20000 in
set_option maxHeartbeats 2000000 in
theorem ev_Land_isTold (v0 : Nat) (v1 : Int32) (hv0 : isLd v0) (σ : MH) {o} (h : Land_isTold v0 v1 σ = some o) : Ev m_Land_isTold 2 [.ref v0, .int v1] σ (some (.int o)) σ := Ev.of2 (by decide +kernel) rfl (Nat.le_of_ble_eq_true rfl) ⟨.boolean, rfl, nrB (bzp2 h)⟩ (t_Land_isTold0 v0 v1 hv0 σ (bzp1 h))
def Pz_person0 (v1 : Int32) (v2 : Int32) (v3 : Int32) (σ : MH) : Option (Int32 × MH) := (Pz_isNumber v1 σ).bind fun x1 => if x1 = (0 : Int32) then some ((0 : Int32), σ) else ((Land_isTold 1 v1 σ).bind fun x4 => if x4 = (0 : Int32) then (if v2 < (0 : Int32) then some ((0 : Int32), σ) else (if (1 : Int32) < v2 then some ((0 : Int32), σ) else (if v3 < (0 : Int32) then some ((0 : Int32), σ) else (if v3 < (6 : Int32) then (if inb v1 12 = true then some ((1 : Int32), sI (sI (sI (sI σ 1 0 ((σ.1 1 0) ||| (jshl (1 : Int32) v1))) 1 1 (((sI σ 1 0 ((σ.1 1 0) ||| (jshl (1 : Int32) v1))).1 1 1) ||| (jshl (1 : Int32) v1))) 2 v1.toNatClampNeg v2) 3 v1.toNatClampNeg v3) else none) else some ((0 : Int32), σ))))) else some ((0 : Int32), σ))
set_option maxRecDepth 20000 in
set_option maxHeartbeats 2000000 in
theorem t_Pz_person0 (v1 : Int32) (v2 : Int32) (v3 : Int32)  (σ : MH) {o} (h : Pz_person0 v1 v2 v3 σ = some o) : Go m_Pz_person 3 (some 0, [some (.ref 0), some (.int v1), some (.int v2), some (.int v3)], [], σ) ((none, [], [.int o.1], o.2)) := by
  unfold Pz_person0 at h
  refine Go.t (Go_sg bk_Pz_person 0 1 (c2 := (some 1, [some (.ref 0), some (.int v1), some (.int v2), some (.int v3)], [.int v1], σ)) (ps := []) rfl trivial) ?_
  obtain ⟨x1, q3, h⟩ := bdS h
  refine Go.t (Go_callS bk_Pz_person 1 rfl nk_Pz_isNumber tw552 tw553 (as := [.int v1]) (S := []) rfl rfl rfl (Nat.le_of_ble_eq_true rfl) (Nat.le_of_ble_eq_true rfl) (ev_Pz_isNumber _ _ q3)) ?_
  refine Go_if_eq bk_Pz_person 2 rfl (fun c13 => ?_) (fun c13 => ?_)
  · have h := ifT c13 h
    have h := Option.some.inj h
    subst h
    refine Go.t (Go_sg bk_Pz_person 18 1 (c2 := (some 38, [some (.ref 0), some (.int v1), some (.int v2), some (.int v3)], [.int (0 : Int32)], σ)) (ps := []) rfl trivial) ?_
    exact Go_reti bk_Pz_person 19 rfl
  · have h := ifF c13 h
    refine Go.t (Go_sg bk_Pz_person 3 3 (c2 := (some 12, [some (.ref 0), some (.int v1), some (.int v2), some (.int v3)], [.int v1, .ref 1], σ)) (ps := [shk 0 = 10]) rfl ⟨rfl, trivial⟩) ?_
    obtain ⟨x4, q6, h⟩ := bdS h
    refine Go.t (Go_callV bk_Pz_person 6 rfl nk_Land_isTold tw555 tw556 tw557 (ci := 3) rfl (as := [.int v1]) (S := []) rfl rfl rfl rfl (Nat.le_of_ble_eq_true rfl) (Nat.le_of_ble_eq_true rfl) (ev_Land_isTold _ _ (Or.inl rfl) _ q6)) ?_
    refine Go_if_ne bk_Pz_person 7 rfl (fun c12 => ?_) (fun c12 => ?_)
    · have h := ifF c12 h
      have h := Option.some.inj h
      subst h
      refine Go.t (Go_sg bk_Pz_person 18 1 (c2 := (some 38, [some (.ref 0), some (.int v1), some (.int v2), some (.int v3)], [.int (0 : Int32)], σ)) (ps := []) rfl trivial) ?_
      exact Go_reti bk_Pz_person 19 rfl
    · have h := ifT c12 h
      refine Go.t (Go_sg bk_Pz_person 8 1 (c2 := (some 19, [some (.ref 0), some (.int v1), some (.int v2), some (.int v3)], [.int v2], σ)) (ps := []) rfl trivial) ?_
      refine Go_if_lt bk_Pz_person 9 rfl (fun c11 => ?_) (fun c11 => ?_)
      · have h := ifT c11 h
        have h := Option.some.inj h
        subst h
        refine Go.t (Go_sg bk_Pz_person 18 1 (c2 := (some 38, [some (.ref 0), some (.int v1), some (.int v2), some (.int v3)], [.int (0 : Int32)], σ)) (ps := []) rfl trivial) ?_
        exact Go_reti bk_Pz_person 19 rfl
      · have h := ifF c11 h
        refine Go.t (Go_sg bk_Pz_person 10 2 (c2 := (some 24, [some (.ref 0), some (.int v1), some (.int v2), some (.int v3)], [.int (1 : Int32), .int v2], σ)) (ps := []) rfl trivial) ?_
        refine Go_icmp_gt bk_Pz_person 12 rfl (fun c10 => ?_) (fun c10 => ?_)
        · have h := ifT c10 h
          have h := Option.some.inj h
          subst h
          refine Go.t (Go_sg bk_Pz_person 18 1 (c2 := (some 38, [some (.ref 0), some (.int v1), some (.int v2), some (.int v3)], [.int (0 : Int32)], σ)) (ps := []) rfl trivial) ?_
          exact Go_reti bk_Pz_person 19 rfl
        · have h := ifF c10 h
          refine Go.t (Go_sg bk_Pz_person 13 1 (c2 := (some 28, [some (.ref 0), some (.int v1), some (.int v2), some (.int v3)], [.int v3], σ)) (ps := []) rfl trivial) ?_
          refine Go_if_lt bk_Pz_person 14 rfl (fun c9 => ?_) (fun c9 => ?_)
          · have h := ifT c9 h
            have h := Option.some.inj h
            subst h
            refine Go.t (Go_sg bk_Pz_person 18 1 (c2 := (some 38, [some (.ref 0), some (.int v1), some (.int v2), some (.int v3)], [.int (0 : Int32)], σ)) (ps := []) rfl trivial) ?_
            exact Go_reti bk_Pz_person 19 rfl
          · have h := ifF c9 h
            refine Go.t (Go_sg bk_Pz_person 15 2 (c2 := (some 34, [some (.ref 0), some (.int v1), some (.int v2), some (.int v3)], [.int (6 : Int32), .int v3], σ)) (ps := []) rfl trivial) ?_
            refine Go_icmp_lt bk_Pz_person 17 rfl (fun c8 => ?_) (fun c8 => ?_)
            · have h := ifT c8 h
              obtain ⟨g7, h⟩ := gdS h
              have h := Option.some.inj h
              subst h
              refine Go.t (Go_sg bk_Pz_person 20 31 (c2 := (some 90, [some (.ref 0), some (.int v1), some (.int v2), some (.int v3)], [.int (1 : Int32)], sI (sI (sI (sI σ 1 0 ((σ.1 1 0) ||| (jshl (1 : Int32) v1))) 1 1 (((sI σ 1 0 ((σ.1 1 0) ||| (jshl (1 : Int32) v1))).1 1 1) ||| (jshl (1 : Int32) v1))) 2 v1.toNatClampNeg v2) 3 v1.toNatClampNeg v3)) (ps := [shk 0 = 10, shk 1 = 3, shk 1 = 3, shk 0 = 10, shk 1 = 3, shk 1 = 3, shk 0 = 10, shk 1 = 3, IA 2 12 ∧ inb v1 12 = true, shk 0 = 10, shk 1 = 3, IA 3 12 ∧ inb v1 12 = true]) rfl ⟨rfl, rfl, rfl, rfl, rfl, rfl, rfl, rfl, ⟨⟨rfl, rfl⟩, g7⟩, rfl, rfl, ⟨⟨rfl, rfl⟩, g7⟩, trivial⟩) ?_
              exact Go_reti bk_Pz_person 51 rfl
            · have h := ifF c8 h
              have h := Option.some.inj h
              subst h
              refine Go.t (Go_sg bk_Pz_person 18 1 (c2 := (some 38, [some (.ref 0), some (.int v1), some (.int v2), some (.int v3)], [.int (0 : Int32)], σ)) (ps := []) rfl trivial) ?_
              exact Go_reti bk_Pz_person 19 rfl
def Pz_person (v1 : Int32) (v2 : Int32) (v3 : Int32) (σ : MH) : Option (Int32 × MH) := bzo (Pz_person0 v1 v2 v3 σ)
set_option maxRecDepth 20000 in
set_option maxHeartbeats 2000000 in
theorem ev_Pz_person (v1 : Int32) (v2 : Int32) (v3 : Int32)  (σ : MH) {o} (h : Pz_person v1 v2 v3 σ = some o) : Ev m_Pz_person 3 [.ref 0, .int v1, .int v2, .int v3] σ (some (.int o.1)) o.2 := Ev.of2 (by decide +kernel) rfl (Nat.le_of_ble_eq_true rfl) ⟨.boolean, rfl, nrB (bzo2 h)⟩ (t_Pz_person0 v1 v2 v3 σ (bzo1 h))
def Pz_wear0 (v1 : Int32) (v2 : Int32) (σ : MH) : Option (Int32 × MH) := (Pz_isNumber v1 σ).bind fun x1 => if x1 = (0 : Int32) then some ((0 : Int32), σ) else (if v2 < (0 : Int32) then some ((0 : Int32), σ) else (if v2 ≤ (99 : Int32) then (if inb v1 12 = true then some ((1 : Int32), sI σ 8 v1.toNatClampNeg v2) else none) else some ((0 : Int32), σ)))
set_option maxRecDepth 20000 in
set_option maxHeartbeats 2000000 in
theorem t_Pz_wear0 (v1 : Int32) (v2 : Int32)  (σ : MH) {o} (h : Pz_wear0 v1 v2 σ = some o) : Go m_Pz_wear 2 (some 0, [some (.ref 0), some (.int v1), some (.int v2)], [], σ) ((none, [], [.int o.1], o.2)) := by
  unfold Pz_wear0 at h
  refine Go.t (Go_sg bk_Pz_wear 0 1 (c2 := (some 1, [some (.ref 0), some (.int v1), some (.int v2)], [.int v1], σ)) (ps := []) rfl trivial) ?_
  obtain ⟨x1, q3, h⟩ := bdS h
  refine Go.t (Go_callS bk_Pz_wear 1 rfl nk_Pz_isNumber tw552 tw553 (as := [.int v1]) (S := []) rfl rfl rfl (Nat.le_of_ble_eq_true rfl) (Nat.le_of_ble_eq_true rfl) (ev_Pz_isNumber _ _ q3)) ?_
  refine Go_if_eq bk_Pz_wear 2 rfl (fun c7 => ?_) (fun c7 => ?_)
  · have h := ifT c7 h
    have h := Option.some.inj h
    subst h
    refine Go.t (Go_sg bk_Pz_wear 8 1 (c2 := (some 18, [some (.ref 0), some (.int v1), some (.int v2)], [.int (0 : Int32)], σ)) (ps := []) rfl trivial) ?_
    exact Go_reti bk_Pz_wear 9 rfl
  · have h := ifF c7 h
    refine Go.t (Go_sg bk_Pz_wear 3 1 (c2 := (some 8, [some (.ref 0), some (.int v1), some (.int v2)], [.int v2], σ)) (ps := []) rfl trivial) ?_
    refine Go_if_lt bk_Pz_wear 4 rfl (fun c6 => ?_) (fun c6 => ?_)
    · have h := ifT c6 h
      have h := Option.some.inj h
      subst h
      refine Go.t (Go_sg bk_Pz_wear 8 1 (c2 := (some 18, [some (.ref 0), some (.int v1), some (.int v2)], [.int (0 : Int32)], σ)) (ps := []) rfl trivial) ?_
      exact Go_reti bk_Pz_wear 9 rfl
    · have h := ifF c6 h
      refine Go.t (Go_sg bk_Pz_wear 5 2 (c2 := (some 14, [some (.ref 0), some (.int v1), some (.int v2)], [.int (99 : Int32), .int v2], σ)) (ps := []) rfl trivial) ?_
      refine Go_icmp_le bk_Pz_wear 7 rfl (fun c5 => ?_) (fun c5 => ?_)
      · have h := ifT c5 h
        obtain ⟨g4, h⟩ := gdS h
        have h := Option.some.inj h
        subst h
        refine Go.t (Go_sg bk_Pz_wear 10 7 (c2 := (some 30, [some (.ref 0), some (.int v1), some (.int v2)], [.int (1 : Int32)], sI σ 8 v1.toNatClampNeg v2)) (ps := [shk 0 = 10, shk 1 = 3, IA 8 12 ∧ inb v1 12 = true]) rfl ⟨rfl, rfl, ⟨⟨rfl, rfl⟩, g4⟩, trivial⟩) ?_
        exact Go_reti bk_Pz_wear 17 rfl
      · have h := ifF c5 h
        have h := Option.some.inj h
        subst h
        refine Go.t (Go_sg bk_Pz_wear 8 1 (c2 := (some 18, [some (.ref 0), some (.int v1), some (.int v2)], [.int (0 : Int32)], σ)) (ps := []) rfl trivial) ?_
        exact Go_reti bk_Pz_wear 9 rfl
def Pz_wear (v1 : Int32) (v2 : Int32) (σ : MH) : Option (Int32 × MH) := bzo (Pz_wear0 v1 v2 σ)
set_option maxRecDepth 20000 in
set_option maxHeartbeats 2000000 in
theorem ev_Pz_wear (v1 : Int32) (v2 : Int32)  (σ : MH) {o} (h : Pz_wear v1 v2 σ = some o) : Ev m_Pz_wear 2 [.ref 0, .int v1, .int v2] σ (some (.int o.1)) o.2 := Ev.of2 (by decide +kernel) rfl (Nat.le_of_ble_eq_true rfl) ⟨.boolean, rfl, nrB (bzo2 h)⟩ (t_Pz_wear0 v1 v2 σ (bzo1 h))
def Land_isAlive0 (v0 : Nat) (v1 : Int32) (σ : MH) : Option (Int32) := (Pz_isNumber v1 σ).bind fun x1 => if x1 = (0 : Int32) then some ((0 : Int32)) else (if (jshr (σ.1 v0 1) v1) &&& (1 : Int32) = (1 : Int32) then some ((1 : Int32)) else some ((0 : Int32)))
set_option maxRecDepth 20000 in
set_option maxHeartbeats 2000000 in
theorem t_Land_isAlive0 (v0 : Nat) (v1 : Int32) (hv0 : isLd v0) (σ : MH) {o} (h : Land_isAlive0 v0 v1 σ = some o) : Go m_Land_isAlive 2 (some 0, [some (.ref v0), some (.int v1)], [], σ) ((none, [], [.int o], σ)) := by
  unfold Land_isAlive0 at h
  refine Go.t (Go_sg bk_Land_isAlive 0 1 (c2 := (some 1, [some (.ref v0), some (.int v1)], [.int v1], σ)) (ps := []) rfl trivial) ?_
  obtain ⟨x1, q3, h⟩ := bdS h
  refine Go.t (Go_callN bk_Land_isAlive 1 rfl nk_Pz_isNumber (host := RX11) (by decide +kernel) tw553 (as := [.int v1]) (S := []) rfl rfl rfl (Nat.le_of_ble_eq_true rfl) (Nat.le_of_ble_eq_true rfl) (ev_Pz_isNumber _ _ q3)) ?_
  refine Go_if_eq bk_Land_isAlive 2 rfl (fun c5 => ?_) (fun c5 => ?_)
  · have h := ifT c5 h
    have h := Option.some.inj h
    subst h
    refine Go.t (Go_sg bk_Land_isAlive 13 1 (c2 := (some 24, [some (.ref v0), some (.int v1)], [.int (0 : Int32)], σ)) (ps := []) rfl trivial) ?_
    exact Go_reti bk_Land_isAlive 14 rfl
  · have h := ifF c5 h
    refine Go.t (Go_sg bk_Land_isAlive 3 7 (c2 := (some 16, [some (.ref v0), some (.int v1)], [.int (1 : Int32), .int ((jshr (σ.1 v0 1) v1) &&& (1 : Int32))], σ)) (ps := [shk v0 = 3]) rfl ⟨(ldk hv0), trivial⟩) ?_
    refine Go_icmp_ne bk_Land_isAlive 10 rfl (fun c4 => ?_) (fun c4 => ?_)
    · have h := ifF c4 h
      have h := Option.some.inj h
      subst h
      refine Go.t (Go_sg bk_Land_isAlive 13 1 (c2 := (some 24, [some (.ref v0), some (.int v1)], [.int (0 : Int32)], σ)) (ps := []) rfl trivial) ?_
      exact Go_reti bk_Land_isAlive 14 rfl
    · have h := ifT c4 h
      refine Go.t (Go_sg bk_Land_isAlive 11 2 (c2 := (some 24, [some (.ref v0), some (.int v1)], [.int (1 : Int32)], σ)) (ps := []) rfl trivial) ?_
      have h := Option.some.inj h
      subst h
      exact Go_reti bk_Land_isAlive 14 rfl
def Land_isAlive (v0 : Nat) (v1 : Int32) (σ : MH) : Option (Int32) := bzp (Land_isAlive0 v0 v1 σ)
set_option maxRecDepth 20000 in
set_option maxHeartbeats 2000000 in
theorem ev_Land_isAlive (v0 : Nat) (v1 : Int32) (hv0 : isLd v0) (σ : MH) {o} (h : Land_isAlive v0 v1 σ = some o) : Ev m_Land_isAlive 2 [.ref v0, .int v1] σ (some (.int o)) σ := Ev.of2 (by decide +kernel) rfl (Nat.le_of_ble_eq_true rfl) ⟨.boolean, rfl, nrB (bzp2 h)⟩ (t_Land_isAlive0 v0 v1 hv0 σ (bzp1 h))
def Land_separate0 (v0 : Nat) (v1 : Int32) (v2 : Int32) (σ : MH) : Option (MH) := (Pz_isNumber v1 σ).bind fun x1 => if x1 = (0 : Int32) then some (σ) else ((Pz_isNumber v2 σ).bind fun x4 => if x4 = (0 : Int32) then some (σ) else (if inb v1 12 = true then if inb v2 12 = true then some (sI (sI σ (rfv v0 4) v1.toNatClampNeg (-2 : Int32)) (rfv v0 4) v2.toNatClampNeg (-2 : Int32)) else none else none))
set_option maxRecDepth 20000 in
set_option maxHeartbeats 2000000 in
theorem t_Land_separate0 (v0 : Nat) (v1 : Int32) (v2 : Int32) (hv0 : isLd v0) (σ : MH) {o} (h : Land_separate0 v0 v1 v2 σ = some o) : Go m_Land_separate 2 (some 0, [some (.ref v0), some (.int v1), some (.int v2)], [], σ) ((none, [], [], o)) := by
  unfold Land_separate0 at h
  refine Go.t (Go_sg bk_Land_separate 0 1 (c2 := (some 1, [some (.ref v0), some (.int v1), some (.int v2)], [.int v1], σ)) (ps := []) rfl trivial) ?_
  obtain ⟨x1, q3, h⟩ := bdS h
  refine Go.t (Go_callN bk_Land_separate 1 rfl nk_Pz_isNumber (host := RX11) (by decide +kernel) tw553 (as := [.int v1]) (S := []) rfl rfl rfl (Nat.le_of_ble_eq_true rfl) (Nat.le_of_ble_eq_true rfl) (ev_Pz_isNumber _ _ q3)) ?_
  refine Go_if_eq bk_Land_separate 2 rfl (fun c10 => ?_) (fun c10 => ?_)
  · have h := ifT c10 h
    have h := Option.some.inj h
    subst h
    exact Go_ret0 bk_Land_separate 16 rfl
  · have h := ifF c10 h
    refine Go.t (Go_sg bk_Land_separate 3 1 (c2 := (some 8, [some (.ref v0), some (.int v1), some (.int v2)], [.int v2], σ)) (ps := []) rfl trivial) ?_
    obtain ⟨x4, q6, h⟩ := bdS h
    refine Go.t (Go_callN bk_Land_separate 4 rfl nk_Pz_isNumber (host := RX11) (by decide +kernel) tw553 (as := [.int v2]) (S := []) rfl rfl rfl (Nat.le_of_ble_eq_true rfl) (Nat.le_of_ble_eq_true rfl) (ev_Pz_isNumber _ _ q6)) ?_
    refine Go_if_eq bk_Land_separate 5 rfl (fun c9 => ?_) (fun c9 => ?_)
    · have h := ifT c9 h
      have h := Option.some.inj h
      subst h
      exact Go_ret0 bk_Land_separate 16 rfl
    · have h := ifF c9 h
      obtain ⟨g7, h⟩ := gdS h
      obtain ⟨g8, h⟩ := gdS h
      have h := Option.some.inj h
      subst h
      refine Go.t (Go_sg bk_Land_separate 6 10 (c2 := (some 30, [some (.ref v0), some (.int v1), some (.int v2)], [], sI (sI σ (rfv v0 4) v1.toNatClampNeg (-2 : Int32)) (rfv v0 4) v2.toNatClampNeg (-2 : Int32))) (ps := [shk v0 = 3, IA (rfv v0 4) 12 ∧ inb v1 12 = true, shk v0 = 3, IA (rfv v0 4) 12 ∧ inb v2 12 = true]) rfl ⟨(ldk hv0), ⟨(ldA hv0 4 rfl), g7⟩, (ldk hv0), ⟨(ldA hv0 4 rfl), g8⟩, trivial⟩) ?_
      exact Go_ret0 bk_Land_separate 16 rfl
def Land_separate (v0 : Nat) (v1 : Int32) (v2 : Int32) (σ : MH) : Option (MH) := Land_separate0 v0 v1 v2 σ
set_option maxRecDepth 20000 in
set_option maxHeartbeats 2000000 in
theorem ev_Land_separate (v0 : Nat) (v1 : Int32) (v2 : Int32) (hv0 : isLd v0) (σ : MH) {o} (h : Land_separate v0 v1 v2 σ = some o) : Ev m_Land_separate 2 [.ref v0, .int v1, .int v2] σ none o := Ev.of2 (by decide +kernel) rfl (Nat.le_of_ble_eq_true rfl) rfl (t_Land_separate0 v0 v1 v2 hv0 σ h)
def cH_Land_bury_17 (v0 : Nat) (v1 : Int32) (v2 : Int32) (s : Int32 × MH) : MC := (some 17, [some (.ref v0), some (.int v1), some (.int v2), some (.int s.1)], [], s.2)
def cR_Land_bury_17 (v0 : Nat) (v1 : Int32) (v2 : Int32) : ((MH)) → MC := (fun r : MH => ((some 46, [some (.ref v0), some (.int v1), some (.int v2), none], [], r) : MC))
def Land_bury_b40 (v0 : Nat) (v1 : Int32) (v2 : Int32) (v3 : Int32) (σ : MH) : Option (((Int32 × MH) ⊕ ((MH)))) := some (.inl (v3 + (1 : Int32), σ))
set_option maxRecDepth 20000 in
set_option maxHeartbeats 2000000 in
theorem t_Land_bury_b40 (v0 : Nat) (v1 : Int32) (v2 : Int32) (v3 : Int32) (hv0 : isLd v0)  (σ : MH) {o} (h : Land_bury_b40 v0 v1 v2 v3 σ = some o) : Go m_Land_bury 3 (some 40, [some (.ref v0), some (.int v1), some (.int v2), some (.int v3)], [], σ) (cS (cH_Land_bury_17 v0 v1 v2) (cR_Land_bury_17 v0 v1 v2) o) := by
  unfold Land_bury_b40 at h
  refine Go.t (Go_sg bk_Land_bury 25 2 (c2 := (some 17, [some (.ref v0), some (.int v1), some (.int v2), some (.int (v3 + (1 : Int32)))], [], σ)) (ps := []) rfl trivial) ?_
  have h := Option.some.inj h
  subst h
  exact Go.fg (LSub.cs (LSub.cs (LSub.cs (LSub.cs (LSub.nil)))))
def Land_bury_l17 (v0 : Nat) (v1 : Int32) (v2 : Int32) (v3 : Int32) (σ : MH) : Option (((Int32 × MH) ⊕ ((MH)))) := if (12 : Int32) ≤ v3 then some (.inr (σ)) else (if inb v3 12 = true then if σ.1 (rfv v0 7) v3.toNatClampNeg = v1 then Land_bury_b40 v0 v1 v2 v3 (sI σ (rfv v0 7) v3.toNatClampNeg v2) else (Land_bury_b40 v0 v1 v2 v3 σ) else none)
set_option maxRecDepth 20000 in
set_option maxHeartbeats 2000000 in
theorem t_Land_bury_l17 (v0 : Nat) (v1 : Int32) (v2 : Int32) (v3 : Int32) (hv0 : isLd v0) (σ : MH) {o} (h : Land_bury_l17 v0 v1 v2 v3 σ = some o) : Go m_Land_bury 3 (cH_Land_bury_17 v0 v1 v2 (v3, σ)) (cS (cH_Land_bury_17 v0 v1 v2) (cR_Land_bury_17 v0 v1 v2) o) := by
  unfold Land_bury_l17 at h
  unfold cH_Land_bury_17
  refine Go.t (Go_sg bk_Land_bury 11 2 (c2 := (some 20, [some (.ref v0), some (.int v1), some (.int v2), some (.int v3)], [.int (12 : Int32), .int v3], σ)) (ps := []) rfl trivial) ?_
  refine Go_icmp_ge bk_Land_bury 13 rfl (fun c7 => ?_) (fun c7 => ?_)
  · have h := ifT c7 h
    have h := Option.some.inj h
    subst h
    exact Go.fg (LSub.cs (LSub.cs (LSub.cs (LSub.cn (LSub.nil)))))
  · have h := ifF c7 h
    obtain ⟨g5, h⟩ := gdS h
    refine Go.t (Go_sg bk_Land_bury 14 5 (c2 := (some 30, [some (.ref v0), some (.int v1), some (.int v2), some (.int v3)], [.int v1, .int (σ.1 (rfv v0 7) v3.toNatClampNeg)], σ)) (ps := [shk v0 = 3, IA (rfv v0 7) 12 ∧ inb v3 12 = true]) rfl ⟨(ldk hv0), ⟨(ldA hv0 7 rfl), g5⟩, trivial⟩) ?_
    refine Go_icmp_ne bk_Land_bury 19 rfl (fun c6 => ?_) (fun c6 => ?_)
    · have h := ifF c6 h
      exact Go.t (Go.fg (LSub.cs (LSub.cs (LSub.cs (LSub.cs (LSub.nil)))))) (t_Land_bury_b40 v0 v1 v2 v3 hv0 σ h)
    · have h := ifT c6 h
      refine Go.t (Go_sg bk_Land_bury 20 5 (c2 := (some 40, [some (.ref v0), some (.int v1), some (.int v2), some (.int v3)], [], sI σ (rfv v0 7) v3.toNatClampNeg v2)) (ps := [shk v0 = 3, IA (rfv v0 7) 12 ∧ inb v3 12 = true]) rfl ⟨(ldk hv0), ⟨(ldA hv0 7 rfl), g5⟩, trivial⟩) ?_
      exact Go.t (Go.fg (LSub.cs (LSub.cs (LSub.cs (LSub.cs (LSub.nil)))))) (t_Land_bury_b40 v0 v1 v2 v3 hv0 (sI σ (rfv v0 7) v3.toNatClampNeg v2) h)
def Land_bury_L17 (v0 : Nat) (v1 : Int32) (v2 : Int32) (s : Int32 × MH) : Option ((MH)) := itr (fun s : Int32 × MH => Land_bury_l17 v0 v1 v2 s.1 s.2) FU s
set_option maxRecDepth 20000 in
set_option maxHeartbeats 2000000 in
theorem t_Land_bury_L17 (v0 : Nat) (v1 : Int32) (v2 : Int32) (hv0 : isLd v0) (s : Int32 × MH) {r} (h : Land_bury_L17 v0 v1 v2 s = some r) : Go m_Land_bury 3 (cH_Land_bury_17 v0 v1 v2 s) (cR_Land_bury_17 v0 v1 v2 r) := Go_itr (fun s o ho => t_Land_bury_l17 v0 v1 v2 s.1 hv0 s.2 ho) FU s r h
def Land_bury0 (v0 : Nat) (v1 : Int32) (σ : MH) : Option (MH) := (Pz_isNumber v1 σ).bind fun x1 => if x1 = (0 : Int32) then some (σ) else (if inb v1 12 = true then (Land_bury_L17 v0 v1 (σ.1 (rfv v0 4) v1.toNatClampNeg) ((0 : Int32), σ)).bind fun z8 => (Land_separate v0 v1 (σ.1 (rfv v0 4) v1.toNatClampNeg) z8).bind fun σ11 => some (sI σ11 v0 1 ((σ11.1 v0 1) &&& ((jshl (1 : Int32) v1) ^^^ (-1 : Int32)))) else none)
set_option maxRecDepth 20000 in
set_option maxHeartbeats 2000000 in
theorem t_Land_bury0 (v0 : Nat) (v1 : Int32) (hv0 : isLd v0) (σ : MH) {o} (h : Land_bury0 v0 v1 σ = some o) : Go m_Land_bury 3 (some 0, [some (.ref v0), some (.int v1), none, none], [], σ) ((none, [], [], o)) := by
  unfold Land_bury0 at h
  refine Go.t (Go_sg bk_Land_bury 0 1 (c2 := (some 1, [some (.ref v0), some (.int v1), none, none], [.int v1], σ)) (ps := []) rfl trivial) ?_
  obtain ⟨x1, q3, h⟩ := bdS h
  refine Go.t (Go_callN bk_Land_bury 1 rfl nk_Pz_isNumber (host := RX11) (by decide +kernel) tw553 (as := [.int v1]) (S := []) rfl rfl rfl (Nat.le_of_ble_eq_true rfl) (Nat.le_of_ble_eq_true rfl) (ev_Pz_isNumber _ _ q3)) ?_
  refine Go_if_ne bk_Land_bury 2 rfl (fun c13 => ?_) (fun c13 => ?_)
  · have h := ifF c13 h
    obtain ⟨g4, h⟩ := gdS h
    refine Go.t (Go_sg bk_Land_bury 4 7 (c2 := (some 17, [some (.ref v0), some (.int v1), some (.int (σ.1 (rfv v0 4) v1.toNatClampNeg)), some (.int (0 : Int32))], [], σ)) (ps := [shk v0 = 3, IA (rfv v0 4) 12 ∧ inb v1 12 = true]) rfl ⟨(ldk hv0), ⟨(ldA hv0 4 rfl), g4⟩, trivial⟩) ?_
    obtain ⟨z8, q9, h⟩ := bdS h
    refine Go.t (Go.t (Go.fg (LSub.cs (LSub.cs (LSub.cs (LSub.cs (LSub.nil)))))) (t_Land_bury_L17 v0 v1 (σ.1 (rfv v0 4) v1.toNatClampNeg) hv0 _ q9)) ?_
    refine Go.t (Go_sg bk_Land_bury 27 3 (c2 := (some 49, [some (.ref v0), some (.int v1), some (.int (σ.1 (rfv v0 4) v1.toNatClampNeg)), none], [.int (σ.1 (rfv v0 4) v1.toNatClampNeg), .int v1, .ref v0], z8)) (ps := []) rfl trivial) ?_
    obtain ⟨σ11, q12, h⟩ := bdS h
    refine Go.t (Go_callV bk_Land_bury 30 rfl nk_Land_separate tw576 tw577 tw578 (ci := 3) rfl (as := [.int v1, .int (σ.1 (rfv v0 4) v1.toNatClampNeg)]) (S := []) (ldk hv0) rfl rfl rfl (Nat.le_of_ble_eq_true rfl) (Nat.le_of_ble_eq_true rfl) (ev_Land_separate _ _ _ hv0 _ q12)) ?_
    have h := Option.some.inj h
    subst h
    refine Go.t (Go_sg bk_Land_bury 31 10 (c2 := (some 66, [some (.ref v0), some (.int v1), some (.int (σ.1 (rfv v0 4) v1.toNatClampNeg)), none], [], sI σ11 v0 1 ((σ11.1 v0 1) &&& ((jshl (1 : Int32) v1) ^^^ (-1 : Int32))))) (ps := [shk v0 = 3, shk v0 = 3]) rfl ⟨(ldk hv0), (ldk hv0), trivial⟩) ?_
    exact Go_ret0 bk_Land_bury 41 rfl
  · have h := ifT c13 h
    have h := Option.some.inj h
    subst h
    exact Go_ret0 bk_Land_bury 3 rfl
def Land_bury (v0 : Nat) (v1 : Int32) (σ : MH) : Option (MH) := Land_bury0 v0 v1 σ
set_option maxRecDepth 20000 in
set_option maxHeartbeats 2000000 in
theorem ev_Land_bury (v0 : Nat) (v1 : Int32) (hv0 : isLd v0) (σ : MH) {o} (h : Land_bury v0 v1 σ = some o) : Ev m_Land_bury 3 [.ref v0, .int v1] σ none o := Ev.of2 (by decide +kernel) rfl (Nat.le_of_ble_eq_true rfl) rfl (t_Land_bury0 v0 v1 hv0 σ h)
def Pz_dies0 (v1 : Int32) (σ : MH) : Option (Int32 × MH) := (Land_isAlive 1 v1 σ).bind fun x1 => if x1 = (0 : Int32) then some ((0 : Int32), σ) else ((Land_bury 1 v1 σ).bind fun σ5 => some ((1 : Int32), σ5))
set_option maxRecDepth 20000 in
set_option maxHeartbeats 2000000 in
theorem t_Pz_dies0 (v1 : Int32)  (σ : MH) {o} (h : Pz_dies0 v1 σ = some o) : Go m_Pz_dies 4 (some 0, [some (.ref 0), some (.int v1)], [], σ) ((none, [], [.int o.1], o.2)) := by
  unfold Pz_dies0 at h
  refine Go.t (Go_sg bk_Pz_dies 0 3 (c2 := (some 5, [some (.ref 0), some (.int v1)], [.int v1, .ref 1], σ)) (ps := [shk 0 = 10]) rfl ⟨rfl, trivial⟩) ?_
  obtain ⟨x1, q3, h⟩ := bdS h
  refine Go.t (Go_callV bk_Pz_dies 3 rfl nk_Land_isAlive tw568 tw569 tw570 (ci := 3) rfl (as := [.int v1]) (S := []) rfl rfl rfl rfl (Nat.le_of_ble_eq_true rfl) (Nat.le_of_ble_eq_true rfl) (ev_Land_isAlive _ _ (Or.inl rfl) _ q3)) ?_
  refine Go_if_ne bk_Pz_dies 4 rfl (fun c7 => ?_) (fun c7 => ?_)
  · have h := ifF c7 h
    refine Go.t (Go_sg bk_Pz_dies 7 3 (c2 := (some 18, [some (.ref 0), some (.int v1)], [.int v1, .ref 1], σ)) (ps := [shk 0 = 10]) rfl ⟨rfl, trivial⟩) ?_
    obtain ⟨σ5, q6, h⟩ := bdS h
    refine Go.t (Go_callV bk_Pz_dies 10 rfl nk_Land_bury tw572 tw573 tw574 (ci := 3) rfl (as := [.int v1]) (S := []) rfl rfl rfl rfl (Nat.le_of_ble_eq_true rfl) (Nat.le_of_ble_eq_true rfl) (ev_Land_bury _ _ (Or.inl rfl) _ q6)) ?_
    have h := Option.some.inj h
    subst h
    refine Go.t (Go_sg bk_Pz_dies 11 1 (c2 := (some 22, [some (.ref 0), some (.int v1)], [.int (1 : Int32)], σ5)) (ps := []) rfl trivial) ?_
    exact Go_reti bk_Pz_dies 12 rfl
  · have h := ifT c7 h
    have h := Option.some.inj h
    subst h
    refine Go.t (Go_sg bk_Pz_dies 5 1 (c2 := (some 12, [some (.ref 0), some (.int v1)], [.int (0 : Int32)], σ)) (ps := []) rfl trivial) ?_
    exact Go_reti bk_Pz_dies 6 rfl
def Pz_dies (v1 : Int32) (σ : MH) : Option (Int32 × MH) := bzo (Pz_dies0 v1 σ)
set_option maxRecDepth 20000 in
set_option maxHeartbeats 2000000 in
theorem ev_Pz_dies (v1 : Int32)  (σ : MH) {o} (h : Pz_dies v1 σ = some o) : Ev m_Pz_dies 4 [.ref 0, .int v1] σ (some (.int o.1)) o.2 := Ev.of2 (by decide +kernel) rfl (Nat.le_of_ble_eq_true rfl) ⟨.boolean, rfl, nrB (bzo2 h)⟩ (t_Pz_dies0 v1 σ (bzo1 h))
def Land_isFree0 (v0 : Nat) (v1 : Int32) (σ : MH) : Option (Int32) := (Land_isAlive v0 v1 σ).bind fun x1 => if x1 = (0 : Int32) then some ((0 : Int32)) else (if inb v1 12 = true then if σ.1 (rfv v0 4) v1.toNatClampNeg = (-2 : Int32) then some ((1 : Int32)) else some ((0 : Int32)) else none)
set_option maxRecDepth 20000 in
set_option maxHeartbeats 2000000 in
theorem t_Land_isFree0 (v0 : Nat) (v1 : Int32) (hv0 : isLd v0) (σ : MH) {o} (h : Land_isFree0 v0 v1 σ = some o) : Go m_Land_isFree 3 (some 0, [some (.ref v0), some (.int v1)], [], σ) ((none, [], [.int o], σ)) := by
  unfold Land_isFree0 at h
  refine Go.t (Go_sg bk_Land_isFree 0 2 (c2 := (some 2, [some (.ref v0), some (.int v1)], [.int v1, .ref v0], σ)) (ps := []) rfl trivial) ?_
  obtain ⟨x1, q3, h⟩ := bdS h
  refine Go.t (Go_callV bk_Land_isFree 2 rfl nk_Land_isAlive tw588 tw569 tw570 (ci := 3) rfl (as := [.int v1]) (S := []) (ldk hv0) rfl rfl rfl (Nat.le_of_ble_eq_true rfl) (Nat.le_of_ble_eq_true rfl) (ev_Land_isAlive _ _ hv0 _ q3)) ?_
  refine Go_if_eq bk_Land_isFree 3 rfl (fun c6 => ?_) (fun c6 => ?_)
  · have h := ifT c6 h
    have h := Option.some.inj h
    subst h
    refine Go.t (Go_sg bk_Land_isFree 12 1 (c2 := (some 24, [some (.ref v0), some (.int v1)], [.int (0 : Int32)], σ)) (ps := []) rfl trivial) ?_
    exact Go_reti bk_Land_isFree 13 rfl
  · have h := ifF c6 h
    obtain ⟨g4, h⟩ := gdS h
    refine Go.t (Go_sg bk_Land_isFree 4 5 (c2 := (some 16, [some (.ref v0), some (.int v1)], [.int (-2 : Int32), .int (σ.1 (rfv v0 4) v1.toNatClampNeg)], σ)) (ps := [shk v0 = 3, IA (rfv v0 4) 12 ∧ inb v1 12 = true]) rfl ⟨(ldk hv0), ⟨(ldA hv0 4 rfl), g4⟩, trivial⟩) ?_
    refine Go_icmp_ne bk_Land_isFree 9 rfl (fun c5 => ?_) (fun c5 => ?_)
    · have h := ifF c5 h
      have h := Option.some.inj h
      subst h
      refine Go.t (Go_sg bk_Land_isFree 12 1 (c2 := (some 24, [some (.ref v0), some (.int v1)], [.int (0 : Int32)], σ)) (ps := []) rfl trivial) ?_
      exact Go_reti bk_Land_isFree 13 rfl
    · have h := ifT c5 h
      refine Go.t (Go_sg bk_Land_isFree 10 2 (c2 := (some 24, [some (.ref v0), some (.int v1)], [.int (1 : Int32)], σ)) (ps := []) rfl trivial) ?_
      have h := Option.some.inj h
      subst h
      exact Go_reti bk_Land_isFree 13 rfl
def Land_isFree (v0 : Nat) (v1 : Int32) (σ : MH) : Option (Int32) := bzp (Land_isFree0 v0 v1 σ)
set_option maxRecDepth 20000 in
set_option maxHeartbeats 2000000 in
theorem ev_Land_isFree (v0 : Nat) (v1 : Int32) (hv0 : isLd v0) (σ : MH) {o} (h : Land_isFree v0 v1 σ = some o) : Ev m_Land_isFree 3 [.ref v0, .int v1] σ (some (.int o)) σ := Ev.of2 (by decide +kernel) rfl (Nat.le_of_ble_eq_true rfl) ⟨.boolean, rfl, nrB (bzp2 h)⟩ (t_Land_isFree0 v0 v1 hv0 σ (bzp1 h))
def Land_join0 (v0 : Nat) (v1 : Int32) (v2 : Int32) (σ : MH) : Option (MH) := (Pz_isNumber v1 σ).bind fun x1 => if x1 = (0 : Int32) then some (σ) else ((Pz_isNumber v2 σ).bind fun x4 => if x4 = (0 : Int32) then some (σ) else (if inb v1 12 = true then if inb v2 12 = true then some (sI (sI (sI (sI σ (rfv v0 4) v1.toNatClampNeg v2) (rfv v0 4) v2.toNatClampNeg v1) (rfv v0 5) v1.toNatClampNeg (0 : Int32)) (rfv v0 5) v2.toNatClampNeg (0 : Int32)) else none else none))
set_option maxRecDepth 20000 in
set_option maxHeartbeats 2000000 in
theorem t_Land_join0 (v0 : Nat) (v1 : Int32) (v2 : Int32) (hv0 : isLd v0) (σ : MH) {o} (h : Land_join0 v0 v1 v2 σ = some o) : Go m_Land_join 2 (some 0, [some (.ref v0), some (.int v1), some (.int v2)], [], σ) ((none, [], [], o)) := by
  unfold Land_join0 at h
  refine Go.t (Go_sg bk_Land_join 0 1 (c2 := (some 1, [some (.ref v0), some (.int v1), some (.int v2)], [.int v1], σ)) (ps := []) rfl trivial) ?_
  obtain ⟨x1, q3, h⟩ := bdS h
  refine Go.t (Go_callN bk_Land_join 1 rfl nk_Pz_isNumber (host := RX11) (by decide +kernel) tw553 (as := [.int v1]) (S := []) rfl rfl rfl (Nat.le_of_ble_eq_true rfl) (Nat.le_of_ble_eq_true rfl) (ev_Pz_isNumber _ _ q3)) ?_
  refine Go_if_eq bk_Land_join 2 rfl (fun c10 => ?_) (fun c10 => ?_)
  · have h := ifT c10 h
    have h := Option.some.inj h
    subst h
    exact Go_ret0 bk_Land_join 26 rfl
  · have h := ifF c10 h
    refine Go.t (Go_sg bk_Land_join 3 1 (c2 := (some 8, [some (.ref v0), some (.int v1), some (.int v2)], [.int v2], σ)) (ps := []) rfl trivial) ?_
    obtain ⟨x4, q6, h⟩ := bdS h
    refine Go.t (Go_callN bk_Land_join 4 rfl nk_Pz_isNumber (host := RX11) (by decide +kernel) tw553 (as := [.int v2]) (S := []) rfl rfl rfl (Nat.le_of_ble_eq_true rfl) (Nat.le_of_ble_eq_true rfl) (ev_Pz_isNumber _ _ q6)) ?_
    refine Go_if_eq bk_Land_join 5 rfl (fun c9 => ?_) (fun c9 => ?_)
    · have h := ifT c9 h
      have h := Option.some.inj h
      subst h
      exact Go_ret0 bk_Land_join 26 rfl
    · have h := ifF c9 h
      obtain ⟨g7, h⟩ := gdS h
      obtain ⟨g8, h⟩ := gdS h
      have h := Option.some.inj h
      subst h
      refine Go.t (Go_sg bk_Land_join 6 20 (c2 := (some 42, [some (.ref v0), some (.int v1), some (.int v2)], [], sI (sI (sI (sI σ (rfv v0 4) v1.toNatClampNeg v2) (rfv v0 4) v2.toNatClampNeg v1) (rfv v0 5) v1.toNatClampNeg (0 : Int32)) (rfv v0 5) v2.toNatClampNeg (0 : Int32))) (ps := [shk v0 = 3, IA (rfv v0 4) 12 ∧ inb v1 12 = true, shk v0 = 3, IA (rfv v0 4) 12 ∧ inb v2 12 = true, shk v0 = 3, IA (rfv v0 5) 12 ∧ inb v1 12 = true, shk v0 = 3, IA (rfv v0 5) 12 ∧ inb v2 12 = true]) rfl ⟨(ldk hv0), ⟨(ldA hv0 4 rfl), g7⟩, (ldk hv0), ⟨(ldA hv0 4 rfl), g8⟩, (ldk hv0), ⟨(ldA hv0 5 rfl), g7⟩, (ldk hv0), ⟨(ldA hv0 5 rfl), g8⟩, trivial⟩) ?_
      exact Go_ret0 bk_Land_join 26 rfl
def Land_join (v0 : Nat) (v1 : Int32) (v2 : Int32) (σ : MH) : Option (MH) := Land_join0 v0 v1 v2 σ
set_option maxRecDepth 20000 in
set_option maxHeartbeats 2000000 in
theorem ev_Land_join (v0 : Nat) (v1 : Int32) (v2 : Int32) (hv0 : isLd v0) (σ : MH) {o} (h : Land_join v0 v1 v2 σ = some o) : Ev m_Land_join 2 [.ref v0, .int v1, .int v2] σ none o := Ev.of2 (by decide +kernel) rfl (Nat.le_of_ble_eq_true rfl) rfl (t_Land_join0 v0 v1 v2 hv0 σ h)
def Pz_weds0 (v1 : Int32) (v2 : Int32) (σ : MH) : Option (Int32 × MH) := (Land_isFree 1 v1 σ).bind fun x1 => if x1 = (0 : Int32) then some ((0 : Int32), σ) else ((Land_isFree 1 v2 σ).bind fun x4 => if x4 = (0 : Int32) then some ((0 : Int32), σ) else (if inb v1 12 = true then if σ.1 2 v1.toNatClampNeg = (0 : Int32) then (if inb v2 12 = true then if σ.1 2 v2.toNatClampNeg = (1 : Int32) then ((Land_join 1 v1 v2 σ).bind fun σ10 => some ((1 : Int32), σ10)) else some ((0 : Int32), σ) else none) else some ((0 : Int32), σ) else none))
set_option maxRecDepth 20000 in
set_option maxHeartbeats 2000000 in
theorem t_Pz_weds0 (v1 : Int32) (v2 : Int32)  (σ : MH) {o} (h : Pz_weds0 v1 v2 σ = some o) : Go m_Pz_weds 4 (some 0, [some (.ref 0), some (.int v1), some (.int v2)], [], σ) ((none, [], [.int o.1], o.2)) := by
  unfold Pz_weds0 at h
  refine Go.t (Go_sg bk_Pz_weds 0 3 (c2 := (some 5, [some (.ref 0), some (.int v1), some (.int v2)], [.int v1, .ref 1], σ)) (ps := [shk 0 = 10]) rfl ⟨rfl, trivial⟩) ?_
  obtain ⟨x1, q3, h⟩ := bdS h
  refine Go.t (Go_callV bk_Pz_weds 3 rfl nk_Land_isFree tw584 tw585 tw586 (ci := 3) rfl (as := [.int v1]) (S := []) rfl rfl rfl rfl (Nat.le_of_ble_eq_true rfl) (Nat.le_of_ble_eq_true rfl) (ev_Land_isFree _ _ (Or.inl rfl) _ q3)) ?_
  refine Go_if_eq bk_Pz_weds 4 rfl (fun c15 => ?_) (fun c15 => ?_)
  · have h := ifT c15 h
    have h := Option.some.inj h
    subst h
    refine Go.t (Go_sg bk_Pz_weds 23 1 (c2 := (some 48, [some (.ref 0), some (.int v1), some (.int v2)], [.int (0 : Int32)], σ)) (ps := []) rfl trivial) ?_
    exact Go_reti bk_Pz_weds 24 rfl
  · have h := ifF c15 h
    refine Go.t (Go_sg bk_Pz_weds 5 3 (c2 := (some 16, [some (.ref 0), some (.int v1), some (.int v2)], [.int v2, .ref 1], σ)) (ps := [shk 0 = 10]) rfl ⟨rfl, trivial⟩) ?_
    obtain ⟨x4, q6, h⟩ := bdS h
    refine Go.t (Go_callV bk_Pz_weds 8 rfl nk_Land_isFree tw584 tw585 tw586 (ci := 3) rfl (as := [.int v2]) (S := []) rfl rfl rfl rfl (Nat.le_of_ble_eq_true rfl) (Nat.le_of_ble_eq_true rfl) (ev_Land_isFree _ _ (Or.inl rfl) _ q6)) ?_
    refine Go_if_eq bk_Pz_weds 9 rfl (fun c14 => ?_) (fun c14 => ?_)
    · have h := ifT c14 h
      have h := Option.some.inj h
      subst h
      refine Go.t (Go_sg bk_Pz_weds 23 1 (c2 := (some 48, [some (.ref 0), some (.int v1), some (.int v2)], [.int (0 : Int32)], σ)) (ps := []) rfl trivial) ?_
      exact Go_reti bk_Pz_weds 24 rfl
    · have h := ifF c14 h
      obtain ⟨g7, h⟩ := gdS h
      refine Go.t (Go_sg bk_Pz_weds 10 5 (c2 := (some 31, [some (.ref 0), some (.int v1), some (.int v2)], [.int (σ.1 2 v1.toNatClampNeg)], σ)) (ps := [shk 0 = 10, shk 1 = 3, IA 2 12 ∧ inb v1 12 = true]) rfl ⟨rfl, rfl, ⟨⟨rfl, rfl⟩, g7⟩, trivial⟩) ?_
      refine Go_if_ne bk_Pz_weds 15 rfl (fun c13 => ?_) (fun c13 => ?_)
      · have h := ifF c13 h
        have h := Option.some.inj h
        subst h
        refine Go.t (Go_sg bk_Pz_weds 23 1 (c2 := (some 48, [some (.ref 0), some (.int v1), some (.int v2)], [.int (0 : Int32)], σ)) (ps := []) rfl trivial) ?_
        exact Go_reti bk_Pz_weds 24 rfl
      · have h := ifT c13 h
        obtain ⟨g8, h⟩ := gdS h
        refine Go.t (Go_sg bk_Pz_weds 16 6 (c2 := (some 44, [some (.ref 0), some (.int v1), some (.int v2)], [.int (1 : Int32), .int (σ.1 2 v2.toNatClampNeg)], σ)) (ps := [shk 0 = 10, shk 1 = 3, IA 2 12 ∧ inb v2 12 = true]) rfl ⟨rfl, rfl, ⟨⟨rfl, rfl⟩, g8⟩, trivial⟩) ?_
        refine Go_icmp_eq bk_Pz_weds 22 rfl (fun c12 => ?_) (fun c12 => ?_)
        · have h := ifT c12 h
          refine Go.t (Go_sg bk_Pz_weds 25 4 (c2 := (some 55, [some (.ref 0), some (.int v1), some (.int v2)], [.int v2, .int v1, .ref 1], σ)) (ps := [shk 0 = 10]) rfl ⟨rfl, trivial⟩) ?_
          obtain ⟨σ10, q11, h⟩ := bdS h
          refine Go.t (Go_callV bk_Pz_weds 29 rfl nk_Land_join tw589 tw590 tw591 (ci := 3) rfl (as := [.int v1, .int v2]) (S := []) rfl rfl rfl rfl (Nat.le_of_ble_eq_true rfl) (Nat.le_of_ble_eq_true rfl) (ev_Land_join _ _ _ (Or.inl rfl) _ q11)) ?_
          have h := Option.some.inj h
          subst h
          refine Go.t (Go_sg bk_Pz_weds 30 1 (c2 := (some 59, [some (.ref 0), some (.int v1), some (.int v2)], [.int (1 : Int32)], σ10)) (ps := []) rfl trivial) ?_
          exact Go_reti bk_Pz_weds 31 rfl
        · have h := ifF c12 h
          have h := Option.some.inj h
          subst h
          refine Go.t (Go_sg bk_Pz_weds 23 1 (c2 := (some 48, [some (.ref 0), some (.int v1), some (.int v2)], [.int (0 : Int32)], σ)) (ps := []) rfl trivial) ?_
          exact Go_reti bk_Pz_weds 24 rfl
def Pz_weds (v1 : Int32) (v2 : Int32) (σ : MH) : Option (Int32 × MH) := bzo (Pz_weds0 v1 v2 σ)
set_option maxRecDepth 20000 in
set_option maxHeartbeats 2000000 in
theorem ev_Pz_weds (v1 : Int32) (v2 : Int32)  (σ : MH) {o} (h : Pz_weds v1 v2 σ = some o) : Ev m_Pz_weds 4 [.ref 0, .int v1, .int v2] σ (some (.int o.1)) o.2 := Ev.of2 (by decide +kernel) rfl (Nat.le_of_ble_eq_true rfl) ⟨.boolean, rfl, nrB (bzo2 h)⟩ (t_Pz_weds0 v1 v2 σ (bzo1 h))
def cH_Tape_add_3 (v1 : Int32) (s : Int32 × MH) : MC := (some 3, [some (.ref 109), some (.int v1), some (.int s.1)], [], s.2)
def cR_Tape_add_3 (v1 : Int32) : ((MH)) → MC := (fun r : MH => ((none, [], [], r) : MC))
def Tape_add_b50 (v1 : Int32) (v2 : Int32) (σ : MH) : Option (((Int32 × MH) ⊕ ((MH)))) := some (.inl (v2 + (-8 : Int32), σ))
set_option maxRecDepth 20000 in
set_option maxHeartbeats 2000000 in
theorem t_Tape_add_b50 (v1 : Int32) (v2 : Int32)   (σ : MH) {o} (h : Tape_add_b50 v1 v2 σ = some o) : Go m_Tape_add 1 (some 50, [some (.ref 109), some (.int v1), some (.int v2)], [], σ) (cS (cH_Tape_add_3 v1) (cR_Tape_add_3 v1) o) := by
  unfold Tape_add_b50 at h
  refine Go.t (Go_sg bk_Tape_add 27 2 (c2 := (some 3, [some (.ref 109), some (.int v1), some (.int (v2 + (-8 : Int32)))], [], σ)) (ps := []) rfl trivial) ?_
  have h := Option.some.inj h
  subst h
  exact Go.fg (LSub.cs (LSub.cs (LSub.cs (LSub.nil))))
def Tape_add_l3 (v1 : Int32) (v2 : Int32) (σ : MH) : Option (((Int32 × MH) ⊕ ((MH)))) := if v2 < (0 : Int32) then some (.inr (σ)) else (if σ.1 109 1 < (0 : Int32) then (Tape_add_b50 v1 v2 σ) else (if (260 : Int32) ≤ σ.1 109 1 then (Tape_add_b50 v1 v2 σ) else (if inb (σ.1 109 1) 260 = true then Tape_add_b50 v1 v2 (sI (sI σ 110 (σ.1 109 1).toNatClampNeg ((jushr v1 v2) &&& (255 : Int32))) 109 1 (((sI σ 110 (σ.1 109 1).toNatClampNeg ((jushr v1 v2) &&& (255 : Int32))).1 109 1) + (1 : Int32))) else none)))
set_option maxRecDepth 20000 in
set_option maxHeartbeats 2000000 in
theorem t_Tape_add_l3 (v1 : Int32) (v2 : Int32)  (σ : MH) {o} (h : Tape_add_l3 v1 v2 σ = some o) : Go m_Tape_add 1 (cH_Tape_add_3 v1 (v2, σ)) (cS (cH_Tape_add_3 v1) (cR_Tape_add_3 v1) o) := by
  unfold Tape_add_l3 at h
  unfold cH_Tape_add_3
  refine Go.t (Go_sg bk_Tape_add 2 1 (c2 := (some 4, [some (.ref 109), some (.int v1), some (.int v2)], [.int v2], σ)) (ps := []) rfl trivial) ?_
  refine Go_if_lt bk_Tape_add 3 rfl (fun c4 => ?_) (fun c4 => ?_)
  · have h := ifT c4 h
    have h := Option.some.inj h
    subst h
    exact Go_ret0 bk_Tape_add 29 rfl
  · have h := ifF c4 h
    refine Go.t (Go_sg bk_Tape_add 4 2 (c2 := (some 11, [some (.ref 109), some (.int v1), some (.int v2)], [.int (σ.1 109 1)], σ)) (ps := [shk 109 = 9]) rfl ⟨rfl, trivial⟩) ?_
    refine Go_if_lt bk_Tape_add 6 rfl (fun c3 => ?_) (fun c3 => ?_)
    · have h := ifT c3 h
      exact Go.t (Go.fg (LSub.cs (LSub.cs (LSub.cs (LSub.nil))))) (t_Tape_add_b50 v1 v2 σ h)
    · have h := ifF c3 h
      refine Go.t (Go_sg bk_Tape_add 7 3 (c2 := (some 21, [some (.ref 109), some (.int v1), some (.int v2)], [.int (260 : Int32), .int (σ.1 109 1)], σ)) (ps := [shk 109 = 9]) rfl ⟨rfl, trivial⟩) ?_
      refine Go_icmp_ge bk_Tape_add 10 rfl (fun c2 => ?_) (fun c2 => ?_)
      · have h := ifT c2 h
        exact Go.t (Go.fg (LSub.cs (LSub.cs (LSub.cs (LSub.nil))))) (t_Tape_add_b50 v1 v2 σ h)
      · have h := ifF c2 h
        obtain ⟨g1, h⟩ := gdS h
        refine Go.t (Go_sg bk_Tape_add 11 16 (c2 := (some 50, [some (.ref 109), some (.int v1), some (.int v2)], [], sI (sI σ 110 (σ.1 109 1).toNatClampNeg ((jushr v1 v2) &&& (255 : Int32))) 109 1 (((sI σ 110 (σ.1 109 1).toNatClampNeg ((jushr v1 v2) &&& (255 : Int32))).1 109 1) + (1 : Int32)))) (ps := [shk 109 = 9, shk 109 = 9, IA 110 260 ∧ inb (σ.1 109 1) 260 = true, shk 109 = 9, shk 109 = 9]) rfl ⟨rfl, rfl, ⟨⟨rfl, rfl⟩, g1⟩, rfl, rfl, trivial⟩) ?_
        exact Go.t (Go.fg (LSub.cs (LSub.cs (LSub.cs (LSub.nil))))) (t_Tape_add_b50 v1 v2 (sI (sI σ 110 (σ.1 109 1).toNatClampNeg ((jushr v1 v2) &&& (255 : Int32))) 109 1 (((sI σ 110 (σ.1 109 1).toNatClampNeg ((jushr v1 v2) &&& (255 : Int32))).1 109 1) + (1 : Int32))) h)
def Tape_add_L3 (v1 : Int32) (s : Int32 × MH) : Option ((MH)) := itr (fun s : Int32 × MH => Tape_add_l3 v1 s.1 s.2) FU s
set_option maxRecDepth 20000 in
set_option maxHeartbeats 2000000 in
theorem t_Tape_add_L3 (v1 : Int32)  (s : Int32 × MH) {r} (h : Tape_add_L3 v1 s = some r) : Go m_Tape_add 1 (cH_Tape_add_3 v1 s) (cR_Tape_add_3 v1 r) := Go_itr (fun s o ho => t_Tape_add_l3 v1 s.1 s.2 ho) FU s r h
def Tape_add0 (v1 : Int32) (σ : MH) : Option (MH) := (Tape_add_L3 v1 ((24 : Int32), σ)).bind fun z5 => some (z5)
set_option maxRecDepth 20000 in
set_option maxHeartbeats 2000000 in
theorem t_Tape_add0 (v1 : Int32)  (σ : MH) {o} (h : Tape_add0 v1 σ = some o) : Go m_Tape_add 1 (some 0, [some (.ref 109), some (.int v1), none], [], σ) ((none, [], [], o)) := by
  unfold Tape_add0 at h
  refine Go.t (Go_sg bk_Tape_add 0 2 (c2 := (some 3, [some (.ref 109), some (.int v1), some (.int (24 : Int32))], [], σ)) (ps := []) rfl trivial) ?_
  obtain ⟨z5, q6, h⟩ := bdS h
  refine Go.t (Go.t (Go.fg (LSub.cs (LSub.cs (LSub.cs (LSub.nil))))) (t_Tape_add_L3 v1 _ q6)) ?_
  have h := Option.some.inj h
  subst h
  exact Go.rf
def Tape_add (v1 : Int32) (σ : MH) : Option (MH) := Tape_add0 v1 σ
set_option maxRecDepth 20000 in
set_option maxHeartbeats 2000000 in
theorem ev_Tape_add (v1 : Int32)  (σ : MH) {o} (h : Tape_add v1 σ = some o) : Ev m_Tape_add 1 [.ref 109, .int v1] σ none o := Ev.of2 (by decide +kernel) rfl (Nat.le_of_ble_eq_true rfl) rfl (t_Tape_add0 v1 σ h)
def Pz_feed0 (v1 : Int32) (v2 : Int32) (v3 : Int32) (v4 : Int32) (v5 : Int32) (σ : MH) : Option (Int32 × MH) := if (σ.1 109 1) + (20 : Int32) ≤ (260 : Int32) then ((Tape_add v1 σ).bind fun σ2 => (Tape_add v2 σ2).bind fun σ5 => (Tape_add v3 σ5).bind fun σ8 => (Tape_add v4 σ8).bind fun σ11 => (Tape_add v5 σ11).bind fun σ14 => some (σ14.1 109 1, σ14)) else some ((-1 : Int32), σ)
set_option maxRecDepth 20000 in
set_option maxHeartbeats 2000000 in
theorem t_Pz_feed0 (v1 : Int32) (v2 : Int32) (v3 : Int32) (v4 : Int32) (v5 : Int32)  (σ : MH) {o} (h : Pz_feed0 v1 v2 v3 v4 v5 σ = some o) : Go m_Pz_feed 2 (some 0, [some (.ref 0), some (.int v1), some (.int v2), some (.int v3), some (.int v4), some (.int v5)], [], σ) ((none, [], [.int o.1], o.2)) := by
  unfold Pz_feed0 at h
  refine Go.t (Go_sg bk_Pz_feed 0 6 (c2 := (some 13, [some (.ref 0), some (.int v1), some (.int v2), some (.int v3), some (.int v4), some (.int v5)], [.int (260 : Int32), .int ((σ.1 109 1) + (20 : Int32))], σ)) (ps := [shk 0 = 10, shk 109 = 9]) rfl ⟨rfl, rfl, trivial⟩) ?_
  refine Go_icmp_le bk_Pz_feed 6 rfl (fun c16 => ?_) (fun c16 => ?_)
  · have h := ifT c16 h
    refine Go.t (Go_sg bk_Pz_feed 9 3 (c2 := (some 23, [some (.ref 0), some (.int v1), some (.int v2), some (.int v3), some (.int v4), some (.int v5)], [.int v1, .ref 109], σ)) (ps := [shk 0 = 10]) rfl ⟨rfl, trivial⟩) ?_
    obtain ⟨σ2, q3, h⟩ := bdS h
    refine Go.t (Go_callV bk_Pz_feed 12 rfl nk_Tape_add tw597 tw598 tw599 (ci := 9) rfl (as := [.int v1]) (S := []) rfl rfl rfl rfl (Nat.le_of_ble_eq_true rfl) (Nat.le_of_ble_eq_true rfl) (ev_Tape_add _ _ q3)) ?_
    refine Go.t (Go_sg bk_Pz_feed 13 3 (c2 := (some 31, [some (.ref 0), some (.int v1), some (.int v2), some (.int v3), some (.int v4), some (.int v5)], [.int v2, .ref 109], σ2)) (ps := [shk 0 = 10]) rfl ⟨rfl, trivial⟩) ?_
    obtain ⟨σ5, q6, h⟩ := bdS h
    refine Go.t (Go_callV bk_Pz_feed 16 rfl nk_Tape_add tw597 tw598 tw599 (ci := 9) rfl (as := [.int v2]) (S := []) rfl rfl rfl rfl (Nat.le_of_ble_eq_true rfl) (Nat.le_of_ble_eq_true rfl) (ev_Tape_add _ _ q6)) ?_
    refine Go.t (Go_sg bk_Pz_feed 17 3 (c2 := (some 39, [some (.ref 0), some (.int v1), some (.int v2), some (.int v3), some (.int v4), some (.int v5)], [.int v3, .ref 109], σ5)) (ps := [shk 0 = 10]) rfl ⟨rfl, trivial⟩) ?_
    obtain ⟨σ8, q9, h⟩ := bdS h
    refine Go.t (Go_callV bk_Pz_feed 20 rfl nk_Tape_add tw597 tw598 tw599 (ci := 9) rfl (as := [.int v3]) (S := []) rfl rfl rfl rfl (Nat.le_of_ble_eq_true rfl) (Nat.le_of_ble_eq_true rfl) (ev_Tape_add _ _ q9)) ?_
    refine Go.t (Go_sg bk_Pz_feed 21 3 (c2 := (some 48, [some (.ref 0), some (.int v1), some (.int v2), some (.int v3), some (.int v4), some (.int v5)], [.int v4, .ref 109], σ8)) (ps := [shk 0 = 10]) rfl ⟨rfl, trivial⟩) ?_
    obtain ⟨σ11, q12, h⟩ := bdS h
    refine Go.t (Go_callV bk_Pz_feed 24 rfl nk_Tape_add tw597 tw598 tw599 (ci := 9) rfl (as := [.int v4]) (S := []) rfl rfl rfl rfl (Nat.le_of_ble_eq_true rfl) (Nat.le_of_ble_eq_true rfl) (ev_Tape_add _ _ q12)) ?_
    refine Go.t (Go_sg bk_Pz_feed 25 3 (c2 := (some 57, [some (.ref 0), some (.int v1), some (.int v2), some (.int v3), some (.int v4), some (.int v5)], [.int v5, .ref 109], σ11)) (ps := [shk 0 = 10]) rfl ⟨rfl, trivial⟩) ?_
    obtain ⟨σ14, q15, h⟩ := bdS h
    refine Go.t (Go_callV bk_Pz_feed 28 rfl nk_Tape_add tw597 tw598 tw599 (ci := 9) rfl (as := [.int v5]) (S := []) rfl rfl rfl rfl (Nat.le_of_ble_eq_true rfl) (Nat.le_of_ble_eq_true rfl) (ev_Tape_add _ _ q15)) ?_
    have h := Option.some.inj h
    subst h
    refine Go.t (Go_sg bk_Pz_feed 29 3 (c2 := (some 67, [some (.ref 0), some (.int v1), some (.int v2), some (.int v3), some (.int v4), some (.int v5)], [.int (σ14.1 109 1)], σ14)) (ps := [shk 0 = 10, shk 109 = 9]) rfl ⟨rfl, rfl, trivial⟩) ?_
    exact Go_reti bk_Pz_feed 32 rfl
  · have h := ifF c16 h
    have h := Option.some.inj h
    subst h
    refine Go.t (Go_sg bk_Pz_feed 7 1 (c2 := (some 17, [some (.ref 0), some (.int v1), some (.int v2), some (.int v3), some (.int v4), some (.int v5)], [.int (-1 : Int32)], σ)) (ps := []) rfl trivial) ?_
    exact Go_reti bk_Pz_feed 8 rfl
def Pz_feed (v1 : Int32) (v2 : Int32) (v3 : Int32) (v4 : Int32) (v5 : Int32) (σ : MH) : Option (Int32 × MH) := Pz_feed0 v1 v2 v3 v4 v5 σ
set_option maxRecDepth 20000 in
set_option maxHeartbeats 2000000 in
theorem ev_Pz_feed (v1 : Int32) (v2 : Int32) (v3 : Int32) (v4 : Int32) (v5 : Int32)  (σ : MH) {o} (h : Pz_feed v1 v2 v3 v4 v5 σ = some o) : Ev m_Pz_feed 2 [.ref 0, .int v1, .int v2, .int v3, .int v4, .int v5] σ (some (.int o.1)) o.2 := Ev.of2 (by decide +kernel) rfl (Nat.le_of_ble_eq_true rfl) ⟨.int, rfl, rfl⟩ (t_Pz_feed0 v1 v2 v3 v4 v5 σ h)
def Reader_begin0 (v1 : Int32) (σ : MH) : Option (MH) := some (sI (sI (sI σ 123 1 v1) 123 2 (0 : Int32)) 123 3 (0 : Int32))
set_option maxRecDepth 20000 in
set_option maxHeartbeats 2000000 in
theorem t_Reader_begin0 (v1 : Int32)  (σ : MH) {o} (h : Reader_begin0 v1 σ = some o) : Go m_Reader_begin 1 (some 0, [some (.ref 123), some (.int v1)], [], σ) ((none, [], [], o)) := by
  unfold Reader_begin0 at h
  have h := Option.some.inj h
  subst h
  refine Go.t (Go_sg bk_Reader_begin 0 9 (c2 := (some 15, [some (.ref 123), some (.int v1)], [], sI (sI (sI σ 123 1 v1) 123 2 (0 : Int32)) 123 3 (0 : Int32))) (ps := [shk 123 = 5, shk 123 = 5, shk 123 = 5]) rfl ⟨rfl, rfl, rfl, trivial⟩) ?_
  exact Go_ret0 bk_Reader_begin 9 rfl
def Reader_begin (v1 : Int32) (σ : MH) : Option (MH) := Reader_begin0 v1 σ
set_option maxRecDepth 20000 in
set_option maxHeartbeats 2000000 in
theorem ev_Reader_begin (v1 : Int32)  (σ : MH) {o} (h : Reader_begin v1 σ = some o) : Ev m_Reader_begin 1 [.ref 123, .int v1] σ none o := Ev.of2 (by decide +kernel) rfl (Nat.le_of_ble_eq_true rfl) rfl (t_Reader_begin0 v1 σ h)
def Reader_isEnd0  (σ : MH) : Option (Int32) := if σ.1 123 2 < σ.1 123 1 then some ((0 : Int32)) else some ((1 : Int32))
set_option maxRecDepth 20000 in
set_option maxHeartbeats 2000000 in
theorem t_Reader_isEnd0   (σ : MH) {o} (h : Reader_isEnd0 σ = some o) : Go m_Reader_isEnd 1 (some 0, [some (.ref 123)], [], σ) ((none, [], [.int o], σ)) := by
  unfold Reader_isEnd0 at h
  refine Go.t (Go_sg bk_Reader_isEnd 0 4 (c2 := (some 8, [some (.ref 123)], [.int (σ.1 123 1), .int (σ.1 123 2)], σ)) (ps := [shk 123 = 5, shk 123 = 5]) rfl ⟨rfl, rfl, trivial⟩) ?_
  refine Go_icmp_lt bk_Reader_isEnd 4 rfl (fun c1 => ?_) (fun c1 => ?_)
  · have h := ifT c1 h
    have h := Option.some.inj h
    subst h
    refine Go.t (Go_sg bk_Reader_isEnd 7 1 (c2 := (some 16, [some (.ref 123)], [.int (0 : Int32)], σ)) (ps := []) rfl trivial) ?_
    exact Go_reti bk_Reader_isEnd 8 rfl
  · have h := ifF c1 h
    refine Go.t (Go_sg bk_Reader_isEnd 5 2 (c2 := (some 16, [some (.ref 123)], [.int (1 : Int32)], σ)) (ps := []) rfl trivial) ?_
    have h := Option.some.inj h
    subst h
    exact Go_reti bk_Reader_isEnd 8 rfl
def Reader_isEnd  (σ : MH) : Option (Int32) := bzp (Reader_isEnd0 σ)
set_option maxRecDepth 20000 in
set_option maxHeartbeats 2000000 in
theorem ev_Reader_isEnd   (σ : MH) {o} (h : Reader_isEnd σ = some o) : Ev m_Reader_isEnd 1 [.ref 123] σ (some (.int o)) σ := Ev.of2 (by decide +kernel) rfl (Nat.le_of_ble_eq_true rfl) ⟨.boolean, rfl, nrB (bzp2 h)⟩ (t_Reader_isEnd0 σ (bzp1 h))
def Reader_sign0  (σ : MH) : Option (Int32) := if σ.1 123 2 < (0 : Int32) then some ((-1 : Int32)) else (if σ.1 123 1 ≤ σ.1 123 2 then some ((-1 : Int32)) else (if (260 : Int32) ≤ σ.1 123 2 then some ((-1 : Int32)) else (if inb (σ.1 123 2) 260 = true then some (σ.1 110 (σ.1 123 2).toNatClampNeg) else none)))
set_option maxRecDepth 20000 in
set_option maxHeartbeats 2000000 in
theorem t_Reader_sign0   (σ : MH) {o} (h : Reader_sign0 σ = some o) : Go m_Reader_sign 1 (some 0, [some (.ref 123)], [], σ) ((none, [], [.int o], σ)) := by
  unfold Reader_sign0 at h
  refine Go.t (Go_sg bk_Reader_sign 0 2 (c2 := (some 4, [some (.ref 123)], [.int (σ.1 123 2)], σ)) (ps := [shk 123 = 5]) rfl ⟨rfl, trivial⟩) ?_
  refine Go_if_lt bk_Reader_sign 2 rfl (fun c4 => ?_) (fun c4 => ?_)
  · have h := ifT c4 h
    have h := Option.some.inj h
    subst h
    refine Go.t (Go_sg bk_Reader_sign 19 1 (c2 := (some 44, [some (.ref 123)], [.int (-1 : Int32)], σ)) (ps := []) rfl trivial) ?_
    exact Go_reti bk_Reader_sign 20 rfl
  · have h := ifF c4 h
    refine Go.t (Go_sg bk_Reader_sign 3 4 (c2 := (some 15, [some (.ref 123)], [.int (σ.1 123 1), .int (σ.1 123 2)], σ)) (ps := [shk 123 = 5, shk 123 = 5]) rfl ⟨rfl, rfl, trivial⟩) ?_
    refine Go_icmp_ge bk_Reader_sign 7 rfl (fun c3 => ?_) (fun c3 => ?_)
    · have h := ifT c3 h
      have h := Option.some.inj h
      subst h
      refine Go.t (Go_sg bk_Reader_sign 19 1 (c2 := (some 44, [some (.ref 123)], [.int (-1 : Int32)], σ)) (ps := []) rfl trivial) ?_
      exact Go_reti bk_Reader_sign 20 rfl
    · have h := ifF c3 h
      refine Go.t (Go_sg bk_Reader_sign 8 3 (c2 := (some 25, [some (.ref 123)], [.int (260 : Int32), .int (σ.1 123 2)], σ)) (ps := [shk 123 = 5]) rfl ⟨rfl, trivial⟩) ?_
      refine Go_icmp_ge bk_Reader_sign 11 rfl (fun c2 => ?_) (fun c2 => ?_)
      · have h := ifT c2 h
        have h := Option.some.inj h
        subst h
        refine Go.t (Go_sg bk_Reader_sign 19 1 (c2 := (some 44, [some (.ref 123)], [.int (-1 : Int32)], σ)) (ps := []) rfl trivial) ?_
        exact Go_reti bk_Reader_sign 20 rfl
      · have h := ifF c2 h
        obtain ⟨g1, h⟩ := gdS h
        refine Go.t (Go_sg bk_Reader_sign 12 7 (c2 := (some 44, [some (.ref 123)], [.int (σ.1 110 (σ.1 123 2).toNatClampNeg)], σ)) (ps := [shk 123 = 5, shk 109 = 9, shk 123 = 5, IA 110 260 ∧ inb (σ.1 123 2) 260 = true]) rfl ⟨rfl, rfl, rfl, ⟨⟨rfl, rfl⟩, g1⟩, trivial⟩) ?_
        have h := Option.some.inj h
        subst h
        exact Go_reti bk_Reader_sign 20 rfl
def Reader_sign  (σ : MH) : Option (Int32) := Reader_sign0 σ
set_option maxRecDepth 20000 in
set_option maxHeartbeats 2000000 in
theorem ev_Reader_sign   (σ : MH) {o} (h : Reader_sign σ = some o) : Ev m_Reader_sign 1 [.ref 123] σ (some (.int o)) σ := Ev.of2 (by decide +kernel) rfl (Nat.le_of_ble_eq_true rfl) ⟨.int, rfl, rfl⟩ (t_Reader_sign0 σ h)
def String_isLatin1_t00  (σ : MH) : Option (Int32) := if (1 : Int32) = (0 : Int32) then some ((0 : Int32)) else (if (0 : Int32) = (0 : Int32) then some ((1 : Int32)) else some ((0 : Int32)))
set_option maxRecDepth 20000 in
set_option maxHeartbeats 2000000 in
theorem t_String_isLatin1_t00   (σ : MH) {o} (h : String_isLatin1_t00 σ = some o) : Go m_String_isLatin1_t0 1 (some 0, [some (.retAddr 0)], [], σ) ((none, [], [.int o], σ)) := by
  unfold String_isLatin1_t00 at h
  refine Go.t (Go_gets (by decide +kernel) (idx := 38) tw644) ?_
  refine Go_if_eq bk_String_isLatin1_t0 0 rfl (fun c2 => ?_) (fun c2 => ?_)
  · have h := ifT c2 h
    have h := Option.some.inj h
    subst h
    refine Go.t (Go_sg bk_String_isLatin1_t0 5 1 (c2 := (some 18, [some (.retAddr 0)], [.int (0 : Int32)], σ)) (ps := []) rfl trivial) ?_
    exact Go_reti bk_String_isLatin1_t0 6 rfl
  · have h := ifF c2 h
    refine Go.t (Go_sg bk_String_isLatin1_t0 1 1 (c2 := (some 7, [some (.retAddr 0)], [.retAddr 0], σ)) (ps := []) rfl trivial) ?_
    refine Go.t (Go_gfc (i := 0) (by decide +kernel) (idx := 15) (by decide) tw1780) ?_
    refine Go_if_ne bk_String_isLatin1_t0 2 rfl (fun c1 => ?_) (fun c1 => ?_)
    · have h := ifF c1 h
      have h := Option.some.inj h
      subst h
      refine Go.t (Go_sg bk_String_isLatin1_t0 5 1 (c2 := (some 18, [some (.retAddr 0)], [.int (0 : Int32)], σ)) (ps := []) rfl trivial) ?_
      exact Go_reti bk_String_isLatin1_t0 6 rfl
    · have h := ifT c1 h
      refine Go.t (Go_sg bk_String_isLatin1_t0 3 2 (c2 := (some 18, [some (.retAddr 0)], [.int (1 : Int32)], σ)) (ps := []) rfl trivial) ?_
      have h := Option.some.inj h
      subst h
      exact Go_reti bk_String_isLatin1_t0 6 rfl
def String_isLatin1_t0  (σ : MH) : Option (Int32) := bzp (String_isLatin1_t00 σ)
set_option maxRecDepth 20000 in
set_option maxHeartbeats 2000000 in
theorem ev_String_isLatin1_t0   (σ : MH) {o} (h : String_isLatin1_t0 σ = some o) : Ev m_String_isLatin1_t0 1 [.retAddr 0] σ (some (.int o)) σ := Ev.of2 (by decide +kernel) rfl (Nat.le_of_ble_eq_true rfl) ⟨.boolean, rfl, nrB (bzp2 h)⟩ (t_String_isLatin1_t00 σ (bzp1 h))
def String_coder_t00  (σ : MH) : Option (Int32) := if (1 : Int32) = (0 : Int32) then some ((1 : Int32)) else some ((0 : Int32))
set_option maxRecDepth 20000 in
set_option maxHeartbeats 2000000 in
theorem t_String_coder_t00   (σ : MH) {o} (h : String_coder_t00 σ = some o) : Go m_String_coder_t0 1 (some 0, [some (.retAddr 0)], [], σ) ((none, [], [.int o], σ)) := by
  unfold String_coder_t00 at h
  refine Go.t (Go_gets (by decide +kernel) (idx := 38) tw644) ?_
  refine Go_if_eq bk_String_coder_t0 0 rfl (fun c1 => ?_) (fun c1 => ?_)
  · have h := ifT c1 h
    have h := Option.some.inj h
    subst h
    refine Go.t (Go_sg bk_String_coder_t0 3 1 (c2 := (some 14, [some (.retAddr 0)], [.int (1 : Int32)], σ)) (ps := []) rfl trivial) ?_
    exact Go_reti bk_String_coder_t0 4 rfl
  · have h := ifF c1 h
    refine Go.t (Go_sg bk_String_coder_t0 1 1 (c2 := (some 7, [some (.retAddr 0)], [.retAddr 0], σ)) (ps := []) rfl trivial) ?_
    refine Go.t (Go_gfc (i := 0) (by decide +kernel) (idx := 15) (by decide) tw1780) ?_
    refine Go.t (Go_sg bk_String_coder_t0 2 1 (c2 := (some 14, [some (.retAddr 0)], [.int (0 : Int32)], σ)) (ps := []) rfl trivial) ?_
    have h := Option.some.inj h
    subst h
    exact Go_reti bk_String_coder_t0 4 rfl
def String_coder_t0  (σ : MH) : Option (Int32) := bzp (String_coder_t00 σ)
set_option maxRecDepth 20000 in
set_option maxHeartbeats 2000000 in
theorem ev_String_coder_t0   (σ : MH) {o} (h : String_coder_t0 σ = some o) : Ev m_String_coder_t0 1 [.retAddr 0] σ (some (.int o)) σ := Ev.of2 (by decide +kernel) rfl (Nat.le_of_ble_eq_true rfl) ⟨.byte, rfl, nrY (bzp2 h)⟩ (t_String_coder_t00 σ (bzp1 h))
def String_length_t00  (σ : MH) : Option (Int32) := (String_coder_t0 σ).bind fun x1 => some (jshr (5 : Int32) x1)
set_option maxRecDepth 20000 in
set_option maxHeartbeats 2000000 in
theorem t_String_length_t00   (σ : MH) {o} (h : String_length_t00 σ = some o) : Go m_String_length_t0 2 (some 0, [some (.retAddr 0)], [], σ) ((none, [], [.int o], σ)) := by
  unfold String_length_t00 at h
  refine Go.t (Go_sg bk_String_length_t0 0 1 (c2 := (some 1, [some (.retAddr 0)], [.retAddr 0], σ)) (ps := []) rfl trivial) ?_
  refine Go.t (Go_gfv (i := 0) 0 rfl (by decide +kernel) (idx := 9) (by decide) tw1781) ?_
  refine Go.t (Go_als (i := 0) rfl (by decide +kernel) (by decide) (x := 5) rfl) ?_
  refine Go.t (Go_sg bk_String_length_t0 2 1 (c2 := (some 6, [some (.retAddr 0)], [.retAddr 0, .int (5 : Int32)], σ)) (ps := []) rfl trivial) ?_
  obtain ⟨x1, q3, h⟩ := bdS h
  refine Go.t (Go_callR bk_String_length_t0 3 rfl nk_String_coder_t0 tw650 tw651 rfl tw652 (a := 0) (as := []) (S := [.int (5 : Int32)]) (by decide) rfl rfl rfl (Nat.le_of_ble_eq_true rfl) (Nat.le_of_ble_eq_true rfl) (ev_String_coder_t0 _ q3)) ?_
  have h := Option.some.inj h
  subst h
  refine Go.t (Go_sg bk_String_length_t0 4 1 (c2 := (some 10, [some (.retAddr 0)], [.int (jshr (5 : Int32) x1)], σ)) (ps := []) rfl trivial) ?_
  exact Go_reti bk_String_length_t0 5 rfl
def String_length_t0  (σ : MH) : Option (Int32) := String_length_t00 σ
set_option maxRecDepth 20000 in
set_option maxHeartbeats 2000000 in
theorem ev_String_length_t0   (σ : MH) {o} (h : String_length_t0 σ = some o) : Ev m_String_length_t0 2 [.retAddr 0] σ (some (.int o)) σ := Ev.of2 (by decide +kernel) rfl (Nat.le_of_ble_eq_true rfl) ⟨.int, rfl, rfl⟩ (t_String_length_t00 σ h)
def StringLatin1_canEncode0 (v0 : Int32) (σ : MH) : Option (Int32) := if v0 < (0 : Int32) then some ((0 : Int32)) else (if (255 : Int32) < v0 then some ((0 : Int32)) else some ((1 : Int32)))
set_option maxRecDepth 20000 in
set_option maxHeartbeats 2000000 in
theorem t_StringLatin1_canEncode0 (v0 : Int32)  (σ : MH) {o} (h : StringLatin1_canEncode0 v0 σ = some o) : Go m_StringLatin1_canEncode 1 (some 0, [some (.int v0)], [], σ) ((none, [], [.int o], σ)) := by
  unfold StringLatin1_canEncode0 at h
  refine Go.t (Go_sg bk_StringLatin1_canEncode 0 1 (c2 := (some 1, [some (.int v0)], [.int v0], σ)) (ps := []) rfl trivial) ?_
  refine Go_if_lt bk_StringLatin1_canEncode 1 rfl (fun c2 => ?_) (fun c2 => ?_)
  · have h := ifT c2 h
    have h := Option.some.inj h
    subst h
    refine Go.t (Go_sg bk_StringLatin1_canEncode 7 1 (c2 := (some 16, [some (.int v0)], [.int (0 : Int32)], σ)) (ps := []) rfl trivial) ?_
    exact Go_reti bk_StringLatin1_canEncode 8 rfl
  · have h := ifF c2 h
    refine Go.t (Go_sg bk_StringLatin1_canEncode 2 2 (c2 := (some 8, [some (.int v0)], [.int (255 : Int32), .int v0], σ)) (ps := []) rfl trivial) ?_
    refine Go_icmp_gt bk_StringLatin1_canEncode 4 rfl (fun c1 => ?_) (fun c1 => ?_)
    · have h := ifT c1 h
      have h := Option.some.inj h
      subst h
      refine Go.t (Go_sg bk_StringLatin1_canEncode 7 1 (c2 := (some 16, [some (.int v0)], [.int (0 : Int32)], σ)) (ps := []) rfl trivial) ?_
      exact Go_reti bk_StringLatin1_canEncode 8 rfl
    · have h := ifF c1 h
      refine Go.t (Go_sg bk_StringLatin1_canEncode 5 2 (c2 := (some 16, [some (.int v0)], [.int (1 : Int32)], σ)) (ps := []) rfl trivial) ?_
      have h := Option.some.inj h
      subst h
      exact Go_reti bk_StringLatin1_canEncode 8 rfl
def StringLatin1_canEncode (v0 : Int32) (σ : MH) : Option (Int32) := bzp (StringLatin1_canEncode0 v0 σ)
set_option maxRecDepth 20000 in
set_option maxHeartbeats 2000000 in
theorem ev_StringLatin1_canEncode (v0 : Int32)  (σ : MH) {o} (h : StringLatin1_canEncode v0 σ = some o) : Ev m_StringLatin1_canEncode 1 [.int v0] σ (some (.int o)) σ := Ev.of2 (by decide +kernel) rfl (Nat.le_of_ble_eq_true rfl) ⟨.boolean, rfl, nrB (bzp2 h)⟩ (t_StringLatin1_canEncode0 v0 σ (bzp1 h))
def cH_StringLatin1_indexOfChar_t0_7 (v3 : Int32) (v4 : Int32) (σ : MH) (s : Int32) : MC := (some 7, [some (.float 0), none, none, some (.int v3), some (.int v4), some (.int s)], [], σ)
def cR_StringLatin1_indexOfChar_t0_7 (v3 : Int32) (v4 : Int32) (σ : MH) : ((Int32)) → MC := (fun r : Int32 => ((none, [], [.int r], σ) : MC))
def StringLatin1_indexOfChar_t0_l7 (v3 : Int32) (v4 : Int32) (v5 : Int32) (σ : MH) : Option (((Int32) ⊕ ((Int32)))) := if v3 ≤ v5 then some (.inr ((-1 : Int32))) else (if inb v5 5 = true then if sB 0 v5.toNatClampNeg = v4 then some (.inr (v5)) else some (.inl (v5 + (1 : Int32))) else none)
set_option maxRecDepth 20000 in
set_option maxHeartbeats 2000000 in
theorem t_StringLatin1_indexOfChar_t0_l7 (v3 : Int32) (v4 : Int32) (v5 : Int32)  (σ : MH) {o} (h : StringLatin1_indexOfChar_t0_l7 v3 v4 v5 σ = some o) : Go m_StringLatin1_indexOfChar_t0 1 (cH_StringLatin1_indexOfChar_t0_7 v3 v4 σ (v5)) (cS (cH_StringLatin1_indexOfChar_t0_7 v3 v4 σ) (cR_StringLatin1_indexOfChar_t0_7 v3 v4 σ) o) := by
  unfold StringLatin1_indexOfChar_t0_l7 at h
  unfold cH_StringLatin1_indexOfChar_t0_7
  refine Go.t (Go_sg bk_StringLatin1_indexOfChar_t0 5 2 (c2 := (some 10, [some (.float 0), none, none, some (.int v3), some (.int v4), some (.int v5)], [.int v3, .int v5], σ)) (ps := []) rfl trivial) ?_
  refine Go_icmp_ge bk_StringLatin1_indexOfChar_t0 7 rfl (fun c3 => ?_) (fun c3 => ?_)
  · have h := ifT c3 h
    have h := Option.some.inj h
    subst h
    refine Go.t (Go_sg bk_StringLatin1_indexOfChar_t0 17 1 (c2 := (some 32, [some (.float 0), none, none, some (.int v3), some (.int v4), some (.int v5)], [.int (-1 : Int32)], σ)) (ps := []) rfl trivial) ?_
    exact Go_reti bk_StringLatin1_indexOfChar_t0 18 rfl
  · have h := ifF c3 h
    obtain ⟨g1, h⟩ := gdS h
    refine Go.t (Go_sg bk_StringLatin1_indexOfChar_t0 8 2 (c2 := (some 16, [some (.float 0), none, none, some (.int v3), some (.int v4), some (.int v5)], [.int v5, .float 0], σ)) (ps := []) rfl trivial) ?_
    refine Go.t (Go_bls (i := 0) (n := 5) rfl (by decide +kernel) (by decide) rfl g1) ?_
    refine Go.t (Go_sg bk_StringLatin1_indexOfChar_t0 11 1 (c2 := (some 19, [some (.float 0), none, none, some (.int v3), some (.int v4), some (.int v5)], [.int v4, .int (sB 0 v5.toNatClampNeg)], σ)) (ps := []) rfl trivial) ?_
    refine Go_icmp_ne bk_StringLatin1_indexOfChar_t0 12 rfl (fun c2 => ?_) (fun c2 => ?_)
    · have h := ifF c2 h
      refine Go.t (Go_sg bk_StringLatin1_indexOfChar_t0 15 2 (c2 := (some 7, [some (.float 0), none, none, some (.int v3), some (.int v4), some (.int (v5 + (1 : Int32)))], [], σ)) (ps := []) rfl trivial) ?_
      have h := Option.some.inj h
      subst h
      exact Go.fg (LSub.cs (LSub.cn (LSub.cn (LSub.cs (LSub.cs (LSub.cs (LSub.nil)))))))
    · have h := ifT c2 h
      have h := Option.some.inj h
      subst h
      refine Go.t (Go_sg bk_StringLatin1_indexOfChar_t0 13 1 (c2 := (some 24, [some (.float 0), none, none, some (.int v3), some (.int v4), some (.int v5)], [.int v5], σ)) (ps := []) rfl trivial) ?_
      exact Go_reti bk_StringLatin1_indexOfChar_t0 14 rfl
def StringLatin1_indexOfChar_t0_L7 (v3 : Int32) (v4 : Int32) (σ : MH) (s : Int32) : Option ((Int32)) := itr (fun s : Int32 => StringLatin1_indexOfChar_t0_l7 v3 v4 s σ) FU s
set_option maxRecDepth 20000 in
set_option maxHeartbeats 2000000 in
theorem t_StringLatin1_indexOfChar_t0_L7 (v3 : Int32) (v4 : Int32)  (σ : MH) (s : Int32) {r} (h : StringLatin1_indexOfChar_t0_L7 v3 v4 σ s = some r) : Go m_StringLatin1_indexOfChar_t0 1 (cH_StringLatin1_indexOfChar_t0_7 v3 v4 σ s) (cR_StringLatin1_indexOfChar_t0_7 v3 v4 σ r) := Go_itr (fun s o ho => t_StringLatin1_indexOfChar_t0_l7 v3 v4 s σ ho) FU s r h
def StringLatin1_indexOfChar_t00 (v1 : Int32) (v2 : Int32) (v3 : Int32) (σ : MH) : Option (Int32) := (StringLatin1_indexOfChar_t0_L7 v3 (jb v1) σ (v2)).bind fun z4 => some (z4)
set_option maxRecDepth 20000 in
set_option maxHeartbeats 2000000 in
theorem t_StringLatin1_indexOfChar_t00 (v1 : Int32) (v2 : Int32) (v3 : Int32)  (σ : MH) {o} (h : StringLatin1_indexOfChar_t00 v1 v2 v3 σ = some o) : Go m_StringLatin1_indexOfChar_t0 1 (some 0, [some (.float 0), some (.int v1), some (.int v2), some (.int v3), none, none], [], σ) ((none, [], [.int o], σ)) := by
  unfold StringLatin1_indexOfChar_t00 at h
  refine Go.t (Go_sg bk_StringLatin1_indexOfChar_t0 0 5 (c2 := (some 7, [some (.float 0), some (.int v1), some (.int v2), some (.int v3), some (.int (jb v1)), some (.int v2)], [], σ)) (ps := []) rfl trivial) ?_
  obtain ⟨z4, q5, h⟩ := bdS h
  refine Go.t (Go.t (Go.fg (LSub.cs (LSub.cn (LSub.cn (LSub.cs (LSub.cs (LSub.cs (LSub.nil)))))))) (t_StringLatin1_indexOfChar_t0_L7 v3 (jb v1) σ _ q5)) ?_
  have h := Option.some.inj h
  subst h
  exact Go.rf
def StringLatin1_indexOfChar_t0 (v1 : Int32) (v2 : Int32) (v3 : Int32) (σ : MH) : Option (Int32) := StringLatin1_indexOfChar_t00 v1 v2 v3 σ
set_option maxRecDepth 20000 in
set_option maxHeartbeats 2000000 in
theorem ev_StringLatin1_indexOfChar_t0 (v1 : Int32) (v2 : Int32) (v3 : Int32)  (σ : MH) {o} (h : StringLatin1_indexOfChar_t0 v1 v2 v3 σ = some o) : Ev m_StringLatin1_indexOfChar_t0 1 [.float 0, .int v1, .int v2, .int v3] σ (some (.int o)) σ := Ev.of2 (by decide +kernel) rfl (Nat.le_of_ble_eq_true rfl) ⟨.int, rfl, rfl⟩ (t_StringLatin1_indexOfChar_t00 v1 v2 v3 σ h)
def StringLatin1_indexOf_t00 (v1 : Int32) (v2 : Int32) (v3 : Int32) (σ : MH) : Option (Int32) := (StringLatin1_canEncode v1 σ).bind fun x1 => if x1 = (0 : Int32) then some ((-1 : Int32)) else (if jmax v2 (0 : Int32) < jmin v3 (5 : Int32) then ((StringLatin1_indexOfChar_t0 v1 (jmax v2 (0 : Int32)) (jmin v3 (5 : Int32)) σ).bind fun x4 => some (x4)) else some ((-1 : Int32)))
set_option maxRecDepth 20000 in
set_option maxHeartbeats 2000000 in
theorem t_StringLatin1_indexOf_t00 (v1 : Int32) (v2 : Int32) (v3 : Int32)  (σ : MH) {o} (h : StringLatin1_indexOf_t00 v1 v2 v3 σ = some o) : Go m_StringLatin1_indexOf_t0 2 (some 0, [some (.float 0), some (.int v1), some (.int v2), some (.int v3)], [], σ) ((none, [], [.int o], σ)) := by
  unfold StringLatin1_indexOf_t00 at h
  refine Go.t (Go_sg bk_StringLatin1_indexOf_t0 0 1 (c2 := (some 1, [some (.float 0), some (.int v1), some (.int v2), some (.int v3)], [.int v1], σ)) (ps := []) rfl trivial) ?_
  obtain ⟨x1, q3, h⟩ := bdS h
  refine Go.t (Go_callS bk_StringLatin1_indexOf_t0 1 rfl nk_StringLatin1_canEncode tw657 tw658 (as := [.int v1]) (S := []) rfl rfl rfl (Nat.le_of_ble_eq_true rfl) (Nat.le_of_ble_eq_true rfl) (ev_StringLatin1_canEncode _ _ q3)) ?_
  refine Go_if_ne bk_StringLatin1_indexOf_t0 2 rfl (fun c8 => ?_) (fun c8 => ?_)
  · have h := ifF c8 h
    refine Go.t (Go_sg bk_StringLatin1_indexOf_t0 5 2 (c2 := (some 11, [some (.float 0), some (.int v1), some (.int v2), some (.int v3)], [.int (0 : Int32), .int v2], σ)) (ps := []) rfl trivial) ?_
    refine Go.t (Go_mmax bk_StringLatin1_indexOf_t0 7 rfl tw660 (Nat.le_of_ble_eq_true rfl) (Nat.le_of_ble_eq_true rfl)) ?_
    refine Go.t (Go_sg bk_StringLatin1_indexOf_t0 8 3 (c2 := (some 17, [some (.float 0), some (.int v1), some (.int (jmax v2 (0 : Int32))), some (.int v3)], [.float 0, .int v3], σ)) (ps := []) rfl trivial) ?_
    refine Go.t (Go_als (i := 0) rfl (by decide +kernel) (by decide) (x := 5) rfl) ?_
    refine Go.t (Go_mmin bk_StringLatin1_indexOf_t0 12 rfl tw663 (Nat.le_of_ble_eq_true rfl) (Nat.le_of_ble_eq_true rfl)) ?_
    refine Go.t (Go_sg bk_StringLatin1_indexOf_t0 13 3 (c2 := (some 24, [some (.float 0), some (.int v1), some (.int (jmax v2 (0 : Int32))), some (.int (jmin v3 (5 : Int32)))], [.int (jmin v3 (5 : Int32)), .int (jmax v2 (0 : Int32))], σ)) (ps := []) rfl trivial) ?_
    refine Go_icmp_lt bk_StringLatin1_indexOf_t0 16 rfl (fun c7 => ?_) (fun c7 => ?_)
    · have h := ifT c7 h
      refine Go.t (Go_sg bk_StringLatin1_indexOf_t0 19 4 (c2 := (some 33, [some (.float 0), some (.int v1), some (.int (jmax v2 (0 : Int32))), some (.int (jmin v3 (5 : Int32)))], [.int (jmin v3 (5 : Int32)), .int (jmax v2 (0 : Int32)), .int v1, .float 0], σ)) (ps := []) rfl trivial) ?_
      obtain ⟨x4, q6, h⟩ := bdS h
      refine Go.t (Go_callS bk_StringLatin1_indexOf_t0 23 rfl nk_StringLatin1_indexOfChar_t0 tw666 tw667 (as := [.float 0, .int v1, .int (jmax v2 (0 : Int32)), .int (jmin v3 (5 : Int32))]) (S := []) rfl rfl rfl (Nat.le_of_ble_eq_true rfl) (Nat.le_of_ble_eq_true rfl) (ev_StringLatin1_indexOfChar_t0 _ _ _ _ q6)) ?_
      have h := Option.some.inj h
      subst h
      exact Go_reti bk_StringLatin1_indexOf_t0 24 rfl
    · have h := ifF c7 h
      have h := Option.some.inj h
      subst h
      refine Go.t (Go_sg bk_StringLatin1_indexOf_t0 17 1 (c2 := (some 28, [some (.float 0), some (.int v1), some (.int (jmax v2 (0 : Int32))), some (.int (jmin v3 (5 : Int32)))], [.int (-1 : Int32)], σ)) (ps := []) rfl trivial) ?_
      exact Go_reti bk_StringLatin1_indexOf_t0 18 rfl
  · have h := ifT c8 h
    have h := Option.some.inj h
    subst h
    refine Go.t (Go_sg bk_StringLatin1_indexOf_t0 3 1 (c2 := (some 8, [some (.float 0), some (.int v1), some (.int v2), some (.int v3)], [.int (-1 : Int32)], σ)) (ps := []) rfl trivial) ?_
    exact Go_reti bk_StringLatin1_indexOf_t0 4 rfl
def StringLatin1_indexOf_t0 (v1 : Int32) (v2 : Int32) (v3 : Int32) (σ : MH) : Option (Int32) := StringLatin1_indexOf_t00 v1 v2 v3 σ
set_option maxRecDepth 20000 in
set_option maxHeartbeats 2000000 in
theorem ev_StringLatin1_indexOf_t0 (v1 : Int32) (v2 : Int32) (v3 : Int32)  (σ : MH) {o} (h : StringLatin1_indexOf_t0 v1 v2 v3 σ = some o) : Ev m_StringLatin1_indexOf_t0 2 [.float 0, .int v1, .int v2, .int v3] σ (some (.int o)) σ := Ev.of2 (by decide +kernel) rfl (Nat.le_of_ble_eq_true rfl) ⟨.int, rfl, rfl⟩ (t_StringLatin1_indexOf_t00 v1 v2 v3 σ h)
def String_indexOf_ii_t00 (v1 : Int32) (v2 : Int32) (σ : MH) : Option (Int32) := (String_isLatin1_t0 σ).bind fun x1 => if x1 = (0 : Int32) then (none) else ((String_length_t0 σ).bind fun x4 => (StringLatin1_indexOf_t0 v1 v2 x4 σ).bind fun x7 => some (x7))
set_option maxRecDepth 20000 in
set_option maxHeartbeats 2000000 in
theorem t_String_indexOf_ii_t00 (v1 : Int32) (v2 : Int32)  (σ : MH) {o} (h : String_indexOf_ii_t00 v1 v2 σ = some o) : Go m_String_indexOf_ii_t0 3 (some 0, [some (.retAddr 0), some (.int v1), some (.int v2)], [], σ) ((none, [], [.int o], σ)) := by
  unfold String_indexOf_ii_t00 at h
  refine Go.t (Go_sg bk_String_indexOf_ii_t0 0 1 (c2 := (some 1, [some (.retAddr 0), some (.int v1), some (.int v2)], [.retAddr 0], σ)) (ps := []) rfl trivial) ?_
  obtain ⟨x1, q3, h⟩ := bdS h
  refine Go.t (Go_callR bk_String_indexOf_ii_t0 1 rfl nk_String_isLatin1_t0 tw640 tw641 rfl tw642 (a := 0) (as := []) (S := []) (by decide) rfl rfl rfl (Nat.le_of_ble_eq_true rfl) (Nat.le_of_ble_eq_true rfl) (ev_String_isLatin1_t0 _ q3)) ?_
  refine Go_if_eq bk_String_indexOf_ii_t0 2 rfl (fun c10 => ?_) (fun c10 => ?_)
  · have h := ifT c10 h
    cases h
  · have h := ifF c10 h
    refine Go.t (Go_sg bk_String_indexOf_ii_t0 3 1 (c2 := (some 8, [some (.retAddr 0), some (.int v1), some (.int v2)], [.retAddr 0], σ)) (ps := []) rfl trivial) ?_
    refine Go.t (Go_gfv (i := 0) 0 rfl (by decide +kernel) (idx := 9) (by decide) tw1781) ?_
    refine Go.t (Go_sg bk_String_indexOf_ii_t0 4 3 (c2 := (some 14, [some (.retAddr 0), some (.int v1), some (.int v2)], [.retAddr 0, .int v2, .int v1, .float 0], σ)) (ps := []) rfl trivial) ?_
    obtain ⟨x4, q6, h⟩ := bdS h
    refine Go.t (Go_callR bk_String_indexOf_ii_t0 7 rfl nk_String_length_t0 tw646 tw647 rfl tw648 (a := 0) (as := []) (S := [.int v2, .int v1, .float 0]) (by decide) rfl rfl rfl (Nat.le_of_ble_eq_true rfl) (Nat.le_of_ble_eq_true rfl) (ev_String_length_t0 _ q6)) ?_
    obtain ⟨x7, q9, h⟩ := bdS h
    refine Go.t (Go_callS bk_String_indexOf_ii_t0 8 rfl nk_StringLatin1_indexOf_t0 tw654 tw655 (as := [.float 0, .int v1, .int v2, .int x4]) (S := []) rfl rfl rfl (Nat.le_of_ble_eq_true rfl) (Nat.le_of_ble_eq_true rfl) (ev_StringLatin1_indexOf_t0 _ _ _ _ q9)) ?_
    refine Go.t (Go_sg bk_String_indexOf_ii_t0 9 1 (c2 := (some 36, [some (.retAddr 0), some (.int v1), some (.int v2)], [.int x7], σ)) (ps := []) rfl trivial) ?_
    have h := Option.some.inj h
    subst h
    exact Go_reti bk_String_indexOf_ii_t0 10 rfl
def String_indexOf_ii_t0 (v1 : Int32) (v2 : Int32) (σ : MH) : Option (Int32) := String_indexOf_ii_t00 v1 v2 σ
set_option maxRecDepth 20000 in
set_option maxHeartbeats 2000000 in
theorem ev_String_indexOf_ii_t0 (v1 : Int32) (v2 : Int32)  (σ : MH) {o} (h : String_indexOf_ii_t0 v1 v2 σ = some o) : Ev m_String_indexOf_ii_t0 3 [.retAddr 0, .int v1, .int v2] σ (some (.int o)) σ := Ev.of2 (by decide +kernel) rfl (Nat.le_of_ble_eq_true rfl) ⟨.int, rfl, rfl⟩ (t_String_indexOf_ii_t00 v1 v2 σ h)
def String_indexOf_i_t00 (v1 : Int32) (σ : MH) : Option (Int32) := (String_indexOf_ii_t0 v1 (0 : Int32) σ).bind fun x1 => some (x1)
set_option maxRecDepth 20000 in
set_option maxHeartbeats 2000000 in
theorem t_String_indexOf_i_t00 (v1 : Int32)  (σ : MH) {o} (h : String_indexOf_i_t00 v1 σ = some o) : Go m_String_indexOf_i_t0 4 (some 0, [some (.retAddr 0), some (.int v1)], [], σ) ((none, [], [.int o], σ)) := by
  unfold String_indexOf_i_t00 at h
  refine Go.t (Go_sg bk_String_indexOf_i_t0 0 3 (c2 := (some 3, [some (.retAddr 0), some (.int v1)], [.int (0 : Int32), .int v1, .retAddr 0], σ)) (ps := []) rfl trivial) ?_
  obtain ⟨x1, q3, h⟩ := bdS h
  refine Go.t (Go_callR bk_String_indexOf_i_t0 3 rfl nk_String_indexOf_ii_t0 tw636 tw637 rfl tw638 (a := 0) (as := [.int v1, .int (0 : Int32)]) (S := []) (by decide) rfl rfl rfl (Nat.le_of_ble_eq_true rfl) (Nat.le_of_ble_eq_true rfl) (ev_String_indexOf_ii_t0 _ _ _ q3)) ?_
  have h := Option.some.inj h
  subst h
  exact Go_reti bk_String_indexOf_i_t0 4 rfl
def String_indexOf_i_t0 (v1 : Int32) (σ : MH) : Option (Int32) := String_indexOf_i_t00 v1 σ
set_option maxRecDepth 20000 in
set_option maxHeartbeats 2000000 in
theorem ev_String_indexOf_i_t0 (v1 : Int32)  (σ : MH) {o} (h : String_indexOf_i_t0 v1 σ = some o) : Ev m_String_indexOf_i_t0 4 [.retAddr 0, .int v1] σ (some (.int o)) σ := Ev.of2 (by decide +kernel) rfl (Nat.le_of_ble_eq_true rfl) ⟨.int, rfl, rfl⟩ (t_String_indexOf_i_t00 v1 σ h)
def Law_emit0 (v1 : Int32) (σ : MH) : Option (MH) := if σ.1 117 5 < (0 : Int32) then some (σ) else (if (512 : Int32) ≤ σ.1 117 5 then some (σ) else (if inb (σ.1 117 5) 512 = true then some (sI (sI σ 118 (σ.1 117 5).toNatClampNeg v1) 117 5 (((sI σ 118 (σ.1 117 5).toNatClampNeg v1).1 117 5) + (1 : Int32))) else none))
set_option maxRecDepth 20000 in
set_option maxHeartbeats 2000000 in
theorem t_Law_emit0 (v1 : Int32)  (σ : MH) {o} (h : Law_emit0 v1 σ = some o) : Go m_Law_emit 1 (some 0, [some (.ref 117), some (.int v1)], [], σ) ((none, [], [], o)) := by
  unfold Law_emit0 at h
  refine Go.t (Go_sg bk_Law_emit 0 2 (c2 := (some 4, [some (.ref 117), some (.int v1)], [.int (σ.1 117 5)], σ)) (ps := [shk 117 = 4]) rfl ⟨rfl, trivial⟩) ?_
  refine Go_if_lt bk_Law_emit 2 rfl (fun c3 => ?_) (fun c3 => ?_)
  · have h := ifT c3 h
    have h := Option.some.inj h
    subst h
    exact Go_ret0 bk_Law_emit 19 rfl
  · have h := ifF c3 h
    refine Go.t (Go_sg bk_Law_emit 3 3 (c2 := (some 14, [some (.ref 117), some (.int v1)], [.int (512 : Int32), .int (σ.1 117 5)], σ)) (ps := [shk 117 = 4]) rfl ⟨rfl, trivial⟩) ?_
    refine Go_icmp_ge bk_Law_emit 6 rfl (fun c2 => ?_) (fun c2 => ?_)
    · have h := ifT c2 h
      have h := Option.some.inj h
      subst h
      exact Go_ret0 bk_Law_emit 19 rfl
    · have h := ifF c2 h
      obtain ⟨g1, h⟩ := gdS h
      have h := Option.some.inj h
      subst h
      refine Go.t (Go_sg bk_Law_emit 7 12 (c2 := (some 37, [some (.ref 117), some (.int v1)], [], sI (sI σ 118 (σ.1 117 5).toNatClampNeg v1) 117 5 (((sI σ 118 (σ.1 117 5).toNatClampNeg v1).1 117 5) + (1 : Int32)))) (ps := [shk 117 = 4, shk 117 = 4, IA 118 512 ∧ inb (σ.1 117 5) 512 = true, shk 117 = 4, shk 117 = 4]) rfl ⟨rfl, rfl, ⟨⟨rfl, rfl⟩, g1⟩, rfl, rfl, trivial⟩) ?_
      exact Go_ret0 bk_Law_emit 19 rfl
def Law_emit (v1 : Int32) (σ : MH) : Option (MH) := Law_emit0 v1 σ
set_option maxRecDepth 20000 in
set_option maxHeartbeats 2000000 in
theorem ev_Law_emit (v1 : Int32)  (σ : MH) {o} (h : Law_emit v1 σ = some o) : Ev m_Law_emit 1 [.ref 117, .int v1] σ none o := Ev.of2 (by decide +kernel) rfl (Nat.le_of_ble_eq_true rfl) rfl (t_Law_emit0 v1 σ h)
def Reader_failAt0 (v1 : Int32) (v2 : Int32) (σ : MH) : Option (Int32 × MH) := some ((0 : Int32), sI σ 123 3 (((-1000 : Int32) * v1) - v2))
set_option maxRecDepth 20000 in
set_option maxHeartbeats 2000000 in
theorem t_Reader_failAt0 (v1 : Int32) (v2 : Int32)  (σ : MH) {o} (h : Reader_failAt0 v1 v2 σ = some o) : Go m_Reader_failAt 1 (some 0, [some (.ref 123), some (.int v1), some (.int v2)], [], σ) ((none, [], [.int o.1], o.2)) := by
  unfold Reader_failAt0 at h
  have h := Option.some.inj h
  subst h
  refine Go.t (Go_sg bk_Reader_failAt 0 8 (c2 := (some 12, [some (.ref 123), some (.int v1), some (.int v2)], [.int (0 : Int32)], sI σ 123 3 (((-1000 : Int32) * v1) - v2))) (ps := [shk 123 = 5]) rfl ⟨rfl, trivial⟩) ?_
  exact Go_reti bk_Reader_failAt 8 rfl
def Reader_failAt (v1 : Int32) (v2 : Int32) (σ : MH) : Option (Int32 × MH) := bzo (Reader_failAt0 v1 v2 σ)
set_option maxRecDepth 20000 in
set_option maxHeartbeats 2000000 in
theorem ev_Reader_failAt (v1 : Int32) (v2 : Int32)  (σ : MH) {o} (h : Reader_failAt v1 v2 σ = some o) : Ev m_Reader_failAt 1 [.ref 123, .int v1, .int v2] σ (some (.int o.1)) o.2 := Ev.of2 (by decide +kernel) rfl (Nat.le_of_ble_eq_true rfl) ⟨.boolean, rfl, nrB (bzo2 h)⟩ (t_Reader_failAt0 v1 v2 σ (bzo1 h))
def Reader_fail0 (v1 : Int32) (σ : MH) : Option (Int32 × MH) := (Reader_failAt v1 (σ.1 123 2) σ).bind fun (x1, σ2) => some (x1, σ2)
set_option maxRecDepth 20000 in
set_option maxHeartbeats 2000000 in
theorem t_Reader_fail0 (v1 : Int32)  (σ : MH) {o} (h : Reader_fail0 v1 σ = some o) : Go m_Reader_fail 2 (some 0, [some (.ref 123), some (.int v1)], [], σ) ((none, [], [.int o.1], o.2)) := by
  unfold Reader_fail0 at h
  refine Go.t (Go_sg bk_Reader_fail 0 4 (c2 := (some 6, [some (.ref 123), some (.int v1)], [.int (σ.1 123 2), .int v1, .ref 123], σ)) (ps := [shk 123 = 5]) rfl ⟨rfl, trivial⟩) ?_
  obtain ⟨⟨x1, σ2⟩, q3, h⟩ := bdS h
  dsimp only at h
  refine Go.t (Go_callU bk_Reader_fail 4 rfl nk_Reader_failAt (xc := "PuzzleWed$Reader") tw724 tw726 tw725 (C := RX5) tw727 (ci := 5) rfl (as := [.int v1, .int (σ.1 123 2)]) (S := []) rfl rfl rfl rfl (Nat.le_of_ble_eq_true rfl) (Nat.le_of_ble_eq_true rfl) (ev_Reader_failAt _ _ _ q3)) ?_
  have h := Option.some.inj h
  subst h
  exact Go_reti bk_Reader_fail 5 rfl
def Reader_fail (v1 : Int32) (σ : MH) : Option (Int32 × MH) := bzo (Reader_fail0 v1 σ)
set_option maxRecDepth 20000 in
set_option maxHeartbeats 2000000 in
theorem ev_Reader_fail (v1 : Int32)  (σ : MH) {o} (h : Reader_fail v1 σ = some o) : Ev m_Reader_fail 2 [.ref 123, .int v1] σ (some (.int o.1)) o.2 := Ev.of2 (by decide +kernel) rfl (Nat.le_of_ble_eq_true rfl) ⟨.boolean, rfl, nrB (bzo2 h)⟩ (t_Reader_fail0 v1 σ (bzo1 h))
def LawReader_pass0 (v1 : Int32) (σ : MH) : Option (Int32 × MH) := (Reader_sign σ).bind fun x1 => if x1 = v1 then some ((1 : Int32), sI σ 123 2 ((σ.1 123 2) + (1 : Int32))) else ((Reader_fail (1 : Int32) σ).bind fun (x4, σ5) => some (x4, σ5))
set_option maxRecDepth 20000 in
set_option maxHeartbeats 2000000 in
theorem t_LawReader_pass0 (v1 : Int32)  (σ : MH) {o} (h : LawReader_pass0 v1 σ = some o) : Go m_LawReader_pass 3 (some 0, [some (.ref 123), some (.int v1)], [], σ) ((none, [], [.int o.1], o.2)) := by
  unfold LawReader_pass0 at h
  refine Go.t (Go_sg bk_LawReader_pass 0 1 (c2 := (some 1, [some (.ref 123), some (.int v1)], [.ref 123], σ)) (ps := []) rfl trivial) ?_
  obtain ⟨x1, q3, h⟩ := bdS h
  refine Go.t (Go_callU bk_LawReader_pass 1 rfl nk_Reader_sign (xc := "PuzzleWed$LawReader") tw626 tw627 tw630 (C := RX5) tw629 (ci := 5) rfl (as := []) (S := []) rfl rfl rfl rfl (Nat.le_of_ble_eq_true rfl) (Nat.le_of_ble_eq_true rfl) (ev_Reader_sign _ q3)) ?_
  refine Go.t (Go_sg bk_LawReader_pass 2 1 (c2 := (some 5, [some (.ref 123), some (.int v1)], [.int v1, .int x1], σ)) (ps := []) rfl trivial) ?_
  refine Go_icmp_eq bk_LawReader_pass 3 rfl (fun c7 => ?_) (fun c7 => ?_)
  · have h := ifT c7 h
    have h := Option.some.inj h
    subst h
    refine Go.t (Go_sg bk_LawReader_pass 8 7 (c2 := (some 25, [some (.ref 123), some (.int v1)], [.int (1 : Int32)], sI σ 123 2 ((σ.1 123 2) + (1 : Int32)))) (ps := [shk 123 = 5, shk 123 = 5]) rfl ⟨rfl, rfl, trivial⟩) ?_
    exact Go_reti bk_LawReader_pass 15 rfl
  · have h := ifF c7 h
    refine Go.t (Go_sg bk_LawReader_pass 4 2 (c2 := (some 10, [some (.ref 123), some (.int v1)], [.int (1 : Int32), .ref 123], σ)) (ps := []) rfl trivial) ?_
    obtain ⟨⟨x4, σ5⟩, q6, h⟩ := bdS h
    dsimp only at h
    refine Go.t (Go_callU bk_LawReader_pass 6 rfl nk_Reader_fail (xc := "PuzzleWed$LawReader") tw718 tw719 tw722 (C := RX5) tw721 (ci := 5) rfl (as := [.int (1 : Int32)]) (S := []) rfl rfl rfl rfl (Nat.le_of_ble_eq_true rfl) (Nat.le_of_ble_eq_true rfl) (ev_Reader_fail _ _ q6)) ?_
    have h := Option.some.inj h
    subst h
    exact Go_reti bk_LawReader_pass 7 rfl
def LawReader_pass (v1 : Int32) (σ : MH) : Option (Int32 × MH) := bzo (LawReader_pass0 v1 σ)
set_option maxRecDepth 20000 in
set_option maxHeartbeats 2000000 in
theorem ev_LawReader_pass (v1 : Int32)  (σ : MH) {o} (h : LawReader_pass v1 σ = some o) : Ev m_LawReader_pass 3 [.ref 123, .int v1] σ (some (.int o.1)) o.2 := Ev.of2 (by decide +kernel) rfl (Nat.le_of_ble_eq_true rfl) ⟨.boolean, rfl, nrB (bzo2 h)⟩ (t_LawReader_pass0 v1 σ (bzo1 h))
def Law_copyFrom0  (σ : MH) : Option (MH) := some (sI (cpI (cpI (cpI (cpI σ 118 112 512) 119 113 16) 120 114 16) 121 115 16) 111 6 ((cpI (cpI (cpI (cpI σ 118 112 512) 119 113 16) 120 114 16) 121 115 16).1 117 6))
set_option maxRecDepth 20000 in
set_option maxHeartbeats 2000000 in
theorem t_Law_copyFrom0   (σ : MH) {o} (h : Law_copyFrom0 σ = some o) : Go m_Law_copyFrom 2 (some 0, [some (.ref 111), some (.ref 117)], [], σ) ((none, [], [], o)) := by
  unfold Law_copyFrom0 at h
  refine Go.t (Go_sg bk_Law_copyFrom 0 1 (c2 := (some 1, [some (.ref 111), some (.ref 117)], [.ref 117], σ)) (ps := []) rfl trivial) ?_
  refine Go.t (Go_nn_r bk_Law_copyFrom 1 rfl) ?_
  refine Go.t (Go_sg bk_Law_copyFrom 2 7 (c2 := (some 18, [some (.ref 111), some (.ref 117)], [.int (512 : Int32), .int (0 : Int32), .ref 112, .int (0 : Int32), .ref 118], σ)) (ps := [shk 117 = 4, shk 111 = 4]) rfl ⟨rfl, rfl, trivial⟩) ?_
  refine Go.t (Go_copy bk_Law_copyFrom 9 rfl tw783 ⟨rfl, rfl⟩ ⟨rfl, rfl⟩ (Nat.le_of_ble_eq_true rfl) 512 rfl rfl (Nat.le_of_ble_eq_true rfl) (Nat.le_of_ble_eq_true rfl) (Nat.le_of_ble_eq_true rfl)) ?_
  refine Go.t (Go_sg bk_Law_copyFrom 10 7 (c2 := (some 33, [some (.ref 111), some (.ref 117)], [.int (16 : Int32), .int (0 : Int32), .ref 113, .int (0 : Int32), .ref 119], cpI σ 118 112 512)) (ps := [shk 117 = 4, shk 111 = 4]) rfl ⟨rfl, rfl, trivial⟩) ?_
  refine Go.t (Go_copy bk_Law_copyFrom 17 rfl tw783 ⟨rfl, rfl⟩ ⟨rfl, rfl⟩ (Nat.le_of_ble_eq_true rfl) 16 rfl rfl (Nat.le_of_ble_eq_true rfl) (Nat.le_of_ble_eq_true rfl) (Nat.le_of_ble_eq_true rfl)) ?_
  refine Go.t (Go_sg bk_Law_copyFrom 18 7 (c2 := (some 48, [some (.ref 111), some (.ref 117)], [.int (16 : Int32), .int (0 : Int32), .ref 114, .int (0 : Int32), .ref 120], cpI (cpI σ 118 112 512) 119 113 16)) (ps := [shk 117 = 4, shk 111 = 4]) rfl ⟨rfl, rfl, trivial⟩) ?_
  refine Go.t (Go_copy bk_Law_copyFrom 25 rfl tw783 ⟨rfl, rfl⟩ ⟨rfl, rfl⟩ (Nat.le_of_ble_eq_true rfl) 16 rfl rfl (Nat.le_of_ble_eq_true rfl) (Nat.le_of_ble_eq_true rfl) (Nat.le_of_ble_eq_true rfl)) ?_
  refine Go.t (Go_sg bk_Law_copyFrom 26 7 (c2 := (some 63, [some (.ref 111), some (.ref 117)], [.int (16 : Int32), .int (0 : Int32), .ref 115, .int (0 : Int32), .ref 121], cpI (cpI (cpI σ 118 112 512) 119 113 16) 120 114 16)) (ps := [shk 117 = 4, shk 111 = 4]) rfl ⟨rfl, rfl, trivial⟩) ?_
  refine Go.t (Go_copy bk_Law_copyFrom 33 rfl tw783 ⟨rfl, rfl⟩ ⟨rfl, rfl⟩ (Nat.le_of_ble_eq_true rfl) 16 rfl rfl (Nat.le_of_ble_eq_true rfl) (Nat.le_of_ble_eq_true rfl) (Nat.le_of_ble_eq_true rfl)) ?_
  have h := Option.some.inj h
  subst h
  refine Go.t (Go_sg bk_Law_copyFrom 34 4 (c2 := (some 74, [some (.ref 111), some (.ref 117)], [], sI (cpI (cpI (cpI (cpI σ 118 112 512) 119 113 16) 120 114 16) 121 115 16) 111 6 ((cpI (cpI (cpI (cpI σ 118 112 512) 119 113 16) 120 114 16) 121 115 16).1 117 6))) (ps := [shk 117 = 4, shk 111 = 4]) rfl ⟨rfl, rfl, trivial⟩) ?_
  exact Go_ret0 bk_Law_copyFrom 38 rfl
def Law_copyFrom  (σ : MH) : Option (MH) := Law_copyFrom0 σ
set_option maxRecDepth 20000 in
set_option maxHeartbeats 2000000 in
theorem ev_Law_copyFrom   (σ : MH) {o} (h : Law_copyFrom σ = some o) : Ev m_Law_copyFrom 2 [.ref 111, .ref 117] σ none o := Ev.of2 (by decide +kernel) rfl (Nat.le_of_ble_eq_true rfl) rfl (t_Law_copyFrom0 σ h)
def Reader_begin_20 (v1 : Int32) (σ : MH) : Option (MH) := some (sI (sI (sI σ 124 1 v1) 124 2 (0 : Int32)) 124 3 (0 : Int32))
set_option maxRecDepth 20000 in
set_option maxHeartbeats 2000000 in
theorem t_Reader_begin_20 (v1 : Int32)  (σ : MH) {o} (h : Reader_begin_20 v1 σ = some o) : Go m_Reader_begin_2 1 (some 0, [some (.ref 124), some (.int v1)], [], σ) ((none, [], [], o)) := by
  unfold Reader_begin_20 at h
  have h := Option.some.inj h
  subst h
  refine Go.t (Go_sg bk_Reader_begin_2 0 9 (c2 := (some 15, [some (.ref 124), some (.int v1)], [], sI (sI (sI σ 124 1 v1) 124 2 (0 : Int32)) 124 3 (0 : Int32))) (ps := [shk 124 = 6, shk 124 = 6, shk 124 = 6]) rfl ⟨rfl, rfl, rfl, trivial⟩) ?_
  exact Go_ret0 bk_Reader_begin_2 9 rfl
def Reader_begin_2 (v1 : Int32) (σ : MH) : Option (MH) := Reader_begin_20 v1 σ
set_option maxRecDepth 20000 in
set_option maxHeartbeats 2000000 in
theorem ev_Reader_begin_2 (v1 : Int32)  (σ : MH) {o} (h : Reader_begin_2 v1 σ = some o) : Ev m_Reader_begin_2 1 [.ref 124, .int v1] σ none o := Ev.of2 (by decide +kernel) rfl (Nat.le_of_ble_eq_true rfl) rfl (t_Reader_begin_20 v1 σ h)
def Reader_sign_20  (σ : MH) : Option (Int32) := if σ.1 124 2 < (0 : Int32) then some ((-1 : Int32)) else (if σ.1 124 1 ≤ σ.1 124 2 then some ((-1 : Int32)) else (if (260 : Int32) ≤ σ.1 124 2 then some ((-1 : Int32)) else (if inb (σ.1 124 2) 260 = true then some (σ.1 110 (σ.1 124 2).toNatClampNeg) else none)))
set_option maxRecDepth 20000 in
set_option maxHeartbeats 2000000 in
theorem t_Reader_sign_20   (σ : MH) {o} (h : Reader_sign_20 σ = some o) : Go m_Reader_sign_2 1 (some 0, [some (.ref 124)], [], σ) ((none, [], [.int o], σ)) := by
  unfold Reader_sign_20 at h
  refine Go.t (Go_sg bk_Reader_sign_2 0 2 (c2 := (some 4, [some (.ref 124)], [.int (σ.1 124 2)], σ)) (ps := [shk 124 = 6]) rfl ⟨rfl, trivial⟩) ?_
  refine Go_if_lt bk_Reader_sign_2 2 rfl (fun c4 => ?_) (fun c4 => ?_)
  · have h := ifT c4 h
    have h := Option.some.inj h
    subst h
    refine Go.t (Go_sg bk_Reader_sign_2 19 1 (c2 := (some 44, [some (.ref 124)], [.int (-1 : Int32)], σ)) (ps := []) rfl trivial) ?_
    exact Go_reti bk_Reader_sign_2 20 rfl
  · have h := ifF c4 h
    refine Go.t (Go_sg bk_Reader_sign_2 3 4 (c2 := (some 15, [some (.ref 124)], [.int (σ.1 124 1), .int (σ.1 124 2)], σ)) (ps := [shk 124 = 6, shk 124 = 6]) rfl ⟨rfl, rfl, trivial⟩) ?_
    refine Go_icmp_ge bk_Reader_sign_2 7 rfl (fun c3 => ?_) (fun c3 => ?_)
    · have h := ifT c3 h
      have h := Option.some.inj h
      subst h
      refine Go.t (Go_sg bk_Reader_sign_2 19 1 (c2 := (some 44, [some (.ref 124)], [.int (-1 : Int32)], σ)) (ps := []) rfl trivial) ?_
      exact Go_reti bk_Reader_sign_2 20 rfl
    · have h := ifF c3 h
      refine Go.t (Go_sg bk_Reader_sign_2 8 3 (c2 := (some 25, [some (.ref 124)], [.int (260 : Int32), .int (σ.1 124 2)], σ)) (ps := [shk 124 = 6]) rfl ⟨rfl, trivial⟩) ?_
      refine Go_icmp_ge bk_Reader_sign_2 11 rfl (fun c2 => ?_) (fun c2 => ?_)
      · have h := ifT c2 h
        have h := Option.some.inj h
        subst h
        refine Go.t (Go_sg bk_Reader_sign_2 19 1 (c2 := (some 44, [some (.ref 124)], [.int (-1 : Int32)], σ)) (ps := []) rfl trivial) ?_
        exact Go_reti bk_Reader_sign_2 20 rfl
      · have h := ifF c2 h
        obtain ⟨g1, h⟩ := gdS h
        refine Go.t (Go_sg bk_Reader_sign_2 12 7 (c2 := (some 44, [some (.ref 124)], [.int (σ.1 110 (σ.1 124 2).toNatClampNeg)], σ)) (ps := [shk 124 = 6, shk 109 = 9, shk 124 = 6, IA 110 260 ∧ inb (σ.1 124 2) 260 = true]) rfl ⟨rfl, rfl, rfl, ⟨⟨rfl, rfl⟩, g1⟩, trivial⟩) ?_
        have h := Option.some.inj h
        subst h
        exact Go_reti bk_Reader_sign_2 20 rfl
def Reader_sign_2  (σ : MH) : Option (Int32) := Reader_sign_20 σ
set_option maxRecDepth 20000 in
set_option maxHeartbeats 2000000 in
theorem ev_Reader_sign_2   (σ : MH) {o} (h : Reader_sign_2 σ = some o) : Ev m_Reader_sign_2 1 [.ref 124] σ (some (.int o)) σ := Ev.of2 (by decide +kernel) rfl (Nat.le_of_ble_eq_true rfl) ⟨.int, rfl, rfl⟩ (t_Reader_sign_20 σ h)
def Reader_failAt_20 (v1 : Int32) (v2 : Int32) (σ : MH) : Option (Int32 × MH) := some ((0 : Int32), sI σ 124 3 (((-1000 : Int32) * v1) - v2))
set_option maxRecDepth 20000 in
set_option maxHeartbeats 2000000 in
theorem t_Reader_failAt_20 (v1 : Int32) (v2 : Int32)  (σ : MH) {o} (h : Reader_failAt_20 v1 v2 σ = some o) : Go m_Reader_failAt_2 1 (some 0, [some (.ref 124), some (.int v1), some (.int v2)], [], σ) ((none, [], [.int o.1], o.2)) := by
  unfold Reader_failAt_20 at h
  have h := Option.some.inj h
  subst h
  refine Go.t (Go_sg bk_Reader_failAt_2 0 8 (c2 := (some 12, [some (.ref 124), some (.int v1), some (.int v2)], [.int (0 : Int32)], sI σ 124 3 (((-1000 : Int32) * v1) - v2))) (ps := [shk 124 = 6]) rfl ⟨rfl, trivial⟩) ?_
  exact Go_reti bk_Reader_failAt_2 8 rfl
def Reader_failAt_2 (v1 : Int32) (v2 : Int32) (σ : MH) : Option (Int32 × MH) := bzo (Reader_failAt_20 v1 v2 σ)
set_option maxRecDepth 20000 in
set_option maxHeartbeats 2000000 in
theorem ev_Reader_failAt_2 (v1 : Int32) (v2 : Int32)  (σ : MH) {o} (h : Reader_failAt_2 v1 v2 σ = some o) : Ev m_Reader_failAt_2 1 [.ref 124, .int v1, .int v2] σ (some (.int o.1)) o.2 := Ev.of2 (by decide +kernel) rfl (Nat.le_of_ble_eq_true rfl) ⟨.boolean, rfl, nrB (bzo2 h)⟩ (t_Reader_failAt_20 v1 v2 σ (bzo1 h))
def Reader_fail_20 (v1 : Int32) (σ : MH) : Option (Int32 × MH) := (Reader_failAt_2 v1 (σ.1 124 2) σ).bind fun (x1, σ2) => some (x1, σ2)
set_option maxRecDepth 20000 in
set_option maxHeartbeats 2000000 in
theorem t_Reader_fail_20 (v1 : Int32)  (σ : MH) {o} (h : Reader_fail_20 v1 σ = some o) : Go m_Reader_fail_2 2 (some 0, [some (.ref 124), some (.int v1)], [], σ) ((none, [], [.int o.1], o.2)) := by
  unfold Reader_fail_20 at h
  refine Go.t (Go_sg bk_Reader_fail_2 0 4 (c2 := (some 6, [some (.ref 124), some (.int v1)], [.int (σ.1 124 2), .int v1, .ref 124], σ)) (ps := [shk 124 = 6]) rfl ⟨rfl, trivial⟩) ?_
  obtain ⟨⟨x1, σ2⟩, q3, h⟩ := bdS h
  dsimp only at h
  refine Go.t (Go_callU bk_Reader_fail_2 4 rfl nk_Reader_failAt_2 (xc := "PuzzleWed$Reader") tw724 tw726 tw725 (C := RX6) tw728 (ci := 6) rfl (as := [.int v1, .int (σ.1 124 2)]) (S := []) rfl rfl rfl rfl (Nat.le_of_ble_eq_true rfl) (Nat.le_of_ble_eq_true rfl) (ev_Reader_failAt_2 _ _ _ q3)) ?_
  have h := Option.some.inj h
  subst h
  exact Go_reti bk_Reader_fail_2 5 rfl
def Reader_fail_2 (v1 : Int32) (σ : MH) : Option (Int32 × MH) := bzo (Reader_fail_20 v1 σ)
set_option maxRecDepth 20000 in
set_option maxHeartbeats 2000000 in
theorem ev_Reader_fail_2 (v1 : Int32)  (σ : MH) {o} (h : Reader_fail_2 v1 σ = some o) : Ev m_Reader_fail_2 2 [.ref 124, .int v1] σ (some (.int o.1)) o.2 := Ev.of2 (by decide +kernel) rfl (Nat.le_of_ble_eq_true rfl) ⟨.boolean, rfl, nrB (bzo2 h)⟩ (t_Reader_fail_20 v1 σ (bzo1 h))
def ListReader_readHeight_b55  (σ : MH) : Option (Int32 × MH) := (Reader_fail_2 (1 : Int32) σ).bind fun (x7, σ8) => some (x7, σ8)
set_option maxRecDepth 20000 in
set_option maxHeartbeats 2000000 in
theorem t_ListReader_readHeight_b55    (σ : MH) {o} (h : ListReader_readHeight_b55 σ = some o) : Go m_ListReader_readHeight 3 (some 55, [some (.ref 124), none, none], [], σ) ((none, [], [.int o.1], o.2)) := by
  unfold ListReader_readHeight_b55 at h
  refine Go.t (Go_sg bk_ListReader_readHeight 29 2 (c2 := (some 57, [some (.ref 124), none, none], [.int (1 : Int32), .ref 124], σ)) (ps := []) rfl trivial) ?_
  obtain ⟨⟨x7, σ8⟩, q9, h⟩ := bdS h
  dsimp only at h
  refine Go.t (Go_callU bk_ListReader_readHeight 31 rfl nk_Reader_fail_2 (xc := "PuzzleWed$ListReader") tw805 tw806 tw722 (C := RX6) tw807 (ci := 6) rfl (as := [.int (1 : Int32)]) (S := []) rfl rfl rfl rfl (Nat.le_of_ble_eq_true rfl) (Nat.le_of_ble_eq_true rfl) (ev_Reader_fail_2 _ _ q9)) ?_
  have h := Option.some.inj h
  subst h
  exact Go_reti bk_ListReader_readHeight 32 rfl
def ListReader_readHeight_b77 (s0 : Int32) (σ : MH) : Option (Int32 × MH) := some ((1 : Int32), sI (sI σ 124 6 s0) 124 2 (((sI σ 124 6 s0).1 124 2) + (1 : Int32)))
set_option maxRecDepth 20000 in
set_option maxHeartbeats 2000000 in
theorem t_ListReader_readHeight_b77 (s0 : Int32)   (σ : MH) {o} (h : ListReader_readHeight_b77 s0 σ = some o) : Go m_ListReader_readHeight 3 (some 77, [some (.ref 124), none, none], [.int s0, .ref 124], σ) ((none, [], [.int o.1], o.2)) := by
  unfold ListReader_readHeight_b77 at h
  have h := Option.some.inj h
  subst h
  refine Go.t (Go_sg bk_ListReader_readHeight 43 8 (c2 := (some 91, [some (.ref 124), none, none], [.int (1 : Int32)], sI (sI σ 124 6 s0) 124 2 (((sI σ 124 6 s0).1 124 2) + (1 : Int32)))) (ps := [shk 124 = 6, shk 124 = 6, shk 124 = 6]) rfl ⟨rfl, rfl, rfl, trivial⟩) ?_
  exact Go_reti bk_ListReader_readHeight 51 rfl
def ListReader_readHeight_b46 (v1 : Int32) (v2 : Int32) (s0 : Int32) (s1 : Int32) (σ : MH) : Option (Int32 × MH) := if s1 < s0 then (ListReader_readHeight_b55 σ) else (if v2 ≤ (57 : Int32) then (if v1 = (0 : Int32) then (ListReader_readHeight_b77 (v2 - (48 : Int32)) σ) else (ListReader_readHeight_b77 ((48 : Int32) - v2) σ)) else (ListReader_readHeight_b55 σ))
set_option maxRecDepth 20000 in
set_option maxHeartbeats 2000000 in
theorem t_ListReader_readHeight_b46 (v1 : Int32) (v2 : Int32) (s0 : Int32) (s1 : Int32)   (σ : MH) {o} (h : ListReader_readHeight_b46 v1 v2 s0 s1 σ = some o) : Go m_ListReader_readHeight 3 (some 46, [some (.ref 124), some (.int v1), some (.int v2)], [.int s0, .int s1], σ) ((none, [], [.int o.1], o.2)) := by
  unfold ListReader_readHeight_b46 at h
  refine Go_icmp_lt bk_ListReader_readHeight 25 rfl (fun c12 => ?_) (fun c12 => ?_)
  · have h := ifT c12 h
    exact Go.t (Go.fg (LSub.cs (LSub.cn (LSub.cn (LSub.nil))))) (t_ListReader_readHeight_b55 σ h)
  · have h := ifF c12 h
    refine Go.t (Go_sg bk_ListReader_readHeight 26 2 (c2 := (some 52, [some (.ref 124), some (.int v1), some (.int v2)], [.int (57 : Int32), .int v2], σ)) (ps := []) rfl trivial) ?_
    refine Go_icmp_le bk_ListReader_readHeight 28 rfl (fun c11 => ?_) (fun c11 => ?_)
    · have h := ifT c11 h
      refine Go.t (Go_sg bk_ListReader_readHeight 33 2 (c2 := (some 63, [some (.ref 124), some (.int v1), some (.int v2)], [.int v1, .ref 124], σ)) (ps := []) rfl trivial) ?_
      refine Go_if_eq bk_ListReader_readHeight 35 rfl (fun c10 => ?_) (fun c10 => ?_)
      · have h := ifT c10 h
        refine Go.t (Go_sg bk_ListReader_readHeight 40 3 (c2 := (some 77, [some (.ref 124), some (.int v1), some (.int v2)], [.int (v2 - (48 : Int32)), .ref 124], σ)) (ps := []) rfl trivial) ?_
        exact Go.t (Go.fg (LSub.cs (LSub.cn (LSub.cn (LSub.nil))))) (t_ListReader_readHeight_b77 (v2 - (48 : Int32)) σ h)
      · have h := ifF c10 h
        refine Go.t (Go_sg bk_ListReader_readHeight 36 4 (c2 := (some 77, [some (.ref 124), some (.int v1), some (.int v2)], [.int ((48 : Int32) - v2), .ref 124], σ)) (ps := []) rfl trivial) ?_
        exact Go.t (Go.fg (LSub.cs (LSub.cn (LSub.cn (LSub.nil))))) (t_ListReader_readHeight_b77 ((48 : Int32) - v2) σ h)
    · have h := ifF c11 h
      exact Go.t (Go.fg (LSub.cs (LSub.cn (LSub.cn (LSub.nil))))) (t_ListReader_readHeight_b55 σ h)
def ListReader_readHeight_b29 (v1 : Int32) (σ : MH) : Option (Int32 × MH) := (Reader_sign_2 σ).bind fun x4 => if v1 = (0 : Int32) then (ListReader_readHeight_b46 v1 x4 (48 : Int32) x4 σ) else (ListReader_readHeight_b46 v1 x4 (49 : Int32) x4 σ)
set_option maxRecDepth 20000 in
set_option maxHeartbeats 2000000 in
theorem t_ListReader_readHeight_b29 (v1 : Int32)   (σ : MH) {o} (h : ListReader_readHeight_b29 v1 σ = some o) : Go m_ListReader_readHeight 3 (some 29, [some (.ref 124), some (.int v1), none], [], σ) ((none, [], [.int o.1], o.2)) := by
  unfold ListReader_readHeight_b29 at h
  refine Go.t (Go_sg bk_ListReader_readHeight 16 1 (c2 := (some 30, [some (.ref 124), some (.int v1), none], [.ref 124], σ)) (ps := []) rfl trivial) ?_
  obtain ⟨x4, q6, h⟩ := bdS h
  refine Go.t (Go_callU bk_ListReader_readHeight 17 rfl nk_Reader_sign_2 (xc := "PuzzleWed$ListReader") tw802 tw803 tw630 (C := RX6) tw804 (ci := 6) rfl (as := []) (S := []) rfl rfl rfl rfl (Nat.le_of_ble_eq_true rfl) (Nat.le_of_ble_eq_true rfl) (ev_Reader_sign_2 _ q6)) ?_
  refine Go.t (Go_sg bk_ListReader_readHeight 18 3 (c2 := (some 36, [some (.ref 124), some (.int v1), some (.int x4)], [.int v1, .int x4], σ)) (ps := []) rfl trivial) ?_
  refine Go_if_eq bk_ListReader_readHeight 21 rfl (fun c13 => ?_) (fun c13 => ?_)
  · have h := ifT c13 h
    refine Go.t (Go_sg bk_ListReader_readHeight 24 1 (c2 := (some 46, [some (.ref 124), some (.int v1), some (.int x4)], [.int (48 : Int32), .int x4], σ)) (ps := []) rfl trivial) ?_
    exact Go.t (Go.fg (LSub.cs (LSub.cs (LSub.cs (LSub.nil))))) (t_ListReader_readHeight_b46 v1 x4 (48 : Int32) x4 σ h)
  · have h := ifF c13 h
    refine Go.t (Go_sg bk_ListReader_readHeight 22 2 (c2 := (some 46, [some (.ref 124), some (.int v1), some (.int x4)], [.int (49 : Int32), .int x4], σ)) (ps := []) rfl trivial) ?_
    exact Go.t (Go.fg (LSub.cs (LSub.cs (LSub.cs (LSub.nil))))) (t_ListReader_readHeight_b46 v1 x4 (49 : Int32) x4 σ h)
def ListReader_readHeight_b14 (s0 : Int32) (σ : MH) : Option (Int32 × MH) := if s0 = (0 : Int32) then (ListReader_readHeight_b29 s0 σ) else ListReader_readHeight_b29 s0 (sI σ 124 2 ((σ.1 124 2) + (1 : Int32)))
set_option maxRecDepth 20000 in
set_option maxHeartbeats 2000000 in
theorem t_ListReader_readHeight_b14 (s0 : Int32)   (σ : MH) {o} (h : ListReader_readHeight_b14 s0 σ = some o) : Go m_ListReader_readHeight 3 (some 14, [some (.ref 124), none, none], [.int s0], σ) ((none, [], [.int o.1], o.2)) := by
  unfold ListReader_readHeight_b14 at h
  refine Go.t (Go_sg bk_ListReader_readHeight 7 2 (c2 := (some 16, [some (.ref 124), some (.int s0), none], [.int s0], σ)) (ps := []) rfl trivial) ?_
  refine Go_if_eq bk_ListReader_readHeight 9 rfl (fun c14 => ?_) (fun c14 => ?_)
  · have h := ifT c14 h
    exact Go.t (Go.fg (LSub.cs (LSub.cs (LSub.cn (LSub.nil))))) (t_ListReader_readHeight_b29 s0 σ h)
  · have h := ifF c14 h
    refine Go.t (Go_sg bk_ListReader_readHeight 10 6 (c2 := (some 29, [some (.ref 124), some (.int s0), none], [], sI σ 124 2 ((σ.1 124 2) + (1 : Int32)))) (ps := [shk 124 = 6, shk 124 = 6]) rfl ⟨rfl, rfl, trivial⟩) ?_
    exact Go.t (Go.fg (LSub.cs (LSub.cs (LSub.cn (LSub.nil))))) (t_ListReader_readHeight_b29 s0 (sI σ 124 2 ((σ.1 124 2) + (1 : Int32))) h)
def ListReader_readHeight0  (σ : MH) : Option (Int32 × MH) := (Reader_sign_2 σ).bind fun x1 => if x1 = (45 : Int32) then (ListReader_readHeight_b14 (1 : Int32) σ) else (ListReader_readHeight_b14 (0 : Int32) σ)
set_option maxRecDepth 20000 in
set_option maxHeartbeats 2000000 in
theorem t_ListReader_readHeight0   (σ : MH) {o} (h : ListReader_readHeight0 σ = some o) : Go m_ListReader_readHeight 3 (some 0, [some (.ref 124), none, none], [], σ) ((none, [], [.int o.1], o.2)) := by
  unfold ListReader_readHeight0 at h
  refine Go.t (Go_sg bk_ListReader_readHeight 0 1 (c2 := (some 1, [some (.ref 124), none, none], [.ref 124], σ)) (ps := []) rfl trivial) ?_
  obtain ⟨x1, q3, h⟩ := bdS h
  refine Go.t (Go_callU bk_ListReader_readHeight 1 rfl nk_Reader_sign_2 (xc := "PuzzleWed$ListReader") tw802 tw803 tw630 (C := RX6) tw804 (ci := 6) rfl (as := []) (S := []) rfl rfl rfl rfl (Nat.le_of_ble_eq_true rfl) (Nat.le_of_ble_eq_true rfl) (ev_Reader_sign_2 _ q3)) ?_
  refine Go.t (Go_sg bk_ListReader_readHeight 2 1 (c2 := (some 6, [some (.ref 124), none, none], [.int (45 : Int32), .int x1], σ)) (ps := []) rfl trivial) ?_
  refine Go_icmp_ne bk_ListReader_readHeight 3 rfl (fun c15 => ?_) (fun c15 => ?_)
  · have h := ifF c15 h
    refine Go.t (Go_sg bk_ListReader_readHeight 6 1 (c2 := (some 14, [some (.ref 124), none, none], [.int (0 : Int32)], σ)) (ps := []) rfl trivial) ?_
    exact Go.t (Go.fg (LSub.cs (LSub.cn (LSub.cn (LSub.nil))))) (t_ListReader_readHeight_b14 (0 : Int32) σ h)
  · have h := ifT c15 h
    refine Go.t (Go_sg bk_ListReader_readHeight 4 2 (c2 := (some 14, [some (.ref 124), none, none], [.int (1 : Int32)], σ)) (ps := []) rfl trivial) ?_
    exact Go.t (Go.fg (LSub.cs (LSub.cn (LSub.cn (LSub.nil))))) (t_ListReader_readHeight_b14 (1 : Int32) σ h)
def ListReader_readHeight  (σ : MH) : Option (Int32 × MH) := bzo (ListReader_readHeight0 σ)
set_option maxRecDepth 20000 in
set_option maxHeartbeats 2000000 in
theorem ev_ListReader_readHeight   (σ : MH) {o} (h : ListReader_readHeight σ = some o) : Ev m_ListReader_readHeight 3 [.ref 124] σ (some (.int o.1)) o.2 := Ev.of2 (by decide +kernel) rfl (Nat.le_of_ble_eq_true rfl) ⟨.boolean, rfl, nrB (bzo2 h)⟩ (t_ListReader_readHeight0 σ (bzo1 h))
def ListReader_readTimes_b42  (σ : MH) : Option (Int32 × MH) := (Reader_fail_2 (1 : Int32) σ).bind fun (x7, σ8) => some (x7, σ8)
set_option maxRecDepth 20000 in
set_option maxHeartbeats 2000000 in
theorem t_ListReader_readTimes_b42    (σ : MH) {o} (h : ListReader_readTimes_b42 σ = some o) : Go m_ListReader_readTimes 3 (some 42, [some (.ref 124), none, none], [], σ) ((none, [], [.int o.1], o.2)) := by
  unfold ListReader_readTimes_b42 at h
  refine Go.t (Go_sg bk_ListReader_readTimes 24 2 (c2 := (some 44, [some (.ref 124), none, none], [.int (1 : Int32), .ref 124], σ)) (ps := []) rfl trivial) ?_
  obtain ⟨⟨x7, σ8⟩, q9, h⟩ := bdS h
  dsimp only at h
  refine Go.t (Go_callU bk_ListReader_readTimes 26 rfl nk_Reader_fail_2 (xc := "PuzzleWed$ListReader") tw805 tw806 tw722 (C := RX6) tw807 (ci := 6) rfl (as := [.int (1 : Int32)]) (S := []) rfl rfl rfl rfl (Nat.le_of_ble_eq_true rfl) (Nat.le_of_ble_eq_true rfl) (ev_Reader_fail_2 _ _ q9)) ?_
  have h := Option.some.inj h
  subst h
  exact Go_reti bk_ListReader_readTimes 27 rfl
def ListReader_readTimes0 (v1 : Int32) (σ : MH) : Option (Int32 × MH) := (Reader_sign_2 (sI σ 124 7 (1 : Int32))).bind fun x1 => if x1 = (42 : Int32) then ((Reader_sign_2 (sI (sI σ 124 7 (1 : Int32)) 124 2 (((sI σ 124 7 (1 : Int32)).1 124 2) + (1 : Int32)))).bind fun x4 => if x4 < (50 : Int32) then ListReader_readTimes_b42 (sI (sI σ 124 7 (1 : Int32)) 124 2 (((sI σ 124 7 (1 : Int32)).1 124 2) + (1 : Int32))) else (if x4 ≤ v1 then some ((1 : Int32), sI (sI (sI (sI σ 124 7 (1 : Int32)) 124 2 (((sI σ 124 7 (1 : Int32)).1 124 2) + (1 : Int32))) 124 7 (x4 - (48 : Int32))) 124 2 (((sI (sI (sI σ 124 7 (1 : Int32)) 124 2 (((sI σ 124 7 (1 : Int32)).1 124 2) + (1 : Int32))) 124 7 (x4 - (48 : Int32))).1 124 2) + (1 : Int32))) else ListReader_readTimes_b42 (sI (sI σ 124 7 (1 : Int32)) 124 2 (((sI σ 124 7 (1 : Int32)).1 124 2) + (1 : Int32))))) else some ((1 : Int32), sI σ 124 7 (1 : Int32))
set_option maxRecDepth 20000 in
set_option maxHeartbeats 2000000 in
theorem t_ListReader_readTimes0 (v1 : Int32)  (σ : MH) {o} (h : ListReader_readTimes0 v1 σ = some o) : Go m_ListReader_readTimes 3 (some 0, [some (.ref 124), some (.int v1), none], [], σ) ((none, [], [.int o.1], o.2)) := by
  unfold ListReader_readTimes0 at h
  refine Go.t (Go_sg bk_ListReader_readTimes 0 4 (c2 := (some 6, [some (.ref 124), some (.int v1), none], [.ref 124], sI σ 124 7 (1 : Int32))) (ps := [shk 124 = 6]) rfl ⟨rfl, trivial⟩) ?_
  obtain ⟨x1, q3, h⟩ := bdS h
  refine Go.t (Go_callU bk_ListReader_readTimes 4 rfl nk_Reader_sign_2 (xc := "PuzzleWed$ListReader") tw802 tw803 tw630 (C := RX6) tw804 (ci := 6) rfl (as := []) (S := []) rfl rfl rfl rfl (Nat.le_of_ble_eq_true rfl) (Nat.le_of_ble_eq_true rfl) (ev_Reader_sign_2 _ q3)) ?_
  refine Go.t (Go_sg bk_ListReader_readTimes 5 1 (c2 := (some 11, [some (.ref 124), some (.int v1), none], [.int (42 : Int32), .int x1], sI σ 124 7 (1 : Int32))) (ps := []) rfl trivial) ?_
  refine Go_icmp_eq bk_ListReader_readTimes 6 rfl (fun c12 => ?_) (fun c12 => ?_)
  · have h := ifT c12 h
    refine Go.t (Go_sg bk_ListReader_readTimes 9 7 (c2 := (some 27, [some (.ref 124), some (.int v1), none], [.ref 124], sI (sI σ 124 7 (1 : Int32)) 124 2 (((sI σ 124 7 (1 : Int32)).1 124 2) + (1 : Int32)))) (ps := [shk 124 = 6, shk 124 = 6]) rfl ⟨rfl, rfl, trivial⟩) ?_
    obtain ⟨x4, q6, h⟩ := bdS h
    refine Go.t (Go_callU bk_ListReader_readTimes 16 rfl nk_Reader_sign_2 (xc := "PuzzleWed$ListReader") tw802 tw803 tw630 (C := RX6) tw804 (ci := 6) rfl (as := []) (S := []) rfl rfl rfl rfl (Nat.le_of_ble_eq_true rfl) (Nat.le_of_ble_eq_true rfl) (ev_Reader_sign_2 _ q6)) ?_
    refine Go.t (Go_sg bk_ListReader_readTimes 17 3 (c2 := (some 34, [some (.ref 124), some (.int v1), some (.int x4)], [.int (50 : Int32), .int x4], sI (sI σ 124 7 (1 : Int32)) 124 2 (((sI σ 124 7 (1 : Int32)).1 124 2) + (1 : Int32)))) (ps := []) rfl trivial) ?_
    refine Go_icmp_lt bk_ListReader_readTimes 20 rfl (fun c11 => ?_) (fun c11 => ?_)
    · have h := ifT c11 h
      exact Go.t (Go.fg (LSub.cs (LSub.cn (LSub.cn (LSub.nil))))) (t_ListReader_readTimes_b42 (sI (sI σ 124 7 (1 : Int32)) 124 2 (((sI σ 124 7 (1 : Int32)).1 124 2) + (1 : Int32))) h)
    · have h := ifF c11 h
      refine Go.t (Go_sg bk_ListReader_readTimes 21 2 (c2 := (some 39, [some (.ref 124), some (.int v1), some (.int x4)], [.int v1, .int x4], sI (sI σ 124 7 (1 : Int32)) 124 2 (((sI σ 124 7 (1 : Int32)).1 124 2) + (1 : Int32)))) (ps := []) rfl trivial) ?_
      refine Go_icmp_le bk_ListReader_readTimes 23 rfl (fun c10 => ?_) (fun c10 => ?_)
      · have h := ifT c10 h
        have h := Option.some.inj h
        subst h
        refine Go.t (Go_sg bk_ListReader_readTimes 28 12 (c2 := (some 67, [some (.ref 124), some (.int v1), some (.int x4)], [.int (1 : Int32)], sI (sI (sI (sI σ 124 7 (1 : Int32)) 124 2 (((sI σ 124 7 (1 : Int32)).1 124 2) + (1 : Int32))) 124 7 (x4 - (48 : Int32))) 124 2 (((sI (sI (sI σ 124 7 (1 : Int32)) 124 2 (((sI σ 124 7 (1 : Int32)).1 124 2) + (1 : Int32))) 124 7 (x4 - (48 : Int32))).1 124 2) + (1 : Int32)))) (ps := [shk 124 = 6, shk 124 = 6, shk 124 = 6]) rfl ⟨rfl, rfl, rfl, trivial⟩) ?_
        exact Go_reti bk_ListReader_readTimes 40 rfl
      · have h := ifF c10 h
        exact Go.t (Go.fg (LSub.cs (LSub.cn (LSub.cn (LSub.nil))))) (t_ListReader_readTimes_b42 (sI (sI σ 124 7 (1 : Int32)) 124 2 (((sI σ 124 7 (1 : Int32)).1 124 2) + (1 : Int32))) h)
  · have h := ifF c12 h
    have h := Option.some.inj h
    subst h
    refine Go.t (Go_sg bk_ListReader_readTimes 7 1 (c2 := (some 15, [some (.ref 124), some (.int v1), none], [.int (1 : Int32)], sI σ 124 7 (1 : Int32))) (ps := []) rfl trivial) ?_
    exact Go_reti bk_ListReader_readTimes 8 rfl
def ListReader_readTimes (v1 : Int32) (σ : MH) : Option (Int32 × MH) := bzo (ListReader_readTimes0 v1 σ)
set_option maxRecDepth 20000 in
set_option maxHeartbeats 2000000 in
theorem ev_ListReader_readTimes (v1 : Int32)  (σ : MH) {o} (h : ListReader_readTimes v1 σ = some o) : Ev m_ListReader_readTimes 3 [.ref 124, .int v1] σ (some (.int o.1)) o.2 := Ev.of2 (by decide +kernel) rfl (Nat.le_of_ble_eq_true rfl) ⟨.boolean, rfl, nrB (bzo2 h)⟩ (t_ListReader_readTimes0 v1 σ (bzo1 h))
def cH_ListReader_put_2  (s : Int32 × MH) : MC := (some 2, [some (.ref 124), some (.int s.1)], [], s.2)
def cR_ListReader_put_2  : ((MH)) → MC := (fun r : MH => ((none, [], [], r) : MC))
def ListReader_put_b50 (v1 : Int32) (σ : MH) : Option (((Int32 × MH) ⊕ ((MH)))) := some (.inl (v1 + (1 : Int32), σ))
set_option maxRecDepth 20000 in
set_option maxHeartbeats 2000000 in
theorem t_ListReader_put_b50 (v1 : Int32)   (σ : MH) {o} (h : ListReader_put_b50 v1 σ = some o) : Go m_ListReader_put 1 (some 50, [some (.ref 124), some (.int v1)], [], σ) (cS (cH_ListReader_put_2 ) (cR_ListReader_put_2 ) o) := by
  unfold ListReader_put_b50 at h
  refine Go.t (Go_sg bk_ListReader_put 26 2 (c2 := (some 2, [some (.ref 124), some (.int (v1 + (1 : Int32)))], [], σ)) (ps := []) rfl trivial) ?_
  have h := Option.some.inj h
  subst h
  exact Go.fg (LSub.cs (LSub.cs (LSub.nil)))
def ListReader_put_l2 (v1 : Int32) (σ : MH) : Option (((Int32 × MH) ⊕ ((MH)))) := if σ.1 124 7 ≤ v1 then some (.inr (σ)) else (if σ.1 124 5 < (0 : Int32) then (ListReader_put_b50 v1 σ) else (if (144 : Int32) ≤ σ.1 124 5 then (ListReader_put_b50 v1 σ) else (if inb (σ.1 124 5) 144 = true then ListReader_put_b50 v1 (sI (sI σ 125 (σ.1 124 5).toNatClampNeg (σ.1 124 6)) 124 5 (((sI σ 125 (σ.1 124 5).toNatClampNeg (σ.1 124 6)).1 124 5) + (1 : Int32))) else none)))
set_option maxRecDepth 20000 in
set_option maxHeartbeats 2000000 in
theorem t_ListReader_put_l2 (v1 : Int32)  (σ : MH) {o} (h : ListReader_put_l2 v1 σ = some o) : Go m_ListReader_put 1 (cH_ListReader_put_2  (v1, σ)) (cS (cH_ListReader_put_2 ) (cR_ListReader_put_2 ) o) := by
  unfold ListReader_put_l2 at h
  unfold cH_ListReader_put_2
  refine Go.t (Go_sg bk_ListReader_put 2 3 (c2 := (some 7, [some (.ref 124), some (.int v1)], [.int (σ.1 124 7), .int v1], σ)) (ps := [shk 124 = 6]) rfl ⟨rfl, trivial⟩) ?_
  refine Go_icmp_ge bk_ListReader_put 5 rfl (fun c4 => ?_) (fun c4 => ?_)
  · have h := ifT c4 h
    have h := Option.some.inj h
    subst h
    exact Go_ret0 bk_ListReader_put 28 rfl
  · have h := ifF c4 h
    refine Go.t (Go_sg bk_ListReader_put 6 2 (c2 := (some 14, [some (.ref 124), some (.int v1)], [.int (σ.1 124 5)], σ)) (ps := [shk 124 = 6]) rfl ⟨rfl, trivial⟩) ?_
    refine Go_if_lt bk_ListReader_put 8 rfl (fun c3 => ?_) (fun c3 => ?_)
    · have h := ifT c3 h
      exact Go.t (Go.fg (LSub.cs (LSub.cs (LSub.nil)))) (t_ListReader_put_b50 v1 σ h)
    · have h := ifF c3 h
      refine Go.t (Go_sg bk_ListReader_put 9 3 (c2 := (some 24, [some (.ref 124), some (.int v1)], [.int (144 : Int32), .int (σ.1 124 5)], σ)) (ps := [shk 124 = 6]) rfl ⟨rfl, trivial⟩) ?_
      refine Go_icmp_ge bk_ListReader_put 12 rfl (fun c2 => ?_) (fun c2 => ?_)
      · have h := ifT c2 h
        exact Go.t (Go.fg (LSub.cs (LSub.cs (LSub.nil)))) (t_ListReader_put_b50 v1 σ h)
      · have h := ifF c2 h
        obtain ⟨g1, h⟩ := gdS h
        refine Go.t (Go_sg bk_ListReader_put 13 13 (c2 := (some 50, [some (.ref 124), some (.int v1)], [], sI (sI σ 125 (σ.1 124 5).toNatClampNeg (σ.1 124 6)) 124 5 (((sI σ 125 (σ.1 124 5).toNatClampNeg (σ.1 124 6)).1 124 5) + (1 : Int32)))) (ps := [shk 124 = 6, shk 124 = 6, shk 124 = 6, IA 125 144 ∧ inb (σ.1 124 5) 144 = true, shk 124 = 6, shk 124 = 6]) rfl ⟨rfl, rfl, rfl, ⟨⟨rfl, rfl⟩, g1⟩, rfl, rfl, trivial⟩) ?_
        exact Go.t (Go.fg (LSub.cs (LSub.cs (LSub.nil)))) (t_ListReader_put_b50 v1 (sI (sI σ 125 (σ.1 124 5).toNatClampNeg (σ.1 124 6)) 124 5 (((sI σ 125 (σ.1 124 5).toNatClampNeg (σ.1 124 6)).1 124 5) + (1 : Int32))) h)
def ListReader_put_L2  (s : Int32 × MH) : Option ((MH)) := itr (fun s : Int32 × MH => ListReader_put_l2 s.1 s.2) FU s
set_option maxRecDepth 20000 in
set_option maxHeartbeats 2000000 in
theorem t_ListReader_put_L2   (s : Int32 × MH) {r} (h : ListReader_put_L2  s = some r) : Go m_ListReader_put 1 (cH_ListReader_put_2  s) (cR_ListReader_put_2  r) := Go_itr (fun s o ho => t_ListReader_put_l2 s.1 s.2 ho) FU s r h
def ListReader_put0  (σ : MH) : Option (MH) := (ListReader_put_L2 ((0 : Int32), σ)).bind fun z5 => some (z5)
set_option maxRecDepth 20000 in
set_option maxHeartbeats 2000000 in
theorem t_ListReader_put0   (σ : MH) {o} (h : ListReader_put0 σ = some o) : Go m_ListReader_put 1 (some 0, [some (.ref 124), none], [], σ) ((none, [], [], o)) := by
  unfold ListReader_put0 at h
  refine Go.t (Go_sg bk_ListReader_put 0 2 (c2 := (some 2, [some (.ref 124), some (.int (0 : Int32))], [], σ)) (ps := []) rfl trivial) ?_
  obtain ⟨z5, q6, h⟩ := bdS h
  refine Go.t (Go.t (Go.fg (LSub.cs (LSub.cs (LSub.nil)))) (t_ListReader_put_L2 _ q6)) ?_
  have h := Option.some.inj h
  subst h
  exact Go.rf
def ListReader_put  (σ : MH) : Option (MH) := ListReader_put0 σ
set_option maxRecDepth 20000 in
set_option maxHeartbeats 2000000 in
theorem ev_ListReader_put   (σ : MH) {o} (h : ListReader_put σ = some o) : Ev m_ListReader_put 1 [.ref 124] σ none o := Ev.of2 (by decide +kernel) rfl (Nat.le_of_ble_eq_true rfl) rfl (t_ListReader_put0 σ h)
def Reader_isEnd_20  (σ : MH) : Option (Int32) := if σ.1 124 2 < σ.1 124 1 then some ((0 : Int32)) else some ((1 : Int32))
set_option maxRecDepth 20000 in
set_option maxHeartbeats 2000000 in
theorem t_Reader_isEnd_20   (σ : MH) {o} (h : Reader_isEnd_20 σ = some o) : Go m_Reader_isEnd_2 1 (some 0, [some (.ref 124)], [], σ) ((none, [], [.int o], σ)) := by
  unfold Reader_isEnd_20 at h
  refine Go.t (Go_sg bk_Reader_isEnd_2 0 4 (c2 := (some 8, [some (.ref 124)], [.int (σ.1 124 1), .int (σ.1 124 2)], σ)) (ps := [shk 124 = 6, shk 124 = 6]) rfl ⟨rfl, rfl, trivial⟩) ?_
  refine Go_icmp_lt bk_Reader_isEnd_2 4 rfl (fun c1 => ?_) (fun c1 => ?_)
  · have h := ifT c1 h
    have h := Option.some.inj h
    subst h
    refine Go.t (Go_sg bk_Reader_isEnd_2 7 1 (c2 := (some 16, [some (.ref 124)], [.int (0 : Int32)], σ)) (ps := []) rfl trivial) ?_
    exact Go_reti bk_Reader_isEnd_2 8 rfl
  · have h := ifF c1 h
    refine Go.t (Go_sg bk_Reader_isEnd_2 5 2 (c2 := (some 16, [some (.ref 124)], [.int (1 : Int32)], σ)) (ps := []) rfl trivial) ?_
    have h := Option.some.inj h
    subst h
    exact Go_reti bk_Reader_isEnd_2 8 rfl
def Reader_isEnd_2  (σ : MH) : Option (Int32) := bzp (Reader_isEnd_20 σ)
set_option maxRecDepth 20000 in
set_option maxHeartbeats 2000000 in
theorem ev_Reader_isEnd_2   (σ : MH) {o} (h : Reader_isEnd_2 σ = some o) : Ev m_Reader_isEnd_2 1 [.ref 124] σ (some (.int o)) σ := Ev.of2 (by decide +kernel) rfl (Nat.le_of_ble_eq_true rfl) ⟨.boolean, rfl, nrB (bzp2 h)⟩ (t_Reader_isEnd_20 σ (bzp1 h))
def cH_ListReader_readEdge_12 (v1 : Int32) (s : Int32 × MH) : MC := (some 12, [some (.ref 124), some (.int v1), some (.int s.1), none], [], s.2)
def cR_ListReader_readEdge_12 (v1 : Int32) : ((MH) ⊕ (Int32 × MH) ⊕ (MH) ⊕ (MH) ⊕ (Int32 × MH)) → MC := (cS (fun r : MH => ((some 127, [some (.ref 124), none, none, none], [], r) : MC)) (cS (fun r : Int32 × MH => ((some 54, [some (.ref 124), none, none, some (.int r.1)], [], r.2) : MC)) (cS (fun r : MH => ((some 73, [some (.ref 124), none, none, none], [], r) : MC)) (cS (fun r : MH => ((some 105, [some (.ref 124), none, none, none], [], r) : MC)) (fun r : Int32 × MH => ((none, [], [.int r.1], r.2) : MC))))))
def ListReader_readEdge_l12 (v1 : Int32) (v2 : Int32) (σ : MH) : Option (((Int32 × MH) ⊕ ((MH) ⊕ (Int32 × MH) ⊕ (MH) ⊕ (MH) ⊕ (Int32 × MH)))) := if v1 ≤ v2 then some (.inr (.inl (σ))) else ((ListReader_readHeight σ).bind fun (x4, σ5) => if x4 = (0 : Int32) then some (.inr (.inr (.inr (.inr (.inr ((0 : Int32), σ5)))))) else ((ListReader_readTimes (56 : Int32) σ5).bind fun (x7, σ8) => if x7 = (0 : Int32) then some (.inr (.inr (.inr (.inr (.inr ((0 : Int32), σ8)))))) else (if (σ8.1 124 5) + (σ8.1 124 7) ≤ (8 : Int32) then ((ListReader_put σ8).bind fun σ11 => (Reader_isEnd_2 σ11).bind fun x13 => if x13 = (0 : Int32) then ((Reader_sign_2 σ11).bind fun x16 => if x16 = (44 : Int32) then some (.inl (v2 + (1 : Int32), sI σ11 124 2 ((σ11.1 124 2) + (1 : Int32)))) else some (.inr (.inr (.inr (.inr (.inl (σ11))))))) else some (.inr (.inr (.inr (.inl (σ11)))))) else some (.inr (.inr (.inl (σ.1 124 2, σ8)))))))
set_option maxRecDepth 20000 in
set_option maxHeartbeats 2000000 in
theorem t_ListReader_readEdge_l12 (v1 : Int32) (v2 : Int32)  (σ : MH) {o} (h : ListReader_readEdge_l12 v1 v2 σ = some o) : Go m_ListReader_readEdge 4 (cH_ListReader_readEdge_12 v1 (v2, σ)) (cS (cH_ListReader_readEdge_12 v1) (cR_ListReader_readEdge_12 v1) o) := by
  unfold ListReader_readEdge_l12 at h
  unfold cH_ListReader_readEdge_12
  refine Go.t (Go_sg bk_ListReader_readEdge 8 2 (c2 := (some 14, [some (.ref 124), some (.int v1), some (.int v2), none], [.int v1, .int v2], σ)) (ps := []) rfl trivial) ?_
  refine Go_icmp_ge bk_ListReader_readEdge 10 rfl (fun c24 => ?_) (fun c24 => ?_)
  · have h := ifT c24 h
    have h := Option.some.inj h
    subst h
    exact Go.fg (LSub.cs (LSub.cn (LSub.cn (LSub.cn (LSub.nil)))))
  · have h := ifF c24 h
    refine Go.t (Go_sg bk_ListReader_readEdge 11 4 (c2 := (some 23, [some (.ref 124), some (.int v1), some (.int v2), some (.int (σ.1 124 2))], [.ref 124], σ)) (ps := [shk 124 = 6]) rfl ⟨rfl, trivial⟩) ?_
    obtain ⟨⟨x4, σ5⟩, q6, h⟩ := bdS h
    dsimp only at h
    refine Go.t (Go_callV bk_ListReader_readEdge 15 rfl nk_ListReader_readHeight tw798 tw800 tw12 (ci := 6) rfl (as := []) (S := []) rfl rfl rfl rfl (Nat.le_of_ble_eq_true rfl) (Nat.le_of_ble_eq_true rfl) (ev_ListReader_readHeight _ q6)) ?_
    refine Go_if_eq bk_ListReader_readEdge 16 rfl (fun c23 => ?_) (fun c23 => ?_)
    · have h := ifT c23 h
      have h := Option.some.inj h
      subst h
      refine Go.t (Go_sg bk_ListReader_readEdge 21 1 (c2 := (some 39, [some (.ref 124), some (.int v1), some (.int v2), some (.int (σ.1 124 2))], [.int (0 : Int32)], σ5)) (ps := []) rfl trivial) ?_
      exact Go_reti bk_ListReader_readEdge 22 rfl
    · have h := ifF c23 h
      refine Go.t (Go_sg bk_ListReader_readEdge 17 2 (c2 := (some 32, [some (.ref 124), some (.int v1), some (.int v2), some (.int (σ.1 124 2))], [.int (56 : Int32), .ref 124], σ5)) (ps := []) rfl trivial) ?_
      obtain ⟨⟨x7, σ8⟩, q9, h⟩ := bdS h
      dsimp only at h
      refine Go.t (Go_callV bk_ListReader_readEdge 19 rfl nk_ListReader_readTimes tw808 tw810 tw13 (ci := 6) rfl (as := [.int (56 : Int32)]) (S := []) rfl rfl rfl rfl (Nat.le_of_ble_eq_true rfl) (Nat.le_of_ble_eq_true rfl) (ev_ListReader_readTimes _ _ q9)) ?_
      refine Go_if_ne bk_ListReader_readEdge 20 rfl (fun c22 => ?_) (fun c22 => ?_)
      · have h := ifF c22 h
        refine Go.t (Go_sg bk_ListReader_readEdge 23 6 (c2 := (some 51, [some (.ref 124), some (.int v1), some (.int v2), some (.int (σ.1 124 2))], [.int (8 : Int32), .int ((σ8.1 124 5) + (σ8.1 124 7))], σ8)) (ps := [shk 124 = 6, shk 124 = 6]) rfl ⟨rfl, rfl, trivial⟩) ?_
        refine Go_icmp_le bk_ListReader_readEdge 29 rfl (fun c21 => ?_) (fun c21 => ?_)
        · have h := ifT c21 h
          refine Go.t (Go_sg bk_ListReader_readEdge 35 1 (c2 := (some 63, [some (.ref 124), some (.int v1), some (.int v2), some (.int (σ.1 124 2))], [.ref 124], σ8)) (ps := []) rfl trivial) ?_
          obtain ⟨σ11, q12, h⟩ := bdS h
          refine Go.t (Go_callV bk_ListReader_readEdge 36 rfl nk_ListReader_put tw816 tw818 tw14 (ci := 6) rfl (as := []) (S := []) rfl rfl rfl rfl (Nat.le_of_ble_eq_true rfl) (Nat.le_of_ble_eq_true rfl) (ev_ListReader_put _ q12)) ?_
          refine Go.t (Go_sg bk_ListReader_readEdge 37 1 (c2 := (some 67, [some (.ref 124), some (.int v1), some (.int v2), some (.int (σ.1 124 2))], [.ref 124], σ11)) (ps := []) rfl trivial) ?_
          obtain ⟨x13, q15, h⟩ := bdS h
          refine Go.t (Go_callU bk_ListReader_readEdge 38 rfl nk_Reader_isEnd_2 (xc := "PuzzleWed$ListReader") tw820 tw821 tw623 (C := RX6) tw822 (ci := 6) rfl (as := []) (S := []) rfl rfl rfl rfl (Nat.le_of_ble_eq_true rfl) (Nat.le_of_ble_eq_true rfl) (ev_Reader_isEnd_2 _ q15)) ?_
          refine Go_if_eq bk_ListReader_readEdge 39 rfl (fun c20 => ?_) (fun c20 => ?_)
          · have h := ifT c20 h
            refine Go.t (Go_sg bk_ListReader_readEdge 52 1 (c2 := (some 97, [some (.ref 124), some (.int v1), some (.int v2), some (.int (σ.1 124 2))], [.ref 124], σ11)) (ps := []) rfl trivial) ?_
            obtain ⟨x16, q18, h⟩ := bdS h
            refine Go.t (Go_callU bk_ListReader_readEdge 53 rfl nk_Reader_sign_2 (xc := "PuzzleWed$ListReader") tw802 tw803 tw630 (C := RX6) tw804 (ci := 6) rfl (as := []) (S := []) rfl rfl rfl rfl (Nat.le_of_ble_eq_true rfl) (Nat.le_of_ble_eq_true rfl) (ev_Reader_sign_2 _ q18)) ?_
            refine Go.t (Go_sg bk_ListReader_readEdge 54 1 (c2 := (some 102, [some (.ref 124), some (.int v1), some (.int v2), some (.int (σ.1 124 2))], [.int (44 : Int32), .int x16], σ11)) (ps := []) rfl trivial) ?_
            refine Go_icmp_eq bk_ListReader_readEdge 55 rfl (fun c19 => ?_) (fun c19 => ?_)
            · have h := ifT c19 h
              refine Go.t (Go_sg bk_ListReader_readEdge 60 8 (c2 := (some 12, [some (.ref 124), some (.int v1), some (.int (v2 + (1 : Int32))), some (.int (σ.1 124 2))], [], sI σ11 124 2 ((σ11.1 124 2) + (1 : Int32)))) (ps := [shk 124 = 6, shk 124 = 6]) rfl ⟨rfl, rfl, trivial⟩) ?_
              have h := Option.some.inj h
              subst h
              exact Go.fg (LSub.cs (LSub.cs (LSub.cs (LSub.cn (LSub.nil)))))
            · have h := ifF c19 h
              have h := Option.some.inj h
              subst h
              exact Go.fg (LSub.cs (LSub.cn (LSub.cn (LSub.cn (LSub.nil)))))
          · have h := ifF c20 h
            have h := Option.some.inj h
            subst h
            exact Go.fg (LSub.cs (LSub.cn (LSub.cn (LSub.cn (LSub.nil)))))
        · have h := ifF c21 h
          have h := Option.some.inj h
          subst h
          exact Go.fg (LSub.cs (LSub.cn (LSub.cn (LSub.cs (LSub.nil)))))
      · have h := ifT c22 h
        have h := Option.some.inj h
        subst h
        refine Go.t (Go_sg bk_ListReader_readEdge 21 1 (c2 := (some 39, [some (.ref 124), some (.int v1), some (.int v2), some (.int (σ.1 124 2))], [.int (0 : Int32)], σ8)) (ps := []) rfl trivial) ?_
        exact Go_reti bk_ListReader_readEdge 22 rfl
def ListReader_readEdge_L12 (v1 : Int32) (s : Int32 × MH) : Option ((MH) ⊕ (Int32 × MH) ⊕ (MH) ⊕ (MH) ⊕ (Int32 × MH)) := itr (fun s : Int32 × MH => ListReader_readEdge_l12 v1 s.1 s.2) FU s
set_option maxRecDepth 20000 in
set_option maxHeartbeats 2000000 in
theorem t_ListReader_readEdge_L12 (v1 : Int32)  (s : Int32 × MH) {r} (h : ListReader_readEdge_L12 v1 s = some r) : Go m_ListReader_readEdge 4 (cH_ListReader_readEdge_12 v1 s) (cR_ListReader_readEdge_12 v1 r) := Go_itr (fun s o ho => t_ListReader_readEdge_l12 v1 s.1 s.2 ho) FU s r h
def ListReader_readEdge_b90  (σ : MH) : Option (Int32 × MH) := some ((1 : Int32), σ)
set_option maxRecDepth 20000 in
set_option maxHeartbeats 2000000 in
theorem t_ListReader_readEdge_b90    (σ : MH) {o} (h : ListReader_readEdge_b90 σ = some o) : Go m_ListReader_readEdge 4 (some 90, [none, none, none, none], [], σ) ((none, [], [.int o.1], o.2)) := by
  unfold ListReader_readEdge_b90 at h
  refine Go.t (Go_sg bk_ListReader_readEdge 48 2 (c2 := (some 95, [none, none, none, none], [.int (1 : Int32)], σ)) (ps := []) rfl trivial) ?_
  have h := Option.some.inj h
  subst h
  exact Go_reti bk_ListReader_readEdge 51 rfl
def ListReader_readEdge0 (v1 : Int32) (σ : MH) : Option (Int32 × MH) := (Reader_begin_2 v1 σ).bind fun σ2 => (ListReader_readEdge_L12 v1 ((0 : Int32), sI σ2 124 5 (0 : Int32))).bind fun z25 => (match z25 with | .inl z25a => (Reader_fail_2 (1 : Int32) z25a).bind fun (x27, σ28) => some (x27, σ28) | .inr z25r => (match z25r with | .inl z25b => (Reader_failAt_2 (6 : Int32) z25b.1 z25b.2).bind fun (x30, σ31) => some (x30, σ31) | .inr z25rr => (match z25rr with | .inl z25c => if z25c.1 124 5 = (8 : Int32) then (ListReader_readEdge_b90 z25c) else ((Reader_fail_2 (1 : Int32) z25c).bind fun (x33, σ34) => if x33 = (0 : Int32) then some ((0 : Int32), σ34) else (ListReader_readEdge_b90 σ34)) | .inr z25rrr => (match z25rrr with | .inl z25d => (Reader_fail_2 (1 : Int32) z25d).bind fun (x38, σ39) => some (x38, σ39) | .inr z25e => some (z25e.1, z25e.2)))))
set_option maxRecDepth 20000 in
set_option maxHeartbeats 2000000 in
theorem t_ListReader_readEdge0 (v1 : Int32)  (σ : MH) {o} (h : ListReader_readEdge0 v1 σ = some o) : Go m_ListReader_readEdge 4 (some 0, [some (.ref 124), some (.int v1), none, none], [], σ) ((none, [], [.int o.1], o.2)) := by
  unfold ListReader_readEdge0 at h
  refine Go.t (Go_sg bk_ListReader_readEdge 0 2 (c2 := (some 2, [some (.ref 124), some (.int v1), none, none], [.int v1, .ref 124], σ)) (ps := []) rfl trivial) ?_
  obtain ⟨σ2, q3, h⟩ := bdS h
  refine Go.t (Go_callU bk_ListReader_readEdge 2 rfl nk_Reader_begin_2 (xc := "PuzzleWed$ListReader") tw795 tw796 tw613 (C := RX6) tw797 (ci := 6) rfl (as := [.int v1]) (S := []) rfl rfl rfl rfl (Nat.le_of_ble_eq_true rfl) (Nat.le_of_ble_eq_true rfl) (ev_Reader_begin_2 _ _ q3)) ?_
  refine Go.t (Go_sg bk_ListReader_readEdge 3 5 (c2 := (some 12, [some (.ref 124), some (.int v1), some (.int (0 : Int32)), none], [], sI σ2 124 5 (0 : Int32))) (ps := [shk 124 = 6]) rfl ⟨rfl, trivial⟩) ?_
  obtain ⟨z25, q26, h⟩ := bdS h
  refine Go.t (Go.t (Go.fg (LSub.cs (LSub.cs (LSub.cs (LSub.cn (LSub.nil)))))) (t_ListReader_readEdge_L12 v1 _ q26)) ?_
  rcases z25 with z25a | z25r
  · dsimp only at h
    refine Go.t (Go_sg bk_ListReader_readEdge 68 2 (c2 := (some 129, [some (.ref 124), none, none, none], [.int (1 : Int32), .ref 124], z25a)) (ps := []) rfl trivial) ?_
    obtain ⟨⟨x27, σ28⟩, q29, h⟩ := bdS h
    dsimp only at h
    refine Go.t (Go_callU bk_ListReader_readEdge 70 rfl nk_Reader_fail_2 (xc := "PuzzleWed$ListReader") tw805 tw806 tw722 (C := RX6) tw807 (ci := 6) rfl (as := [.int (1 : Int32)]) (S := []) rfl rfl rfl rfl (Nat.le_of_ble_eq_true rfl) (Nat.le_of_ble_eq_true rfl) (ev_Reader_fail_2 _ _ q29)) ?_
    have h := Option.some.inj h
    subst h
    exact Go_reti bk_ListReader_readEdge 71 rfl
  · dsimp only at h
    rcases z25r with z25b | z25rr
    · dsimp only at h
      refine Go.t (Go_sg bk_ListReader_readEdge 30 3 (c2 := (some 58, [some (.ref 124), none, none, some (.int z25b.1)], [.int z25b.1, .int (6 : Int32), .ref 124], z25b.2)) (ps := []) rfl trivial) ?_
      obtain ⟨⟨x30, σ31⟩, q32, h⟩ := bdS h
      dsimp only at h
      refine Go.t (Go_callU bk_ListReader_readEdge 33 rfl nk_Reader_failAt_2 (xc := "PuzzleWed$ListReader") tw812 tw813 tw725 (C := RX6) tw815 (ci := 6) rfl (as := [.int (6 : Int32), .int z25b.1]) (S := []) rfl rfl rfl rfl (Nat.le_of_ble_eq_true rfl) (Nat.le_of_ble_eq_true rfl) (ev_Reader_failAt_2 _ _ _ q32)) ?_
      have h := Option.some.inj h
      subst h
      exact Go_reti bk_ListReader_readEdge 34 rfl
    · dsimp only at h
      rcases z25rr with z25c | z25rrr
      · dsimp only at h
        refine Go.t (Go_sg bk_ListReader_readEdge 40 3 (c2 := (some 79, [some (.ref 124), none, none, none], [.int (8 : Int32), .int (z25c.1 124 5)], z25c)) (ps := [shk 124 = 6]) rfl ⟨rfl, trivial⟩) ?_
        refine Go_icmp_eq bk_ListReader_readEdge 43 rfl (fun c37 => ?_) (fun c37 => ?_)
        · have h := ifT c37 h
          exact Go.t (Go.fg (LSub.cn (LSub.cn (LSub.cn (LSub.cn (LSub.nil)))))) (t_ListReader_readEdge_b90 z25c h)
        · have h := ifF c37 h
          refine Go.t (Go_sg bk_ListReader_readEdge 44 2 (c2 := (some 84, [some (.ref 124), none, none, none], [.int (1 : Int32), .ref 124], z25c)) (ps := []) rfl trivial) ?_
          obtain ⟨⟨x33, σ34⟩, q35, h⟩ := bdS h
          dsimp only at h
          refine Go.t (Go_callU bk_ListReader_readEdge 46 rfl nk_Reader_fail_2 (xc := "PuzzleWed$ListReader") tw805 tw806 tw722 (C := RX6) tw807 (ci := 6) rfl (as := [.int (1 : Int32)]) (S := []) rfl rfl rfl rfl (Nat.le_of_ble_eq_true rfl) (Nat.le_of_ble_eq_true rfl) (ev_Reader_fail_2 _ _ q35)) ?_
          refine Go_if_eq bk_ListReader_readEdge 47 rfl (fun c36 => ?_) (fun c36 => ?_)
          · have h := ifT c36 h
            have h := Option.some.inj h
            subst h
            refine Go.t (Go_sg bk_ListReader_readEdge 50 1 (c2 := (some 95, [some (.ref 124), none, none, none], [.int (0 : Int32)], σ34)) (ps := []) rfl trivial) ?_
            exact Go_reti bk_ListReader_readEdge 51 rfl
          · have h := ifF c36 h
            exact Go.t (Go.fg (LSub.cn (LSub.cn (LSub.cn (LSub.cn (LSub.nil)))))) (t_ListReader_readEdge_b90 σ34 h)
      · dsimp only at h
        rcases z25rrr with z25d | z25e
        · dsimp only at h
          refine Go.t (Go_sg bk_ListReader_readEdge 56 2 (c2 := (some 107, [some (.ref 124), none, none, none], [.int (1 : Int32), .ref 124], z25d)) (ps := []) rfl trivial) ?_
          obtain ⟨⟨x38, σ39⟩, q40, h⟩ := bdS h
          dsimp only at h
          refine Go.t (Go_callU bk_ListReader_readEdge 58 rfl nk_Reader_fail_2 (xc := "PuzzleWed$ListReader") tw805 tw806 tw722 (C := RX6) tw807 (ci := 6) rfl (as := [.int (1 : Int32)]) (S := []) rfl rfl rfl rfl (Nat.le_of_ble_eq_true rfl) (Nat.le_of_ble_eq_true rfl) (ev_Reader_fail_2 _ _ q40)) ?_
          have h := Option.some.inj h
          subst h
          exact Go_reti bk_ListReader_readEdge 59 rfl
        · dsimp only at h
          have h := Option.some.inj h
          subst h
          exact Go.rf
def ListReader_readEdge (v1 : Int32) (σ : MH) : Option (Int32 × MH) := bzo (ListReader_readEdge0 v1 σ)
set_option maxRecDepth 20000 in
set_option maxHeartbeats 2000000 in
theorem ev_ListReader_readEdge (v1 : Int32)  (σ : MH) {o} (h : ListReader_readEdge v1 σ = some o) : Ev m_ListReader_readEdge 4 [.ref 124, .int v1] σ (some (.int o.1)) o.2 := Ev.of2 (by decide +kernel) rfl (Nat.le_of_ble_eq_true rfl) ⟨.boolean, rfl, nrB (bzo2 h)⟩ (t_ListReader_readEdge0 v1 σ (bzo1 h))
def cH_Pz_edge_66 (v1 : Int32) (s : Int32 × Int32 × MH) : MC := (some 66, [some (.ref 0), some (.int v1), none, none, some (.int s.1), some (.int s.2.1)], [], s.2.2)
def cR_Pz_edge_66 (v1 : Int32) : ((Int32 × MH)) → MC := (fun r : Int32 × MH => ((none, [], [.int r.1], r.2) : MC))
def Pz_edge_l66 (v1 : Int32) (v4 : Int32) (v5 : Int32) (σ : MH) : Option (((Int32 × Int32 × MH) ⊕ ((Int32 × MH)))) := if (8 : Int32) ≤ v5 then some (.inr (v4, σ)) else (if inb v1 12 = true then if inb v5 144 = true then if inb v5 8 = true then some (.inl (v4 + (jabs ((sI σ (rfv 9 v1.toNatClampNeg) v5.toNatClampNeg (σ.1 125 v5.toNatClampNeg)).1 125 v5.toNatClampNeg)), v5 + (1 : Int32), sI σ (rfv 9 v1.toNatClampNeg) v5.toNatClampNeg (σ.1 125 v5.toNatClampNeg))) else none else none else none)
set_option maxRecDepth 20000 in
set_option maxHeartbeats 2000000 in
theorem t_Pz_edge_l66 (v1 : Int32) (v4 : Int32) (v5 : Int32)  (σ : MH) {o} (h : Pz_edge_l66 v1 v4 v5 σ = some o) : Go m_Pz_edge 5 (cH_Pz_edge_66 v1 (v4, v5, σ)) (cS (cH_Pz_edge_66 v1) (cR_Pz_edge_66 v1) o) := by
  unfold Pz_edge_l66 at h
  unfold cH_Pz_edge_66
  refine Go.t (Go_sg bk_Pz_edge 35 2 (c2 := (some 70, [some (.ref 0), some (.int v1), none, none, some (.int v4), some (.int v5)], [.int (8 : Int32), .int v5], σ)) (ps := []) rfl trivial) ?_
  refine Go_icmp_ge bk_Pz_edge 37 rfl (fun c10 => ?_) (fun c10 => ?_)
  · have h := ifT c10 h
    have h := Option.some.inj h
    subst h
    refine Go.t (Go_sg bk_Pz_edge 61 1 (c2 := (some 121, [some (.ref 0), some (.int v1), none, none, some (.int v4), some (.int v5)], [.int v4], σ)) (ps := []) rfl trivial) ?_
    exact Go_reti bk_Pz_edge 62 rfl
  · have h := ifF c10 h
    obtain ⟨g7, h⟩ := gdS h
    obtain ⟨g8, h⟩ := gdS h
    obtain ⟨g9, h⟩ := gdS h
    refine Go.t (Go_sg bk_Pz_edge 38 18 (c2 := (some 107, [some (.ref 0), some (.int v1), none, none, some (.int v4), some (.int v5)], [.int ((sI σ (rfv 9 v1.toNatClampNeg) v5.toNatClampNeg (σ.1 125 v5.toNatClampNeg)).1 125 v5.toNatClampNeg), .int v4], sI σ (rfv 9 v1.toNatClampNeg) v5.toNatClampNeg (σ.1 125 v5.toNatClampNeg))) (ps := [shk 0 = 10, shk 1 = 3, IR 9 12 ∧ inb v1 12 = true, shk 0 = 10, shk 124 = 6, IA 125 144 ∧ inb v5 144 = true, IA (rfv 9 v1.toNatClampNeg) 8 ∧ inb v5 8 = true, shk 0 = 10, shk 124 = 6, IA 125 144 ∧ inb v5 144 = true]) rfl ⟨rfl, rfl, ⟨⟨rfl, rfl⟩, g7⟩, rfl, rfl, ⟨⟨rfl, rfl⟩, g8⟩, ⟨(rw_9 g7), g9⟩, rfl, rfl, ⟨⟨rfl, rfl⟩, g8⟩, trivial⟩) ?_
    refine Go.t (Go_mabs bk_Pz_edge 56 rfl tw823 (Nat.le_of_ble_eq_true rfl) (Nat.le_of_ble_eq_true rfl)) ?_
    refine Go.t (Go_sg bk_Pz_edge 57 4 (c2 := (some 66, [some (.ref 0), some (.int v1), none, none, some (.int (v4 + (jabs ((sI σ (rfv 9 v1.toNatClampNeg) v5.toNatClampNeg (σ.1 125 v5.toNatClampNeg)).1 125 v5.toNatClampNeg)))), some (.int (v5 + (1 : Int32)))], [], sI σ (rfv 9 v1.toNatClampNeg) v5.toNatClampNeg (σ.1 125 v5.toNatClampNeg))) (ps := []) rfl trivial) ?_
    have h := Option.some.inj h
    subst h
    exact Go.fg (LSub.cs (LSub.cs (LSub.cn (LSub.cn (LSub.cs (LSub.cs (LSub.nil)))))))
def Pz_edge_L66 (v1 : Int32) (s : Int32 × Int32 × MH) : Option ((Int32 × MH)) := itr (fun s : Int32 × Int32 × MH => Pz_edge_l66 v1 s.1 s.2.1 s.2.2) FU s
set_option maxRecDepth 20000 in
set_option maxHeartbeats 2000000 in
theorem t_Pz_edge_L66 (v1 : Int32)  (s : Int32 × Int32 × MH) {r} (h : Pz_edge_L66 v1 s = some r) : Go m_Pz_edge 5 (cH_Pz_edge_66 v1 s) (cR_Pz_edge_66 v1 r) := Go_itr (fun s o ho => t_Pz_edge_l66 v1 s.1 s.2.1 s.2.2 ho) FU s r h
def Pz_edge0 (v1 : Int32) (v2 : Int32) (σ : MH) : Option (Int32 × MH) := (Pz_isNumber v1 σ).bind fun x1 => if x1 = (0 : Int32) then some ((-1 : Int32), σ) else (if v2 < (1 : Int32) then some ((-1 : Int32), σ) else (if (40 : Int32) < v2 then some ((-1 : Int32), σ) else (if v2 ≤ σ.1 109 1 then ((ListReader_readEdge v2 σ).bind fun (x4, σ5) => if x4 = (0 : Int32) then some ((sI σ5 109 1 (0 : Int32)).1 124 3, sI σ5 109 1 (0 : Int32)) else ((Pz_edge_L66 v1 ((0 : Int32), (0 : Int32), sI σ5 109 1 (0 : Int32))).bind fun z11 => some (z11.1, z11.2))) else some ((-1 : Int32), σ))))
set_option maxRecDepth 20000 in
set_option maxHeartbeats 2000000 in
theorem t_Pz_edge0 (v1 : Int32) (v2 : Int32)  (σ : MH) {o} (h : Pz_edge0 v1 v2 σ = some o) : Go m_Pz_edge 5 (some 0, [some (.ref 0), some (.int v1), some (.int v2), none, none, none], [], σ) ((none, [], [.int o.1], o.2)) := by
  unfold Pz_edge0 at h
  refine Go.t (Go_sg bk_Pz_edge 0 1 (c2 := (some 1, [some (.ref 0), some (.int v1), some (.int v2), none, none, none], [.int v1], σ)) (ps := []) rfl trivial) ?_
  obtain ⟨x1, q3, h⟩ := bdS h
  refine Go.t (Go_callS bk_Pz_edge 1 rfl nk_Pz_isNumber tw552 tw553 (as := [.int v1]) (S := []) rfl rfl rfl (Nat.le_of_ble_eq_true rfl) (Nat.le_of_ble_eq_true rfl) (ev_Pz_isNumber _ _ q3)) ?_
  refine Go_if_eq bk_Pz_edge 2 rfl (fun c17 => ?_) (fun c17 => ?_)
  · have h := ifT c17 h
    have h := Option.some.inj h
    subst h
    refine Go.t (Go_sg bk_Pz_edge 14 1 (c2 := (some 30, [some (.ref 0), some (.int v1), some (.int v2), none, none, none], [.int (-1 : Int32)], σ)) (ps := []) rfl trivial) ?_
    exact Go_reti bk_Pz_edge 15 rfl
  · have h := ifF c17 h
    refine Go.t (Go_sg bk_Pz_edge 3 2 (c2 := (some 9, [some (.ref 0), some (.int v1), some (.int v2), none, none, none], [.int (1 : Int32), .int v2], σ)) (ps := []) rfl trivial) ?_
    refine Go_icmp_lt bk_Pz_edge 5 rfl (fun c16 => ?_) (fun c16 => ?_)
    · have h := ifT c16 h
      have h := Option.some.inj h
      subst h
      refine Go.t (Go_sg bk_Pz_edge 14 1 (c2 := (some 30, [some (.ref 0), some (.int v1), some (.int v2), none, none, none], [.int (-1 : Int32)], σ)) (ps := []) rfl trivial) ?_
      exact Go_reti bk_Pz_edge 15 rfl
    · have h := ifF c16 h
      refine Go.t (Go_sg bk_Pz_edge 6 2 (c2 := (some 15, [some (.ref 0), some (.int v1), some (.int v2), none, none, none], [.int (40 : Int32), .int v2], σ)) (ps := []) rfl trivial) ?_
      refine Go_icmp_gt bk_Pz_edge 8 rfl (fun c15 => ?_) (fun c15 => ?_)
      · have h := ifT c15 h
        have h := Option.some.inj h
        subst h
        refine Go.t (Go_sg bk_Pz_edge 14 1 (c2 := (some 30, [some (.ref 0), some (.int v1), some (.int v2), none, none, none], [.int (-1 : Int32)], σ)) (ps := []) rfl trivial) ?_
        exact Go_reti bk_Pz_edge 15 rfl
      · have h := ifF c15 h
        refine Go.t (Go_sg bk_Pz_edge 9 4 (c2 := (some 26, [some (.ref 0), some (.int v1), some (.int v2), none, none, none], [.int (σ.1 109 1), .int v2], σ)) (ps := [shk 0 = 10, shk 109 = 9]) rfl ⟨rfl, rfl, trivial⟩) ?_
        refine Go_icmp_le bk_Pz_edge 13 rfl (fun c14 => ?_) (fun c14 => ?_)
        · have h := ifT c14 h
          refine Go.t (Go_sg bk_Pz_edge 16 3 (c2 := (some 36, [some (.ref 0), some (.int v1), some (.int v2), none, none, none], [.int v2, .ref 124], σ)) (ps := [shk 0 = 10]) rfl ⟨rfl, trivial⟩) ?_
          obtain ⟨⟨x4, σ5⟩, q6, h⟩ := bdS h
          dsimp only at h
          refine Go.t (Go_callV bk_Pz_edge 19 rfl nk_ListReader_readEdge tw791 tw792 tw793 (ci := 6) rfl (as := [.int v2]) (S := []) rfl rfl rfl rfl (Nat.le_of_ble_eq_true rfl) (Nat.le_of_ble_eq_true rfl) (ev_ListReader_readEdge _ _ q6)) ?_
          refine Go.t (Go_sg bk_Pz_edge 20 6 (c2 := (some 49, [some (.ref 0), some (.int v1), some (.int v2), some (.int x4), none, none], [.int x4], sI σ5 109 1 (0 : Int32))) (ps := [shk 0 = 10, shk 109 = 9]) rfl ⟨rfl, rfl, trivial⟩) ?_
          refine Go_if_ne bk_Pz_edge 26 rfl (fun c13 => ?_) (fun c13 => ?_)
          · have h := ifF c13 h
            refine Go.t (Go_sg bk_Pz_edge 31 4 (c2 := (some 66, [some (.ref 0), some (.int v1), some (.int v2), some (.int x4), some (.int (0 : Int32)), some (.int (0 : Int32))], [], sI σ5 109 1 (0 : Int32))) (ps := []) rfl trivial) ?_
            obtain ⟨z11, q12, h⟩ := bdS h
            refine Go.t (Go.t (Go.fg (LSub.cs (LSub.cs (LSub.cn (LSub.cn (LSub.cs (LSub.cs (LSub.nil)))))))) (t_Pz_edge_L66 v1 _ q12)) ?_
            have h := Option.some.inj h
            subst h
            exact Go.rf
          · have h := ifT c13 h
            have h := Option.some.inj h
            subst h
            refine Go.t (Go_sg bk_Pz_edge 27 3 (c2 := (some 59, [some (.ref 0), some (.int v1), some (.int v2), some (.int x4), none, none], [.int ((sI σ5 109 1 (0 : Int32)).1 124 3)], sI σ5 109 1 (0 : Int32))) (ps := [shk 0 = 10, shk 124 = 6]) rfl ⟨rfl, rfl, trivial⟩) ?_
            exact Go_reti bk_Pz_edge 30 rfl
        · have h := ifF c14 h
          have h := Option.some.inj h
          subst h
          refine Go.t (Go_sg bk_Pz_edge 14 1 (c2 := (some 30, [some (.ref 0), some (.int v1), some (.int v2), none, none, none], [.int (-1 : Int32)], σ)) (ps := []) rfl trivial) ?_
          exact Go_reti bk_Pz_edge 15 rfl
def Pz_edge (v1 : Int32) (v2 : Int32) (σ : MH) : Option (Int32 × MH) := Pz_edge0 v1 v2 σ
set_option maxRecDepth 20000 in
set_option maxHeartbeats 2000000 in
theorem ev_Pz_edge (v1 : Int32) (v2 : Int32)  (σ : MH) {o} (h : Pz_edge v1 v2 σ = some o) : Ev m_Pz_edge 5 [.ref 0, .int v1, .int v2] σ (some (.int o.1)) o.2 := Ev.of2 (by decide +kernel) rfl (Nat.le_of_ble_eq_true rfl) ⟨.int, rfl, rfl⟩ (t_Pz_edge0 v1 v2 σ h)
def cH_ListReader_readWay_12  (s : Int32 × MH) : MC := (some 12, [some (.ref 124), none, some (.int s.1), none], [], s.2)
def cR_ListReader_readWay_12  : ((MH) ⊕ (MH) ⊕ (MH) ⊕ (MH) ⊕ (MH) ⊕ (Int32 × MH)) → MC := (cS (fun r : MH => ((some 138, [some (.ref 124), none, none, none], [], r) : MC)) (cS (fun r : MH => ((some 35, [some (.ref 124), none, none, none], [], r) : MC)) (cS (fun r : MH => ((some 47, [some (.ref 124), none, none, none], [], r) : MC)) (cS (fun r : MH => ((some 59, [some (.ref 124), none, none, none], [], r) : MC)) (cS (fun r : MH => ((some 116, [some (.ref 124), none, none, none], [], r) : MC)) (fun r : Int32 × MH => ((none, [], [.int r.1], r.2) : MC)))))))
def ListReader_readWay_l12 (v2 : Int32) (σ : MH) : Option (((Int32 × MH) ⊕ ((MH) ⊕ (MH) ⊕ (MH) ⊕ (MH) ⊕ (MH) ⊕ (Int32 × MH)))) := if (16 : Int32) < v2 then some (.inr (.inl (σ))) else ((Reader_sign_2 σ).bind fun x4 => if x4 < (48 : Int32) then some (.inr (.inr (.inl (σ)))) else (if x4 ≤ (57 : Int32) then (if v2 = (16 : Int32) then some (.inr (.inr (.inr (.inl (σ))))) else (if x4 ≤ (53 : Int32) then ((ListReader_readTimes (57 : Int32) (sI (sI σ 124 6 (x4 - (48 : Int32))) 124 2 (((sI σ 124 6 (x4 - (48 : Int32))).1 124 2) + (1 : Int32)))).bind fun (x7, σ8) => if x7 = (0 : Int32) then some (.inr (.inr (.inr (.inr (.inr (.inr ((0 : Int32), σ8))))))) else ((ListReader_put σ8).bind fun σ11 => (Reader_isEnd_2 σ11).bind fun x13 => if x13 = (0 : Int32) then ((Reader_sign_2 σ11).bind fun x16 => if x16 = (44 : Int32) then some (.inl (v2 + (1 : Int32), sI σ11 124 2 ((σ11.1 124 2) + (1 : Int32)))) else some (.inr (.inr (.inr (.inr (.inr (.inl (σ11)))))))) else some (.inr (.inr (.inr (.inr (.inr (.inr ((1 : Int32), σ11))))))))) else some (.inr (.inr (.inr (.inr (.inl (σ)))))))) else some (.inr (.inr (.inl (σ))))))
set_option maxRecDepth 20000 in
set_option maxHeartbeats 2000000 in
theorem t_ListReader_readWay_l12 (v2 : Int32)  (σ : MH) {o} (h : ListReader_readWay_l12 v2 σ = some o) : Go m_ListReader_readWay 4 (cH_ListReader_readWay_12  (v2, σ)) (cS (cH_ListReader_readWay_12 ) (cR_ListReader_readWay_12 ) o) := by
  unfold ListReader_readWay_l12 at h
  unfold cH_ListReader_readWay_12
  refine Go.t (Go_sg bk_ListReader_readWay 8 2 (c2 := (some 15, [some (.ref 124), none, some (.int v2), none], [.int (16 : Int32), .int v2], σ)) (ps := []) rfl trivial) ?_
  refine Go_icmp_gt bk_ListReader_readWay 10 rfl (fun c26 => ?_) (fun c26 => ?_)
  · have h := ifT c26 h
    have h := Option.some.inj h
    subst h
    exact Go.fg (LSub.cs (LSub.cn (LSub.cn (LSub.cn (LSub.nil)))))
  · have h := ifF c26 h
    refine Go.t (Go_sg bk_ListReader_readWay 11 1 (c2 := (some 19, [some (.ref 124), none, some (.int v2), none], [.ref 124], σ)) (ps := []) rfl trivial) ?_
    obtain ⟨x4, q6, h⟩ := bdS h
    refine Go.t (Go_callU bk_ListReader_readWay 12 rfl nk_Reader_sign_2 (xc := "PuzzleWed$ListReader") tw802 tw803 tw630 (C := RX6) tw804 (ci := 6) rfl (as := []) (S := []) rfl rfl rfl rfl (Nat.le_of_ble_eq_true rfl) (Nat.le_of_ble_eq_true rfl) (ev_Reader_sign_2 _ q6)) ?_
    refine Go.t (Go_sg bk_ListReader_readWay 13 3 (c2 := (some 26, [some (.ref 124), none, some (.int v2), some (.int x4)], [.int (48 : Int32), .int x4], σ)) (ps := []) rfl trivial) ?_
    refine Go_icmp_lt bk_ListReader_readWay 16 rfl (fun c25 => ?_) (fun c25 => ?_)
    · have h := ifT c25 h
      have h := Option.some.inj h
      subst h
      exact Go.fg (LSub.cs (LSub.cn (LSub.cn (LSub.cn (LSub.nil)))))
    · have h := ifF c25 h
      refine Go.t (Go_sg bk_ListReader_readWay 17 2 (c2 := (some 32, [some (.ref 124), none, some (.int v2), some (.int x4)], [.int (57 : Int32), .int x4], σ)) (ps := []) rfl trivial) ?_
      refine Go_icmp_le bk_ListReader_readWay 19 rfl (fun c24 => ?_) (fun c24 => ?_)
      · have h := ifT c24 h
        refine Go.t (Go_sg bk_ListReader_readWay 24 2 (c2 := (some 44, [some (.ref 124), none, some (.int v2), some (.int x4)], [.int (16 : Int32), .int v2], σ)) (ps := []) rfl trivial) ?_
        refine Go_icmp_ne bk_ListReader_readWay 26 rfl (fun c23 => ?_) (fun c23 => ?_)
        · have h := ifF c23 h
          refine Go.t (Go_sg bk_ListReader_readWay 31 2 (c2 := (some 56, [some (.ref 124), none, some (.int v2), some (.int x4)], [.int (53 : Int32), .int x4], σ)) (ps := []) rfl trivial) ?_
          refine Go_icmp_le bk_ListReader_readWay 33 rfl (fun c22 => ?_) (fun c22 => ?_)
          · have h := ifT c22 h
            refine Go.t (Go_sg bk_ListReader_readWay 38 13 (c2 := (some 86, [some (.ref 124), none, some (.int v2), some (.int x4)], [.int (57 : Int32), .ref 124], sI (sI σ 124 6 (x4 - (48 : Int32))) 124 2 (((sI σ 124 6 (x4 - (48 : Int32))).1 124 2) + (1 : Int32)))) (ps := [shk 124 = 6, shk 124 = 6, shk 124 = 6]) rfl ⟨rfl, rfl, rfl, trivial⟩) ?_
            obtain ⟨⟨x7, σ8⟩, q9, h⟩ := bdS h
            dsimp only at h
            refine Go.t (Go_callV bk_ListReader_readWay 51 rfl nk_ListReader_readTimes tw808 tw810 tw13 (ci := 6) rfl (as := [.int (57 : Int32)]) (S := []) rfl rfl rfl rfl (Nat.le_of_ble_eq_true rfl) (Nat.le_of_ble_eq_true rfl) (ev_ListReader_readTimes _ _ q9)) ?_
            refine Go_if_ne bk_ListReader_readWay 52 rfl (fun c21 => ?_) (fun c21 => ?_)
            · have h := ifF c21 h
              refine Go.t (Go_sg bk_ListReader_readWay 55 1 (c2 := (some 95, [some (.ref 124), none, some (.int v2), some (.int x4)], [.ref 124], σ8)) (ps := []) rfl trivial) ?_
              obtain ⟨σ11, q12, h⟩ := bdS h
              refine Go.t (Go_callV bk_ListReader_readWay 56 rfl nk_ListReader_put tw816 tw818 tw14 (ci := 6) rfl (as := []) (S := []) rfl rfl rfl rfl (Nat.le_of_ble_eq_true rfl) (Nat.le_of_ble_eq_true rfl) (ev_ListReader_put _ q12)) ?_
              refine Go.t (Go_sg bk_ListReader_readWay 57 1 (c2 := (some 99, [some (.ref 124), none, some (.int v2), some (.int x4)], [.ref 124], σ11)) (ps := []) rfl trivial) ?_
              obtain ⟨x13, q15, h⟩ := bdS h
              refine Go.t (Go_callU bk_ListReader_readWay 58 rfl nk_Reader_isEnd_2 (xc := "PuzzleWed$ListReader") tw820 tw821 tw623 (C := RX6) tw822 (ci := 6) rfl (as := []) (S := []) rfl rfl rfl rfl (Nat.le_of_ble_eq_true rfl) (Nat.le_of_ble_eq_true rfl) (ev_Reader_isEnd_2 _ q15)) ?_
              refine Go_if_eq bk_ListReader_readWay 59 rfl (fun c20 => ?_) (fun c20 => ?_)
              · have h := ifT c20 h
                refine Go.t (Go_sg bk_ListReader_readWay 62 1 (c2 := (some 108, [some (.ref 124), none, some (.int v2), some (.int x4)], [.ref 124], σ11)) (ps := []) rfl trivial) ?_
                obtain ⟨x16, q18, h⟩ := bdS h
                refine Go.t (Go_callU bk_ListReader_readWay 63 rfl nk_Reader_sign_2 (xc := "PuzzleWed$ListReader") tw802 tw803 tw630 (C := RX6) tw804 (ci := 6) rfl (as := []) (S := []) rfl rfl rfl rfl (Nat.le_of_ble_eq_true rfl) (Nat.le_of_ble_eq_true rfl) (ev_Reader_sign_2 _ q18)) ?_
                refine Go.t (Go_sg bk_ListReader_readWay 64 1 (c2 := (some 113, [some (.ref 124), none, some (.int v2), some (.int x4)], [.int (44 : Int32), .int x16], σ11)) (ps := []) rfl trivial) ?_
                refine Go_icmp_eq bk_ListReader_readWay 65 rfl (fun c19 => ?_) (fun c19 => ?_)
                · have h := ifT c19 h
                  refine Go.t (Go_sg bk_ListReader_readWay 70 8 (c2 := (some 12, [some (.ref 124), none, some (.int (v2 + (1 : Int32))), some (.int x4)], [], sI σ11 124 2 ((σ11.1 124 2) + (1 : Int32)))) (ps := [shk 124 = 6, shk 124 = 6]) rfl ⟨rfl, rfl, trivial⟩) ?_
                  have h := Option.some.inj h
                  subst h
                  exact Go.fg (LSub.cs (LSub.cn (LSub.cs (LSub.cn (LSub.nil)))))
                · have h := ifF c19 h
                  have h := Option.some.inj h
                  subst h
                  exact Go.fg (LSub.cs (LSub.cn (LSub.cn (LSub.cn (LSub.nil)))))
              · have h := ifF c20 h
                have h := Option.some.inj h
                subst h
                refine Go.t (Go_sg bk_ListReader_readWay 60 1 (c2 := (some 106, [some (.ref 124), none, some (.int v2), some (.int x4)], [.int (1 : Int32)], σ11)) (ps := []) rfl trivial) ?_
                exact Go_reti bk_ListReader_readWay 61 rfl
            · have h := ifT c21 h
              have h := Option.some.inj h
              subst h
              refine Go.t (Go_sg bk_ListReader_readWay 53 1 (c2 := (some 93, [some (.ref 124), none, some (.int v2), some (.int x4)], [.int (0 : Int32)], σ8)) (ps := []) rfl trivial) ?_
              exact Go_reti bk_ListReader_readWay 54 rfl
          · have h := ifF c22 h
            have h := Option.some.inj h
            subst h
            exact Go.fg (LSub.cs (LSub.cn (LSub.cn (LSub.cn (LSub.nil)))))
        · have h := ifT c23 h
          have h := Option.some.inj h
          subst h
          exact Go.fg (LSub.cs (LSub.cn (LSub.cn (LSub.cn (LSub.nil)))))
      · have h := ifF c24 h
        have h := Option.some.inj h
        subst h
        exact Go.fg (LSub.cs (LSub.cn (LSub.cn (LSub.cn (LSub.nil)))))
def ListReader_readWay_L12  (s : Int32 × MH) : Option ((MH) ⊕ (MH) ⊕ (MH) ⊕ (MH) ⊕ (MH) ⊕ (Int32 × MH)) := itr (fun s : Int32 × MH => ListReader_readWay_l12 s.1 s.2) FU s
set_option maxRecDepth 20000 in
set_option maxHeartbeats 2000000 in
theorem t_ListReader_readWay_L12   (s : Int32 × MH) {r} (h : ListReader_readWay_L12  s = some r) : Go m_ListReader_readWay 4 (cH_ListReader_readWay_12  s) (cR_ListReader_readWay_12  r) := Go_itr (fun s o ho => t_ListReader_readWay_l12 s.1 s.2 ho) FU s r h
def ListReader_readWay_b35  (σ : MH) : Option (Int32 × MH) := (Reader_fail_2 (1 : Int32) σ).bind fun (x32, σ33) => some (x32, σ33)
set_option maxRecDepth 20000 in
set_option maxHeartbeats 2000000 in
theorem t_ListReader_readWay_b35    (σ : MH) {o} (h : ListReader_readWay_b35 σ = some o) : Go m_ListReader_readWay 4 (some 35, [some (.ref 124), none, none, none], [], σ) ((none, [], [.int o.1], o.2)) := by
  unfold ListReader_readWay_b35 at h
  refine Go.t (Go_sg bk_ListReader_readWay 20 2 (c2 := (some 37, [some (.ref 124), none, none, none], [.int (1 : Int32), .ref 124], σ)) (ps := []) rfl trivial) ?_
  obtain ⟨⟨x32, σ33⟩, q34, h⟩ := bdS h
  dsimp only at h
  refine Go.t (Go_callU bk_ListReader_readWay 22 rfl nk_Reader_fail_2 (xc := "PuzzleWed$ListReader") tw805 tw806 tw722 (C := RX6) tw807 (ci := 6) rfl (as := [.int (1 : Int32)]) (S := []) rfl rfl rfl rfl (Nat.le_of_ble_eq_true rfl) (Nat.le_of_ble_eq_true rfl) (ev_Reader_fail_2 _ _ q34)) ?_
  have h := Option.some.inj h
  subst h
  exact Go_reti bk_ListReader_readWay 23 rfl
def ListReader_readWay0 (v1 : Int32) (σ : MH) : Option (Int32 × MH) := (Reader_begin_2 v1 σ).bind fun σ2 => (ListReader_readWay_L12 ((0 : Int32), sI σ2 124 5 (0 : Int32))).bind fun z27 => (match z27 with | .inl z27a => (Reader_fail_2 (1 : Int32) z27a).bind fun (x29, σ30) => some (x29, σ30) | .inr z27r => (match z27r with | .inl z27b => ListReader_readWay_b35 z27b | .inr z27rr => (match z27rr with | .inl z27c => (Reader_fail_2 (4 : Int32) z27c).bind fun (x35, σ36) => some (x35, σ36) | .inr z27rrr => (match z27rrr with | .inl z27d => (Reader_fail_2 (3 : Int32) z27d).bind fun (x38, σ39) => some (x38, σ39) | .inr z27rrrr => (match z27rrrr with | .inl z27e => (Reader_fail_2 (1 : Int32) z27e).bind fun (x41, σ42) => some (x41, σ42) | .inr z27f => some (z27f.1, z27f.2))))))
set_option maxRecDepth 20000 in
set_option maxHeartbeats 2000000 in
theorem t_ListReader_readWay0 (v1 : Int32)  (σ : MH) {o} (h : ListReader_readWay0 v1 σ = some o) : Go m_ListReader_readWay 4 (some 0, [some (.ref 124), some (.int v1), none, none], [], σ) ((none, [], [.int o.1], o.2)) := by
  unfold ListReader_readWay0 at h
  refine Go.t (Go_sg bk_ListReader_readWay 0 2 (c2 := (some 2, [some (.ref 124), some (.int v1), none, none], [.int v1, .ref 124], σ)) (ps := []) rfl trivial) ?_
  obtain ⟨σ2, q3, h⟩ := bdS h
  refine Go.t (Go_callU bk_ListReader_readWay 2 rfl nk_Reader_begin_2 (xc := "PuzzleWed$ListReader") tw795 tw796 tw613 (C := RX6) tw797 (ci := 6) rfl (as := [.int v1]) (S := []) rfl rfl rfl rfl (Nat.le_of_ble_eq_true rfl) (Nat.le_of_ble_eq_true rfl) (ev_Reader_begin_2 _ _ q3)) ?_
  refine Go.t (Go_sg bk_ListReader_readWay 3 5 (c2 := (some 12, [some (.ref 124), some (.int v1), some (.int (0 : Int32)), none], [], sI σ2 124 5 (0 : Int32))) (ps := [shk 124 = 6]) rfl ⟨rfl, trivial⟩) ?_
  obtain ⟨z27, q28, h⟩ := bdS h
  refine Go.t (Go.t (Go.fg (LSub.cs (LSub.cn (LSub.cs (LSub.cn (LSub.nil)))))) (t_ListReader_readWay_L12 _ q28)) ?_
  rcases z27 with z27a | z27r
  · dsimp only at h
    refine Go.t (Go_sg bk_ListReader_readWay 78 2 (c2 := (some 140, [some (.ref 124), none, none, none], [.int (1 : Int32), .ref 124], z27a)) (ps := []) rfl trivial) ?_
    obtain ⟨⟨x29, σ30⟩, q31, h⟩ := bdS h
    dsimp only at h
    refine Go.t (Go_callU bk_ListReader_readWay 80 rfl nk_Reader_fail_2 (xc := "PuzzleWed$ListReader") tw805 tw806 tw722 (C := RX6) tw807 (ci := 6) rfl (as := [.int (1 : Int32)]) (S := []) rfl rfl rfl rfl (Nat.le_of_ble_eq_true rfl) (Nat.le_of_ble_eq_true rfl) (ev_Reader_fail_2 _ _ q31)) ?_
    have h := Option.some.inj h
    subst h
    exact Go_reti bk_ListReader_readWay 81 rfl
  · dsimp only at h
    rcases z27r with z27b | z27rr
    · dsimp only at h
      exact Go.t (Go.fg (LSub.cs (LSub.cn (LSub.cn (LSub.cn (LSub.nil)))))) (t_ListReader_readWay_b35 z27b h)
    · dsimp only at h
      rcases z27rr with z27c | z27rrr
      · dsimp only at h
        refine Go.t (Go_sg bk_ListReader_readWay 27 2 (c2 := (some 49, [some (.ref 124), none, none, none], [.int (4 : Int32), .ref 124], z27c)) (ps := []) rfl trivial) ?_
        obtain ⟨⟨x35, σ36⟩, q37, h⟩ := bdS h
        dsimp only at h
        refine Go.t (Go_callU bk_ListReader_readWay 29 rfl nk_Reader_fail_2 (xc := "PuzzleWed$ListReader") tw805 tw806 tw722 (C := RX6) tw807 (ci := 6) rfl (as := [.int (4 : Int32)]) (S := []) rfl rfl rfl rfl (Nat.le_of_ble_eq_true rfl) (Nat.le_of_ble_eq_true rfl) (ev_Reader_fail_2 _ _ q37)) ?_
        have h := Option.some.inj h
        subst h
        exact Go_reti bk_ListReader_readWay 30 rfl
      · dsimp only at h
        rcases z27rrr with z27d | z27rrrr
        · dsimp only at h
          refine Go.t (Go_sg bk_ListReader_readWay 34 2 (c2 := (some 61, [some (.ref 124), none, none, none], [.int (3 : Int32), .ref 124], z27d)) (ps := []) rfl trivial) ?_
          obtain ⟨⟨x38, σ39⟩, q40, h⟩ := bdS h
          dsimp only at h
          refine Go.t (Go_callU bk_ListReader_readWay 36 rfl nk_Reader_fail_2 (xc := "PuzzleWed$ListReader") tw805 tw806 tw722 (C := RX6) tw807 (ci := 6) rfl (as := [.int (3 : Int32)]) (S := []) rfl rfl rfl rfl (Nat.le_of_ble_eq_true rfl) (Nat.le_of_ble_eq_true rfl) (ev_Reader_fail_2 _ _ q40)) ?_
          have h := Option.some.inj h
          subst h
          exact Go_reti bk_ListReader_readWay 37 rfl
        · dsimp only at h
          rcases z27rrrr with z27e | z27f
          · dsimp only at h
            refine Go.t (Go_sg bk_ListReader_readWay 66 2 (c2 := (some 118, [some (.ref 124), none, none, none], [.int (1 : Int32), .ref 124], z27e)) (ps := []) rfl trivial) ?_
            obtain ⟨⟨x41, σ42⟩, q43, h⟩ := bdS h
            dsimp only at h
            refine Go.t (Go_callU bk_ListReader_readWay 68 rfl nk_Reader_fail_2 (xc := "PuzzleWed$ListReader") tw805 tw806 tw722 (C := RX6) tw807 (ci := 6) rfl (as := [.int (1 : Int32)]) (S := []) rfl rfl rfl rfl (Nat.le_of_ble_eq_true rfl) (Nat.le_of_ble_eq_true rfl) (ev_Reader_fail_2 _ _ q43)) ?_
            have h := Option.some.inj h
            subst h
            exact Go_reti bk_ListReader_readWay 69 rfl
          · dsimp only at h
            have h := Option.some.inj h
            subst h
            exact Go.rf
def ListReader_readWay (v1 : Int32) (σ : MH) : Option (Int32 × MH) := bzo (ListReader_readWay0 v1 σ)
set_option maxRecDepth 20000 in
set_option maxHeartbeats 2000000 in
theorem ev_ListReader_readWay (v1 : Int32)  (σ : MH) {o} (h : ListReader_readWay v1 σ = some o) : Ev m_ListReader_readWay 4 [.ref 124, .int v1] σ (some (.int o.1)) o.2 := Ev.of2 (by decide +kernel) rfl (Nat.le_of_ble_eq_true rfl) ⟨.boolean, rfl, nrB (bzo2 h)⟩ (t_ListReader_readWay0 v1 σ (bzo1 h))
