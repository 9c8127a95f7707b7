/-! THE LAW'S START: the two objects made; what the tables say of the world -/
theorem kMet {tab : Nat → Option (Mth × List ME × Nat)} (ht : KTab tab) {n d q : Nat} {N : Mth} {cdN : List ME} {npN : Nat} (htq : tab q = some (N, cdN, npN)) {w : MD} {G G1 : GH} {b : Nat} {As : List Value} (hG1 : krun tab n d q 0 (ent0 (.ref b :: As) N.2.2.1) [] G = some G1) (hI5 : noD (.ref b :: As) = true) (hI6 : Nat.ble (lg_sl (.ref b :: As)).length N.2.2.1 = true) (l : Launch) (ad : Nat → Nat) (sz : Nat) : Met l N.1 (TBm N) { frames := d, cells := cn G1 - cn G, slots := sn G1 - sn G, locals := 64 * d } (va_Pc ((Value.ref b :: As).map (mv (wa w ad))) (fun U => va_P w.1 vwCl (gws (wa w ad) G) U.heap ∧ WMk w U ∧ va_D (fun _ => True) (gws (wa w ad) G) ∧ U.heap.size = sz)) (fun _ st o t => (o = .returned none ∧ ∃ ad', (∀ k, k < G.length → ad' k = ad k) ∧ va_P w.1 vwCl (gws (wa w ad') G1) t.heap ∧ va_D (va_A (gws (wa w ad) G) sz) (gws (wa w ad') G1)) ∧ va_F (va_A (gws (wa w ad) G) sz) st t) (cn G1 - cn G) (sn G1 - sn G) (va_A (gws (wa w ad) G) sz) := by
  obtain ⟨-, -, hNK, hnm, hinst, hret, hplain, hcls⟩ := ht q N cdN npN htq
  refine Met.ofW (cc := N.2.1) (maxL := N.2.2.1) (ret := N.2.2.2.1) hplain rfl ?_
  intro p' e' s' m' args' below' meth' c' s₁' B hml' hv
  obtain ⟨rfl, hP', hWS', hD', hsz⟩ := hv
  have hts0' := atoms_spec (ws := TBm N) B.pre
  have hown' : s'.vm.findClass N.1.cls = some m'.cls := findClass_of_methodNamed B.named
  rw [hcls] at hown'
  have hin' : meth'.name = "<init>" := ((name_of_methodNamed B.named B.method).1).trans hnm
  have hlocks' := B.notSynchronized
  have hA' : ∀ z, s'.heap.size ≤ z → va_A (gws (wa w ad) G) sz z := fun z hz => Or.inr (by rw [← hsz]; exact hz)
  have hlen : (lg_sl ((Value.ref b :: As).map (mv (wa w ad)))).length = (lg_sl (.ref b :: As)).length := lgsl_mv _ _
  have hl0 := lv_entry ((Value.ref b :: As).map (mv (wa w ad))) (n := N.2.2.1) (by rw [hlen]; exact Nat.le_of_ble_eq_true hI6)
  rw [lg_entry_eq]
  generalize (lg_sl ((Value.ref b :: As).map (mv (wa w ad))) ++ List.replicate (N.2.2.1 - (lg_sl ((Value.ref b :: As).map (mv (wa w ad)))).length) Slot.unset).toArray = ls2 at hl0 ⊢
  have hl2 : lvm (wa w ad) ls2 N.2.2.1 (ent0 (.ref b :: As) N.2.2.1) := lvm_ent hI5 hl0
  have X' : KX N d p' (headSpec (TBm N) { frames := d, cells := cn G1 - cn G, slots := sn G1 - sn G, locals := 64 * d }).room s' m' (((Value.ref b :: As).map (mv (wa w ad))).toArray) meth' c' w (va_A (gws (wa w ad) G) sz) := ⟨B.exec, B.bytes, hml', hown', fun z hz => hts0' z (List.mem_cons_of_mem _ hz), hWS', hin', hA', Nat.le_refl _, Nat.le_refl _⟩
  have := krun_ok ht n d q 0 _ _ G G1 hG1 N cdN npN htq p' l e' _ s' m' _ below' meth' c' w _ (MQ below' (fun _ st o t => (o = .returned none ∧ ∃ ad', (∀ k, k < G.length → ad' k = ad k) ∧ va_P w.1 vwCl (gws (wa w ad') G1) t.heap ∧ va_D (va_A (gws (wa w ad) G) sz) (gws (wa w ad') G1)) ∧ va_F (va_A (gws (wa w ad) G) sz) st t) _ s' (cn G1 - cn G) (sn G1 - sn G) (va_A (gws (wa w ad) G) sz)) (cn G) (sn G) X' (Nat.le_refl _) (Nat.le_refl _) (Nat.le_refl _) (Nat.le_refl _) ad s'.heap [] ls2 hP' (hD'.self) va_S.rf hl2 (fun ad' H' locs' ls' pc' hag hP1 hD1 hS1 hdr => by
    exact W.vret B.exec B.bytes (B.returns.trans hret) (fun t ht _ => ⟨⟨rfl, ad', hag, by rw [ht]; exact hP1, hD1⟩, hS1.F ht⟩) hS1.2.2 hdr)
  rw [Nat.sub_self, Nat.sub_self] at this
  exact this
section LAWS
variable {p : Program} {l : Launch} {e : Env} {s : State} {mi : MethodId} {below : List Frame} {meth : Method} {c : Code} {w : MD} {b : Nat} {Q : State → Prop}
/-- new and the constructor, in the law -/
theorem lw_make {tab : Nat → Option (Mth × List ME × Nat)} (ht : KTab tab) (hx : p.tables.exec = Jvm.exec) (hb : c.code = code) (hml : c.maxLocals = 4) (hown : s.vm.findClass RL = some mi.cls) (hts : ∀ q ∈ TBG, q.before #[Value.ref b] s = true) (hWM : WMk w s) {n d q aux idx idx2 pc gl : Nat} {N : Mth} {cdN : List ME} (htq : tab q = some (N, cdN, 0)) {Cn : String} {T : u_T} {NN : Nat} (f1 : vwCl[aux]? = some (Cn, T, NN)) (f2 : ∀ x ∈ u_ws Cn T NN, x ∈ TBG) (f3 : Cond.classLink RL idx Cn ∈ TBG) (f4 : Cond.instantiable Cn NN ∈ TBG) (f5 : Cond.initialized Cn ∈ TBG) (ty : Nat → FieldType) (f6 : ∀ k, k < NN → parseFieldDescriptor (T k).2.2.1 = some (ty k)) (f7 : ∀ k, k < NN → defaultValue (ty k) = if fkr aux k = true then .null else .int 0) (hlt : aux < 20) (hlk : Cond.methodLink RL idx2 N.1 ∈ TBG)
    {G G1 : GH} (hgl : G.length = gl) (hbd : bdG G.length G = true) (hG1 : krun tab n d q 0 (ent0 [.ref gl] N.2.2.1) [] (G ++ [(aux, NN, [], [])]) = some G1) (hloc : Nat.ble 1 N.2.2.1 = true) (hd : d + 1 ≤ 100) (hc1 : cn G1 ≤ 600000) (hs1 : sn G1 ≤ 7302250)
    (d0 : decode code pc = .ok (.new idx, 3)) (d1 : decode code (pc + 3) = .ok (.dup, 1)) (d2 : decode code (pc + 3 + 1) = .ok (.invokespecial idx2, 3))
    {ad : Nat → Nat} {H : Heap} {locs : List Loc} {ls : Array Slot} (hls : ls.size = 4) (hP : va_P w.1 vwCl (gws (wa w ad) G) H) (hD : va_D (fun q => s.heap.size ≤ q) (gws (wa w ad) G)) (hS : va_S (fun q => s.heap.size ≤ q) s.heap H locs)
    (kk : ∀ (ad' : Nat → Nat) (H' : Heap) (locs' : List Loc), (∀ k, k < G.length → ad' k = ad k) → va_P w.1 vwCl (gws (wa w ad') G1) H' → va_D (fun q => s.heap.size ≤ q) (gws (wa w ad') G1) → va_S (fun q => s.heap.size ≤ q) s.heap H' locs' → W p l e room_1 s mi #[Value.ref b] below meth c H' locs' (cn G1) (sn G1) Q (F0 mi (pc + 3 + 1 + 3) ls [.ref (ad' gl)])) :
    W p l e room_1 s mi #[Value.ref b] below meth c H locs (cn G) (sn G) Q (F0 mi pc ls []) := by
  subst hgl
  have hA : ∀ q, s.heap.size ≤ q → (fun q => s.heap.size ≤ q) q := fun _ h => h
  have hmm := krun_mono _ _ _ _ _ _ _ _ hG1
  have ec : cn (G ++ [(aux, NN, [], [])]) = cn G + 1 := by simp [cn]
  have es : sn (G ++ [(aux, NN, [], [])]) = sn G + NN := by rw [sn_app]; simp [sn]
  rw [ec, es] at hmm
  refine va_new (D := w.1) (ci := aux) (fs := (List.range NN).map fun k => if fkr aux k = true then .null else .int 0) (C := Cn) (T := T) (N := NN) hx hb hts f2 ty f6 hown (hts _ f3) (hts _ f4) (hts _ f5) hWM.1.1 hP hD hS hA f1 (fun j hj => ?_) (Nat.le_trans hmm.1 hc1) (Nat.le_trans hmm.2 hs1) d0 (fun q0 H1 hP1 hD1 hS1 => ?_)
  · rw [f7 j hj]
    simp [vp_V, List.getD_eq_getElem?_getD, List.getElem?_map, List.getElem?_range hj]
  · refine lv_dup hx hb d1 rfl ?_
    have hag : ∀ j, j < G.length → (fun j => if j = G.length then q0 else ad j) j = ad j := fun j hj => if_neg (by omega)
    have hgw : gws (wa w (fun j => if j = G.length then q0 else ad j)) (G ++ [(aux, NN, [], [])]) = gws (wa w ad) G ++ [(q0, .inr (aux, (List.range NN).map fun k => if fkr aux k = true then .null else .int 0))] := by
      rw [gws_app, gws_wa hag hbd]
      refine congrArg (fun z => gws (wa w ad) G ++ z) ?_
      show [((if G.length + 0 = G.length then q0 else ad (G.length + 0)), gent _ (aux, NN, [], []))] = _
      rw [if_pos (by omega), gent_o (e := (aux, NN, [], [])) hlt]
      rfl
    have had0 : (fun j => if j = G.length then q0 else ad j) G.length = q0 := if_pos rfl
    generalize (fun j => if j = G.length then q0 else ad j) = ad1 at hag hgw had0
    rw [← hgw] at hP1 hD1
    obtain ⟨-, -, hNK, hnm, hinst, hret, hplain, hcls⟩ := ht q N cdN 0 htq
    have hM := kMet ht htq (w := w) (b := G.length) (As := []) hG1 rfl hloc l ad1 H1.size
    have hlen : (G ++ [(aux, NN, [], [])]).length = G.length + 1 := by simp
    generalize (G ++ [(aux, NN, [], [])]) = G' at hG1 hP1 hD1 hM hlen ec es
    have hFc : ∀ z, va_A (gws (wa w ad1) G') H1.size z → s.heap.size ≤ z := fun z hz => by
      rcases hz with ⟨k2, e2, hz⟩ | hz
      · exact hD1.2 k2 _ hz
      · exact Nat.le_trans hS1.1 hz
    have hcw : CallB room_1 s #[Value.ref b] RL idx2 N.1 N.2.1 N.2.2.1 none (TBm N) { frames := d, cells := cn G1 - cn G', slots := sn G1 - sn G', locals := 64 * d } (cn G1 - cn G') (sn G1 - sn G') 0 := by
      have hR : 100 ≤ room_1.frames ∧ 64 * 100 ≤ room_1.locals := ⟨by decide, by decide⟩
      obtain ⟨-, -, k3, k4, k5, k6⟩ := hNK.back hts hd hR.1 hR.2
      rw [hret] at k6
      have hc1 := hts _ hNK.1
      rw [hret] at hc1
      exact ⟨rfl, rfl, k3, k4, k5, k6, hc1, hts _ hNK.2.1, hNK.2.2.1, hNK.len, hts _ hlk⟩
    have e0 : ((Value.ref G.length :: ([] : List Value)).map (mv (wa w ad1))) = [.ref q0] := by
      show [Value.ref (ad1 G.length)] = _
      rw [had0]
    rw [e0] at hM
    have hr := va_runI (g := F0 mi (pc + 3 + 1) ls [.ref q0, .ref q0]) (b := q0) (As := []) (rest := [.ref q0]) (p := p) (l := l) (e := e) (below := below) (meth := meth) (locs := locs) (cells := cn G + 1) (slots := sn G + NN) ⟨hx, hb, hml, hown, hts⟩ hM ⟨hcw, hnm, hts _ hinst⟩ ⟨fun a U g mk z => ⟨z.1, z.2.1, z.2.2.1.same rfl, z.2.2.2.1, z.2.2.2.2⟩, fun U hU hW => ⟨rfl, by rw [hU]; exact hP1, hWM.warm hW, hD1.weaken (fun _ _ _ _ => trivial), by rw [hU]⟩⟩ rfl rfl hls rfl (lv_room (Nat.le_of_ble_eq_true rfl)) d2 ⟨by show cn G + 1 + (cn G1 - cn G') ≤ 600000; omega, by show sn G + NN + (sn G1 - sn G') ≤ 7302250; omega⟩
    intro T0 hT XX
    obtain ⟨vv, st₀, t, T', L2, hh0, XX', hL2, e1, e2, ⟨⟨hv, ad', hag2, hp, hdd⟩, hz, hk2⟩, stt⟩ := hr T0 hT XX
    cases hv
    rw [hh0] at hz hk2
    have hq0 : ad' G.length = q0 := (hag2 G.length (by omega)).trans had0
    have := kk ad' T'.heap (locs ++ L2) (fun j hj => (hag2 j (by omega)).trans (hag j hj)) (by rw [e1]; exact hp) (hdd.weaken (fun _ q2 _ z => hFc _ z)) ⟨Nat.le_trans hS1.1 (by rw [e1]; exact hz), fun z hz1 hz2 => by rw [e1, hk2 z (Nat.lt_of_lt_of_le hz1 hS1.1) (fun y => hz2 (hFc z y))]; exact hS1.2.1 z hz1 hz2, fun z hz3 => by
      rcases List.mem_append.mp hz3 with h8 | h8
      · exact hS1.2.2 z h8
      · exact hFc _ (hL2 z h8)⟩
    rw [hq0, show cn G1 = cn G + 1 + (cn G1 - cn G') by omega, show sn G1 = sn G + NN + (sn G1 - sn G') by omega] at this
    obtain ⟨t2, a2, b2⟩ := this T' rfl XX'
    exact ⟨t2, stt t2 a2, b2⟩
end LAWS
theorem G2_len : G2.length = shN := by decide +kernel
theorem G1_len : G1.length = 166 := by decide +kernel
theorem arrV_to {cI : ClassId} {n : Nat} {f g : Nat → Value} (h : ∀ i, i < n → f i = g i) : arrV cI n f = arrV cI n g := by
  unfold arrV
  have : (Array.ofFn (n := n) fun j => f j.val) = (Array.ofFn (n := n) fun j => g j.val) := congrArg Array.ofFn (funext fun j => h j.1 j.2)
  rw [this]
theorem gws_wsO {w : MD} {H : Heap} (hP : va_P w.1 vwCl (gws w G2) H) : va_P w.1 vwCl (wsO w S0) H := by
  intro a q hq
  obtain ⟨h1, rfl⟩ := wsO_some hq
  have hl : a < G2.length := by rw [G2_len]; exact h1
  have hge : G2[a]? = some (G2.getD a g0) := by rw [List.getD_eq_getElem?_getD, List.getElem?_eq_getElem hl]; rfl
  have h2 : va_at w.1 vwCl (w.2.2.1 a, gent w (G2.getD a g0)) H := hP a _ (gws_get hge)
  have hc := List.all_eq_true.mp chk_all a (List.mem_range.mpr h1)
  by_cases h20 : shk a = 20
  · rw [h20] at hc
    simp only [Bool.and_eq_true] at hc
    have e1 := Nat.eq_of_beq_eq_true hc.1
    have e2 := Nat.eq_of_beq_eq_true hc.2
    have : gent w (G2.getD a g0) = ent w S0 a := by
      unfold gent ent
      rw [if_pos e1, if_pos h20, e2]
      rfl
    rw [← this]
    exact h2
  by_cases h21 : shk a = 21
  · rw [h21] at hc
    simp only [Bool.and_eq_true] at hc
    have e1 := Nat.eq_of_beq_eq_true hc.1
    have e2 := Nat.eq_of_beq_eq_true hc.2
    have : gent w (G2.getD a g0) = ent w S0 a := by
      unfold gent ent
      rw [if_neg (by omega), if_pos e1, if_neg h20, if_pos h21, e2]
      rfl
    rw [← this]
    exact h2
  by_cases h22 : shk a = 22
  · rw [h22] at hc
    simp only [Bool.and_eq_true] at hc
    have e1 := Nat.eq_of_beq_eq_true hc.1
    have e2 := Nat.eq_of_beq_eq_true hc.2
    have : gent w (G2.getD a g0) = ent w S0 a := by
      unfold gent ent
      rw [if_neg (by omega), if_neg (by omega), if_pos e1, if_neg h20, if_neg h21, if_pos h22, e2]
      rfl
    rw [← this]
    exact h2
  have hc2 : chkA a = true := by
    split at hc
    · exact absurd (by assumption) h20
    · exact absurd (by assumption) h21
    · exact absurd (by assumption) h22
    · exact hc
  unfold chkA at hc2
  simp only [Bool.and_eq_true] at hc2
  obtain ⟨⟨c1, c2⟩, c3⟩ := hc2
  have e1 := Nat.eq_of_beq_eq_true c1
  have e2 := Nat.eq_of_beq_eq_true c2
  have c4 := fun k (hk : k < shn a) => List.all_eq_true.mp c3 k (List.mem_range.mpr hk)
  by_cases h23 : shk a = 23
  · have : gent w (G2.getD a g0) = .inl (w.2.1.2.2.2, shn a, .inr (.inr (.inr (.inr (fun i => (gR (G2.getD a g0).2.2.2 i).map w.2.2.1))))) := by
      unfold gent
      rw [if_neg (by omega), if_neg (by omega), if_neg (by omega), if_pos (by omega), e2]
    rw [this] at h2
    have e3 : ent w S0 a = .inl (w.2.1.2.2.2, shn a, .inr (.inr (.inr (.inr (fun i => some (w.2.2.1 (rfv a i))))))) := by
      unfold ent
      rw [if_neg h20, if_neg h21, if_neg h22, if_pos h23]
    rw [e3]
    show H[w.2.2.1 a]? = some (vp_cell _ _)
    have h3 : H[w.2.2.1 a]? = some (vp_cell _ _) := h2
    rw [h3, vp_cell_q, vp_cell_q]
    refine congrArg some (arrV_to fun i hi => ?_)
    have := c4 i hi
    rw [h23] at this
    have := of_decide_eq_true this
    rw [this]
    rfl
  · have : gent w (G2.getD a g0) = ent w S0 a := by
      unfold gent ent
      rw [if_neg (by omega), if_neg (by omega), if_neg (by omega), if_neg (by omega), if_neg h20, if_neg h21, if_neg h22, if_neg h23, e1, e2]
      refine congrArg (fun z => Sum.inr (shk a, z)) ?_
      unfold entF
      apply List.map_congr_left
      intro k hk
      have h9 := c4 k (List.mem_range.mp hk)
      split at h9
      · exact absurd (by assumption) h20
      · exact absurd (by assumption) h21
      · exact absurd (by assumption) h22
      · exact absurd (by assumption) h23
      · by_cases hf : fkr (shk a) k = true
        · rw [if_pos hf, if_pos hf]
          rw [hf] at h9
          have := of_decide_eq_true (show decide (gR (G2.getD a g0).2.2.2 k = some (rfv a k)) = true from h9)
          rw [this]
          rfl
        · rw [if_neg hf, if_neg hf]
          rfl
    rw [← this]
    exact h2
theorem ad_start {w : MD} {A : Nat → Prop} (hD : va_D A (gws w G2)) : adOK w ∧ ∀ a, a < shN → A (w.2.2.1 a) := by
  have hge : ∀ a, a < shN → G2[a]? = some (G2.getD a g0) := fun a ha => by
    have hl : a < G2.length := by rw [G2_len]; exact ha
    rw [List.getD_eq_getElem?_getD, List.getElem?_eq_getElem hl]
    rfl
  exact ⟨fun a b ha hb e => hD.1 a b _ _ (gws_get (hge a ha)) (gws_get (hge b hb)) e, fun a ha => hD.2 a _ (gws_get (hge a ha))⟩
/-! what the tables say at the law's start -/
theorem tx133 : (.classLink RL 7 RX11 : Cond) ∈ TBG := TBG_mem (i := 133) (by decide +kernel) rfl
theorem tx134 : (.instantiable RX11 15 : Cond) ∈ TBG := TBG_mem (i := 134) (by decide +kernel) rfl
theorem tx135 : (.methodLink RL 9 yX11_init : Cond) ∈ TBG := TBG_mem (i := 135) (by decide +kernel) rfl
theorem tx1206 : (.classLink RL 10 RX12 : Cond) ∈ TBG := TBG_mem (i := 1206) (by decide +kernel) rfl
theorem tx1207 : (.instantiable RX12 47 : Cond) ∈ TBG := TBG_mem (i := 1207) (by decide +kernel) rfl
theorem tx1208 : (.methodLink RL 12 yX12_init : Cond) ∈ TBG := TBG_mem (i := 1208) (by decide +kernel) rfl
theorem cl_known {s : State} {args : Array Value} (hts : ∀ q ∈ TBG, q.before args s = true) : ∀ c : Nat, ∃ D : Nat × (Nat → Nat), ∀ q, vwCl[c]? = some q → u_Kn s q.1 q.2.1 q.2.2 D.1 D.2 := by
  intro c
  by_cases hc : c < 12
  · rcases (by omega : c = 0 ∨ c = 1 ∨ c = 2 ∨ c = 3 ∨ c = 4 ∨ c = 5 ∨ c = 6 ∨ c = 7 ∨ c = 8 ∨ c = 9 ∨ c = 10 ∨ c = 11) with rfl | rfl | rfl | rfl | rfl | rfl | rfl | rfl | rfl | rfl | rfl | rfl
    · obtain ⟨cC, iS, h⟩ := u_known (C := RX0) (T := TX0) (N := 11) hts in_X0 (hts _ tx380)
      exact ⟨(cC, iS), fun q hq => by cases hq; exact h⟩
    · obtain ⟨cC, iS, h⟩ := u_known (C := RX1) (T := TX1) (N := 4) hts in_X1 (hts _ tx358)
      exact ⟨(cC, iS), fun q hq => by cases hq; exact h⟩
    · obtain ⟨cC, iS, h⟩ := u_known (C := RX2) (T := TX2) (N := 2) hts in_X2 (hts _ tx345)
      exact ⟨(cC, iS), fun q hq => by cases hq; exact h⟩
    · obtain ⟨cC, iS, h⟩ := u_known (C := RX3) (T := TX3) (N := 15) hts in_X3 (hts _ tx142)
      exact ⟨(cC, iS), fun q hq => by cases hq; exact h⟩
    · obtain ⟨cC, iS, h⟩ := u_known (C := RX4) (T := TX4) (N := 7) hts in_X4 (hts _ tx246)
      exact ⟨(cC, iS), fun q hq => by cases hq; exact h⟩
    · obtain ⟨cC, iS, h⟩ := u_known (C := RX5) (T := TX5) (N := 5) hts in_X5 (hts _ tx285)
      exact ⟨(cC, iS), fun q hq => by cases hq; exact h⟩
    · obtain ⟨cC, iS, h⟩ := u_known (C := RX6) (T := TX6) (N := 8) hts in_X6 (hts _ tx320)
      exact ⟨(cC, iS), fun q hq => by cases hq; exact h⟩
    · obtain ⟨cC, iS, h⟩ := u_known (C := RX8) (T := TX8) (N := 11) hts in_X8 (hts _ tx457)
      exact ⟨(cC, iS), fun q hq => by cases hq; exact h⟩
    · obtain ⟨cC, iS, h⟩ := u_known (C := RX9) (T := TX9) (N := 8) hts in_X9 (hts _ tx424)
      exact ⟨(cC, iS), fun q hq => by cases hq; exact h⟩
    · obtain ⟨cC, iS, h⟩ := u_known (C := RX10) (T := TX10) (N := 2) hts in_X10 (hts _ tx229)
      exact ⟨(cC, iS), fun q hq => by cases hq; exact h⟩
    · obtain ⟨cC, iS, h⟩ := u_known (C := RX11) (T := TX11) (N := 15) hts in_X11 (hts _ tx134)
      exact ⟨(cC, iS), fun q hq => by cases hq; exact h⟩
    · obtain ⟨cC, iS, h⟩ := u_known (C := RX12) (T := TX12) (N := 47) hts in_X12 (hts _ tx1207)
      exact ⟨(cC, iS), fun q hq => by cases hq; exact h⟩
  · exact ⟨(0, fun _ => 0), fun q hq => by rw [List.getElem?_eq_none (by show 12 ≤ c; omega)] at hq; cases hq⟩
theorem arr_known {s : State} {args : Array Value} {ty : FieldType} (h : (Cond.arrayClass ty).before args s = true) : ∃ cA : Nat, ArrOfT s cA ty ∧ s.vm.findClass ("[" ++ ty.toString) = some cA := by
  obtain ⟨ci, ki, co, h1, h2, h3⟩ := Cond.arrayClass_spec h
  exact ⟨ci, fun N z => ⟨(fun k h => by cases h), ki, h2, co, h3⟩, h1⟩
theorem rows_known {s : State} {args : Array Value} (h : (Cond.arrayOver (.array .int)).before args s = true) : ∃ cA : Nat, ArrOfT s cA (.array .int) ∧ s.vm.findClass ("[" ++ (FieldType.array .int).toString) = some cA := by
  simp only [Cond.before, Cond.holds, Cond.value, beq_iff_eq] at h
  cases hc : s.vm.findClass (FieldType.array .int).toString with
  | none => simp [hc] at h
  | some comp =>
    simp only [hc, Option.bind_some, Option.bind_eq_some_iff, Option.map_eq_some_iff] at h
    obtain ⟨c, hi, k, hk, hb⟩ := h
    cases hkind : k.kind with
    | array component ty =>
      rw [hkind] at hb
      simp only [Bool.and_eq_true, decide_eq_true_eq] at hb
      exact ⟨c, fun N z => ⟨(fun k h => by cases h), k, hk, component, by rw [hkind, hb.1]⟩, hb.2⟩
    | _ => rw [hkind] at hb; simp at hb
def stm : Nat → Term
  | 0 => .string "PuzzleWed$LawReader" 46
  | _ => .string "PuzzleWed$LawReader" 108
theorem str_start {b : Nat} {s : State} (h : (Jvm.Cond.and given_1 narrow_1).before #[Value.ref b] s = true) : ∃ adK adV : Nat → Nat, vk_S 2 strN strB adK adV (fun q => s.heap.size ≤ q) s s.heap ∧ ∀ i : Nat, i < 2 → (stm i).eval #[Value.ref b] s none [] s = some (.ref (adK i)) := by
  have hs := flat_of_before _ h
  refine vk_Sof (tm := stm) (fun i hi => ?_) (fun i hi => ?_) (fun i hi => ?_) (fun i hi => ?_) (fun i hi => ?_) (fun i hi => ?_) (fun i j hi hj hij => ?_) (fun a ha => Nat.not_le.mpr ha)
  · rcases (by omega : i = 0 ∨ i = 1) with rfl | rfl <;> decide
  · rcases (by omega : i = 0 ∨ i = 1) with rfl | rfl <;> exact hs _ (by decide +kernel)
  · rcases (by omega : i = 0 ∨ i = 1) with rfl | rfl <;> exact hs _ (by decide +kernel)
  · rcases (by omega : i = 0 ∨ i = 1) with rfl | rfl <;> exact hs _ (by decide +kernel)
  · rcases (by omega : i = 0 ∨ i = 1) with rfl | rfl <;> exact hs _ (by decide +kernel)
  · rcases (by omega : i = 0 ∨ i = 1) with rfl | rfl
    · intro j hj
      have hj5 : j < 5 := hj
      rcases (by omega : j = 0 ∨ j = 1 ∨ j = 2 ∨ j = 3 ∨ j = 4) with rfl | rfl | rfl | rfl | rfl <;> exact hs _ (by decide +kernel)
    · intro j hj
      have hj5 : j < 11 := hj
      rcases (by omega : j = 0 ∨ j = 1 ∨ j = 2 ∨ j = 3 ∨ j = 4 ∨ j = 5 ∨ j = 6 ∨ j = 7 ∨ j = 8 ∨ j = 9 ∨ j = 10) with rfl | rfl | rfl | rfl | rfl | rfl | rfl | rfl | rfl | rfl | rfl <;> exact hs _ (by decide +kernel)
  · rcases (by omega : (i = 0 ∧ j = 1) ∨ (i = 1 ∧ j = 0)) with ⟨rfl, rfl⟩ | ⟨rfl, rfl⟩
    · exact Or.inl (hs _ (by decide +kernel))
    · exact Or.inr (hs _ (by decide +kernel))
theorem tab_start {b : Nat} {s : State} (hts : ∀ q ∈ lw_tbl, q.before #[Value.ref b] s = true) (h : (Jvm.Cond.and given_1 narrow_1).before #[Value.ref b] s = true) : ∃ w : MD, WMk w s ∧ WT w (fun q => s.heap.size ≤ q) s s.heap := by
  have htb : ∀ q ∈ TBG, q.before #[Value.ref b] s = true := fun q hq => hts q (List.mem_filter.mp hq).1
  have hs := flat_of_before _ h
  obtain ⟨D, hDk⟩ := Classical.axiomOfChoice (cl_known htb)
  obtain ⟨ci, i1, i2⟩ := arr_known (htb _ (TBG_mem (w := .arrayClass .int) (i := 227) (by decide +kernel) rfl))
  obtain ⟨cj, j1, j2⟩ := arr_known (htb _ (TBG_mem (w := .arrayClass .long) (i := 501) (by decide +kernel) rfl))
  obtain ⟨cb, b1, b2⟩ := arr_known (htb _ (TBG_mem (w := .arrayClass .byte) (i := 786) (by decide +kernel) rfl))
  have hao := hts (.arrayOver (.array .int)) (List.mem_of_getElem? (i := 148) (by decide +kernel))
  obtain ⟨cr, r1, r2⟩ := rows_known hao
  obtain ⟨adK, adV, hk, hr⟩ := str_start h
  refine ⟨((fun c => (D c).1, fun c => (D c).2), (ci, cj, cb, cr), fun _ => 0, adK, adV), ⟨⟨⟨fun c q hq => hDk c q hq, fun k q hq => ?_⟩, fun q hq => ?_, fun i q hq => ?_⟩, hao⟩, hk, ?_⟩
  · rcases k with _ | _ | _ | _ | k
    · cases hq; exact ⟨i1, i2⟩
    · cases hq; exact ⟨j1, j2⟩
    · cases hq; exact ⟨b1, b2⟩
    · cases hq; exact ⟨r1, r2⟩
    · cases hq
  · have hm : ∀ q ∈ nestL, Cond.methodLinkNest q.1 q.2.1 q.2.2.1 q.2.2.2 ∈ lw_tbl := by decide +kernel
    exact va_Nw.of rfl (hts _ (hm q hq))
  · rcases i with _ | _ | i
    · cases hq
      exact vk_R.of (hts _ (List.mem_of_getElem? (i := 625) (by decide +kernel))) (hr 0 (by omega))
    · cases hq
      exact vk_R.of (hts _ (List.mem_of_getElem? (i := 754) (by decide +kernel))) (hr 1 (by omega))
    · cases hq
  · exact va_Zof (hts _ (List.mem_of_getElem? (i := 645) (by decide +kernel))) (hts _ (List.mem_of_getElem? (i := 124) (by decide +kernel))) (va_eqi (hs _ (by decide +kernel))) (fun a ha => Nat.not_le.mpr ha)
set_option maxHeartbeats 4000000 in
/-- the law comes to its end with true, if each of its calls keeps the two alike -/
theorem start_of {Inv : Nat → MH → Prop} {E : Nat → Prop} (hE : EC E) (hst : STEP E 4096 Inv) (hI : Inv 0 S0) {p : Program} {e : Env} {s : State} {m : MethodId} {below : List Frame} {meth : Method} {c : Code} (l : Launch) {b L : Nat} {xs : Nat → Int32} (hL : L ≤ 4096) (C0 : lw_At p s m meth c b L xs) : W p l e room_1 s m #[Value.ref b] below meth c s.heap [] 0 0 (lw_Z below #[Value.ref b] s) (entryFrame m ([Value.ref b] : List Value).toArray 4) := by
  obtain ⟨hx, hb, hr, hml, hown, hts, hX, hbl, hlocks, hgv⟩ := C0
  have htb : ∀ q ∈ TBG, q.before #[Value.ref b] s = true := fun q hq => hts q (List.mem_filter.mp hq).1
  obtain ⟨w, hWM, hWT⟩ := tab_start hts hgv
  have hl0 := lv_entry [Value.ref b] (n := 4) (Nat.le_of_ble_eq_true rfl)
  rw [lg_entry_eq]
  generalize (lg_sl [Value.ref b] ++ List.replicate (4 - (lg_sl [Value.ref b]).length) Slot.unset).toArray = ls0 at hl0 ⊢
  have hl1 : lv_has ls0 4 [(0, .ref b)] := hl0
  have hP0 : va_P w.1 vwCl (gws (wa w w.2.2.1) []) s.heap := fun k q h => by simp [gws] at h
  have hD0 : va_D (fun q => s.heap.size ≤ q) (gws (wa w w.2.2.1) []) := ⟨fun i j p q h => by simp [gws] at h, fun k q h => by simp [gws] at h⟩
  have c2 : cn G2 ≤ 600000 := by decide +kernel
  have s2 : sn G2 ≤ 7302250 := by decide +kernel
  have c1 : cn G1 ≤ 600000 := by decide +kernel
  have s1 : sn G1 ≤ 7302250 := by decide +kernel
  refine lw_make (G := []) (gl := 0) (q := 12) (N := mk_X11) (aux := 10) (n := 5000) (d := 10) ktab_ok hx hb hml hown htb hWM rfl rfl in_X11 tx133 tx134 tw111 tyX11 tyX11_ok (by decide +kernel) (by decide) tx135 rfl rfl run1 rfl (by decide) c1 s1 (dk_h (i := 0) rfl) (dk_h (i := 1) rfl) (dk_h (i := 2) rfl) hl1.1 hP0 hD0 va_S.rf (fun ad1 H1 locs1 _ hP1 hD1 hS1 => ?_)
  refine lv_astore_n hx hb (dk_h (i := 3) rfl) (i := 1) rfl hl1 (by decide) rfl (fun ls1 hls1 => ?_)
  refine lw_make (G := G1) (gl := 166) (q := 13) (N := mk_X12) (aux := 11) (n := 5000) (d := 10) ktab_ok hx hb hml hown htb hWM rfl rfl in_X12 tx1206 tx1207 tw123 tyX12 tyX12_ok (by decide +kernel) (by decide) tx1208 G1_len (by decide +kernel) run2 rfl (by decide) c2 s2 (dk_h (i := 4) rfl) (dk_h (i := 5) rfl) (dk_h (i := 6) rfl) hls1.1 hP1 hD1 hS1 (fun ad2 H2 locs2 hag hP2 hD2 hS2 => ?_)
  refine lv_astore_n hx hb (dk_h (i := 7) rfl) (i := 2) rfl hls1 (by decide) rfl (fun ls2 hls2 => ?_)
  refine lv_iconst (v := 0) hx hb (dk_h (i := 8) rfl) (by decide) ?_
  refine lv_istore_n hx hb (dk_h (i := 9) rfl) (i := 3) rfl hls2 (by decide) rfl (fun ls3 hls3 => ?_)
  obtain ⟨had, hA⟩ := ad_start hD2
  have X : LX p s m meth c b L xs (wa w ad2) := ⟨hx, hb, hml, hown, htb, hWM.1, hWT, had, hA, hX, hbl, hL⟩
  have e0 : ad2 0 = ad1 0 := hag 0 (by rw [G1_len]; decide)
  refine law_loop X hr hlocks c2 s2 hE hst (L + 1) 0 S0 H2 locs2 ls3 (by omega) (by omega) hI (gws_wsO hP2) hS2 ?_
  refine lv_sub hls3 [3, 2, 1, 0] ?_
  show _ = [(0, Value.ref b), (1, .ref (ad2 0)), (2, .ref (ad2 166)), (3, .int (nI (8 * 0)))]
  rw [e0]
  rfl
