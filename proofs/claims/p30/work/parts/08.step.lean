/-! ONE INSTRUCTION OF THE SMALL MACHINE, and what it asks; that the machine goes so -/
def jrem (x y : Int32) : Int32 := x - x / y * y
def jlrem (x y : Int64) : Int64 := x - x / y * y
def jshl (x y : Int32) : Int32 := x <<< (y &&& 31)
def jshr (x y : Int32) : Int32 := x >>> (y &&& 31)
def jushr (x y : Int32) : Int32 := (x.toUInt32 >>> (y.toUInt32 &&& Int32.toUInt32 31)).toInt32
def jb (x : Int32) : Int32 := x.toInt8.toInt32
def jc (x : Int32) : Int32 := (x.toUInt32 % 65536).toInt32
def IA (a n : Nat) : Prop := shk a = 20 ∧ shn a = n
def IJ (a n : Nat) : Prop := shk a = 21 ∧ shn a = n
def IB (a n : Nat) : Prop := shk a = 22 ∧ shn a = n
def IR (a n : Nat) : Prop := shk a = 23 ∧ shn a = n
/-- an index within a row -/
def inb (i : Int32) (n : Nat) : Bool := !(decide (i < 0) || Nat.ble n i.toNatClampNeg)
theorem inb_in {i : Int32} {n : Nat} (h : inb i n = true) : vp_in i n := by
  unfold inb at h
  intro q
  rcases q with q | q
  · simp [q] at h
  · simp [Nat.ble_eq.mpr q] at h
def bz (x : Int32) : Bool := x == 0 || x == 1
theorem PL_f {own : String} {P : PL} (h : PLOK own P) {n aux : Nat} (hq : P.1.any (fun q => Nat.beq q.1 n && Nat.beq q.2 aux) = true) : FOK own n aux := by
  obtain ⟨q, hq1, hq2⟩ := List.any_eq_true.mp hq
  simp only [Bool.and_eq_true] at hq2
  have e1 := Nat.eq_of_beq_eq_true hq2.1
  have e2 := Nat.eq_of_beq_eq_true hq2.2
  have := h.1 q hq1
  rw [e1, e2] at this
  exact this
theorem PL_c {own : String} {P : PL} (h : PLOK own P) {n : Nat} {v : Int32} (hq : P.2.1.any (fun q => Nat.beq q.1 n && decide (q.2 = v)) = true) : Cond.constant own n v ∈ TBG := by
  obtain ⟨q, hq1, hq2⟩ := List.any_eq_true.mp hq
  simp only [Bool.and_eq_true, decide_eq_true_eq] at hq2
  have e1 := Nat.eq_of_beq_eq_true hq2.1
  have := h.2.1 q hq1
  rw [e1, hq2.2] at this
  exact this
theorem PL_l {own : String} {P : PL} (h : PLOK own P) {n : Nat} {v : Int64} (hq : P.2.2.1.any (fun q => Nat.beq q.1 n && decide (q.2 = v)) = true) : Cond.constantLong own n v ∈ TBG := by
  obtain ⟨q, hq1, hq2⟩ := List.any_eq_true.mp hq
  simp only [Bool.and_eq_true, decide_eq_true_eq] at hq2
  have e1 := Nat.eq_of_beq_eq_true hq2.1
  have := h.2.2.1 q hq1
  rw [e1, hq2.2] at this
  exact this

def oP : Option Prop → Prop
  | none => True
  | some p => p
def stp (M : Mth) (pc : Nat) (I : Instr) (aux : Nat) (v : Int32) (w : Int64) (L : List (Option Value)) (S : List Value) (σ : MH) : Option (MC × Option Prop) :=
  match I with
  | .iconst n => some ((some (pc + 1), L, .int v :: S, σ), none)
  | .bipush n => some ((some (pc + 2), L, .int v :: S, σ), none)
  | .sipush n => some ((some (pc + 3), L, .int v :: S, σ), none)
  | .ldc n => some ((some (pc + 2), L, .int v :: S, σ), none)
  | .ldc_w n => some ((some (pc + 3), L, .int v :: S, σ), none)
  | .ldc2_w n => some ((some (pc + 3), L, .long w :: S, σ), none)
  | .lconst n => some ((some (pc + 1), L, .long w :: S, σ), none)
  | .aconst_null => some ((some (pc + 1), L, .null :: S, σ), none)
  | .iload n => (match L.getD n none with | some (.int x) => some ((some (pc + 2), L, .int x :: S, σ), none) | _ => none)
  | .iload_n n => (match L.getD n.val none with | some (.int x) => some ((some (pc + 1), L, .int x :: S, σ), none) | _ => none)
  | .lload n => (match L.getD n none with | some (.long x) => some ((some (pc + 2), L, .long x :: S, σ), none) | _ => none)
  | .lload_n n => (match L.getD n.val none with | some (.long x) => some ((some (pc + 1), L, .long x :: S, σ), none) | _ => none)
  | .aload n => (match L.getD n none with | some (.ref x) => some ((some (pc + 2), L, .ref x :: S, σ), none) | some .null => some ((some (pc + 2), L, .null :: S, σ), none) | some (.retAddr x) => some ((some (pc + 2), L, .retAddr x :: S, σ), none) | some (.float x) => some ((some (pc + 2), L, .float x :: S, σ), none) | _ => none)
  | .aload_n n => (match L.getD n.val none with | some (.ref x) => some ((some (pc + 1), L, .ref x :: S, σ), none) | some .null => some ((some (pc + 1), L, .null :: S, σ), none) | some (.retAddr x) => some ((some (pc + 1), L, .retAddr x :: S, σ), none) | some (.float x) => some ((some (pc + 1), L, .float x :: S, σ), none) | _ => none)
  | .iadd => (match S with | .int y :: .int x :: S => some ((some (pc + 1), L, .int (x + y) :: S, σ), none) | _ => none)
  | .isub => (match S with | .int y :: .int x :: S => some ((some (pc + 1), L, .int (x - y) :: S, σ), none) | _ => none)
  | .imul => (match S with | .int y :: .int x :: S => some ((some (pc + 1), L, .int (x * y) :: S, σ), none) | _ => none)
  | .iand => (match S with | .int y :: .int x :: S => some ((some (pc + 1), L, .int (x &&& y) :: S, σ), none) | _ => none)
  | .ior => (match S with | .int y :: .int x :: S => some ((some (pc + 1), L, .int (x ||| y) :: S, σ), none) | _ => none)
  | .ixor => (match S with | .int y :: .int x :: S => some ((some (pc + 1), L, .int (x ^^^ y) :: S, σ), none) | _ => none)
  | .ishl => (match S with | .int y :: .int x :: S => some ((some (pc + 1), L, .int (jshl x y) :: S, σ), none) | _ => none)
  | .ishr => (match S with | .int y :: .int x :: S => some ((some (pc + 1), L, .int (jshr x y) :: S, σ), none) | _ => none)
  | .iushr => (match S with | .int y :: .int x :: S => some ((some (pc + 1), L, .int (jushr x y) :: S, σ), none) | _ => none)
  | .idiv => (match S with | .int y :: .int x :: S => some ((some (pc + 1), L, .int (x / y) :: S, σ), some (y ≠ 0)) | _ => none)
  | .irem => (match S with | .int y :: .int x :: S => some ((some (pc + 1), L, .int (jrem x y) :: S, σ), some (y ≠ 0)) | _ => none)
  | .ladd => (match S with | .long y :: .long x :: S => some ((some (pc + 1), L, .long (x + y) :: S, σ), none) | _ => none)
  | .lsub => (match S with | .long y :: .long x :: S => some ((some (pc + 1), L, .long (x - y) :: S, σ), none) | _ => none)
  | .lmul => (match S with | .long y :: .long x :: S => some ((some (pc + 1), L, .long (x * y) :: S, σ), none) | _ => none)
  | .ldiv => (match S with | .long y :: .long x :: S => some ((some (pc + 1), L, .long (x / y) :: S, σ), some (y ≠ 0)) | _ => none)
  | .lrem => (match S with | .long y :: .long x :: S => some ((some (pc + 1), L, .long (jlrem x y) :: S, σ), some (y ≠ 0)) | _ => none)
  | .lcmp => (match S with | .long y :: .long x :: S => some ((some (pc + 1), L, .int (lg_cmp x y) :: S, σ), none) | _ => none)
  | .ineg => (match S with | .int x :: S => some ((some (pc + 1), L, .int (-x) :: S, σ), none) | _ => none)
  | .i2l => (match S with | .int x :: S => some ((some (pc + 1), L, .long x.toInt64 :: S, σ), none) | _ => none)
  | .l2i => (match S with | .long x :: S => some ((some (pc + 1), L, .int x.toInt32 :: S, σ), none) | _ => none)
  | .i2b => (match S with | .int x :: S => some ((some (pc + 1), L, .int (jb x) :: S, σ), none) | _ => none)
  | .i2c => (match S with | .int x :: S => some ((some (pc + 1), L, .int (jc x) :: S, σ), none) | _ => none)
  | .dup => (match S with | a :: S => if Nat.beq a.category 1 = true then some ((some (pc + 1), L, a :: a :: S, σ), none) else none | _ => none)
  | .pop => (match S with | a :: S => if Nat.beq a.category 1 = true then some ((some (pc + 1), L, S, σ), none) else none | _ => none)
  | .dup2 => (match S with | a :: b :: S => if (Nat.beq a.category 1 && Nat.beq b.category 1) = true then some ((some (pc + 1), L, a :: b :: a :: b :: S, σ), none) else none | _ => none)
  | .goto off => some ((some aux, L, S, σ), none)
  | .iaload => (match S with | .int i :: .ref a :: S => some ((some (pc + 1), L, .int (σ.1 a i.toNatClampNeg) :: S, σ), some (IA a aux ∧ inb i aux = true)) | _ => none)
  | .baload => (match S with | .int i :: .ref a :: S => some ((some (pc + 1), L, .int (σ.1 a i.toNatClampNeg) :: S, σ), some (IB a aux ∧ inb i aux = true)) | _ => none)
  | .laload => (match S with | .int i :: .ref a :: S => some ((some (pc + 1), L, .long (σ.2 a i.toNatClampNeg) :: S, σ), some (IJ a aux ∧ inb i aux = true)) | _ => none)
  | .aaload => (match S with | .int i :: .ref a :: S => some ((some (pc + 1), L, .ref (rfv a i.toNatClampNeg) :: S, σ), some (IR a aux ∧ inb i aux = true)) | _ => none)
  | .iastore => (match S with | .int x :: .int i :: .ref a :: S => some ((some (pc + 1), L, S, sI σ a i.toNatClampNeg x), some (IA a aux ∧ inb i aux = true)) | _ => none)
  | .bastore => (match S with | .int x :: .int i :: .ref a :: S => some ((some (pc + 1), L, S, sI σ a i.toNatClampNeg (vp_nar .byte x)), some (IB a aux ∧ inb i aux = true)) | _ => none)
  | .lastore => (match S with | .long x :: .int i :: .ref a :: S => some ((some (pc + 1), L, S, sJ σ a i.toNatClampNeg x), some (IJ a aux ∧ inb i aux = true)) | _ => none)
  | .arraylength => (match S with | .ref a :: S => some ((some (pc + 1), L, .int v :: S, σ), some (IA a aux ∨ IJ a aux)) | _ => none)
  | .getfield n => (match S with | .ref a :: S => some ((some (pc + 3), L, (if fkr (aux / 64) (aux % 64) = true then .ref (rfv a (aux % 64)) else .int (σ.1 a (aux % 64))) :: S, σ), some (shk a = aux / 64)) | _ => none)
  | .putfield n => (match S with | .int x :: .ref a :: S => if (!fkr (aux / 64) (aux % 64) && !fnl (aux / 64) (aux % 64)) = true then some ((some (pc + 3), L, S, sI σ a (aux % 64) x), some (if fzr (aux / 64) (aux % 64) = true then shk a = aux / 64 ∧ bz x = true else shk a = aux / 64)) else none | _ => none)
  | .istore n => (match S with | .int x :: S => if (Nat.blt n M.2.2.1 && nlb L n) = true then some ((some (pc + 2), L.set n (some (.int x)), S, σ), none) else none | _ => none)
  | .istore_n n => (match S with | .int x :: S => if (Nat.blt n.val M.2.2.1 && nlb L n.val) = true then some ((some (pc + 1), L.set n.val (some (.int x)), S, σ), none) else none | _ => none)
  | .astore n => (match S with | .ref x :: S => if (Nat.blt n M.2.2.1 && nlb L n) = true then some ((some (pc + 2), L.set n (some (.ref x)), S, σ), none) else none | _ => none)
  | .astore_n n => (match S with | .ref x :: S => if (Nat.blt n.val M.2.2.1 && nlb L n.val) = true then some ((some (pc + 1), L.set n.val (some (.ref x)), S, σ), none) else none | _ => none)
  | .lstore n => (match S with | .long x :: S => if (Nat.blt (n + 1) M.2.2.1 && nlb L n) = true then some ((some (pc + 2), (L.set n (some (.long x))).set (n + 1) none, S, σ), none) else none | _ => none)
  | .lstore_n n => (match S with | .long x :: S => if (Nat.blt (n.val + 1) M.2.2.1 && nlb L n.val) = true then some ((some (pc + 1), (L.set n.val (some (.long x))).set (n.val + 1) none, S, σ), none) else none | _ => none)
  | .iinc n q => (match L.getD n none with | some (.int x) => if (Nat.blt n M.2.2.1 && nlb L n) = true then some ((some (pc + 3), L.set n (some (.int (x + v))), S, σ), none) else none | _ => none)
  | _ => none
theorem gs_iconst {M : Mth} {d : Nat} {P : PL} {pc aux : Nat} {v : Int32} {w : Int64} {L : List (Option Value)} {S : List Value} {σ : MH} {c1 : MC} {Pr : Option Prop} (hPL : PLOK M.2.2.2.2 P) {n : Int} (hE : okE M P (pc, .iconst n, aux, v, w)) (h : stp M pc (.iconst n) aux v w L S σ = some (c1, Pr)) (hO : oP Pr) : Go M d (some pc, L, S, σ) c1 := by
  cases h
  intro p l e R s m args below meth c w0 A Q C k H locs ls hP hS hl
  exact lv_iconst C.1 C.2.1 hE.1 (of_decide_eq_true hE.2) (k H locs ls hP hS hl)
theorem gs_bipush {M : Mth} {d : Nat} {P : PL} {pc aux : Nat} {v : Int32} {w : Int64} {L : List (Option Value)} {S : List Value} {σ : MH} {c1 : MC} {Pr : Option Prop} (hPL : PLOK M.2.2.2.2 P) {n : Int} (hE : okE M P (pc, .bipush n, aux, v, w)) (h : stp M pc (.bipush n) aux v w L S σ = some (c1, Pr)) (hO : oP Pr) : Go M d (some pc, L, S, σ) c1 := by
  cases h
  intro p l e R s m args below meth c w0 A Q C k H locs ls hP hS hl
  exact lv_bipush C.1 C.2.1 hE.1 (of_decide_eq_true hE.2) (k H locs ls hP hS hl)
theorem gs_sipush {M : Mth} {d : Nat} {P : PL} {pc aux : Nat} {v : Int32} {w : Int64} {L : List (Option Value)} {S : List Value} {σ : MH} {c1 : MC} {Pr : Option Prop} (hPL : PLOK M.2.2.2.2 P) {n : Int} (hE : okE M P (pc, .sipush n, aux, v, w)) (h : stp M pc (.sipush n) aux v w L S σ = some (c1, Pr)) (hO : oP Pr) : Go M d (some pc, L, S, σ) c1 := by
  cases h
  intro p l e R s m args below meth c w0 A Q C k H locs ls hP hS hl
  exact lv_sipush C.1 C.2.1 hE.1 (of_decide_eq_true hE.2) (k H locs ls hP hS hl)
theorem gs_ldc {M : Mth} {d : Nat} {P : PL} {pc aux : Nat} {v : Int32} {w : Int64} {L : List (Option Value)} {S : List Value} {σ : MH} {c1 : MC} {Pr : Option Prop} (hPL : PLOK M.2.2.2.2 P) {n : Nat} (hE : okE M P (pc, .ldc n, aux, v, w)) (h : stp M pc (.ldc n) aux v w L S σ = some (c1, Pr)) (hO : oP Pr) : Go M d (some pc, L, S, σ) c1 := by
  cases h
  intro p l e R s m args below meth c w0 A Q C k H locs ls hP hS hl
  exact lv_ldc C.1 C.2.1 C.2.2.2.1 (C.2.2.2.2.1 _ (PL_c hPL hE.2)) hE.1 (k H locs ls hP hS hl)
theorem gs_ldcw {M : Mth} {d : Nat} {P : PL} {pc aux : Nat} {v : Int32} {w : Int64} {L : List (Option Value)} {S : List Value} {σ : MH} {c1 : MC} {Pr : Option Prop} (hPL : PLOK M.2.2.2.2 P) {n : Nat} (hE : okE M P (pc, .ldc_w n, aux, v, w)) (h : stp M pc (.ldc_w n) aux v w L S σ = some (c1, Pr)) (hO : oP Pr) : Go M d (some pc, L, S, σ) c1 := by
  cases h
  intro p l e R s m args below meth c w0 A Q C k H locs ls hP hS hl
  exact lv_ldcw C.1 C.2.1 C.2.2.2.1 (C.2.2.2.2.1 _ (PL_c hPL hE.2)) hE.1 (k H locs ls hP hS hl)
theorem gs_ldc2 {M : Mth} {d : Nat} {P : PL} {pc aux : Nat} {v : Int32} {w : Int64} {L : List (Option Value)} {S : List Value} {σ : MH} {c1 : MC} {Pr : Option Prop} (hPL : PLOK M.2.2.2.2 P) {n : Nat} (hE : okE M P (pc, .ldc2_w n, aux, v, w)) (h : stp M pc (.ldc2_w n) aux v w L S σ = some (c1, Pr)) (hO : oP Pr) : Go M d (some pc, L, S, σ) c1 := by
  cases h
  intro p l e R s m args below meth c w0 A Q C k H locs ls hP hS hl
  exact lv_ldc2 C.1 C.2.1 C.2.2.2.1 (C.2.2.2.2.1 _ (PL_l hPL hE.2)) hE.1 (k H locs ls hP hS hl)
theorem gs_lconst {M : Mth} {d : Nat} {P : PL} {pc aux : Nat} {v : Int32} {w : Int64} {L : List (Option Value)} {S : List Value} {σ : MH} {c1 : MC} {Pr : Option Prop} (hPL : PLOK M.2.2.2.2 P) {n : Fin 2} (hE : okE M P (pc, .lconst n, aux, v, w)) (h : stp M pc (.lconst n) aux v w L S σ = some (c1, Pr)) (hO : oP Pr) : Go M d (some pc, L, S, σ) c1 := by
  cases h
  intro p l e R s m args below meth c w0 A Q C k H locs ls hP hS hl
  exact lv_lconst C.1 C.2.1 hE.1 (of_decide_eq_true hE.2) (k H locs ls hP hS hl)
theorem gs_null {M : Mth} {d : Nat} {P : PL} {pc aux : Nat} {v : Int32} {w : Int64} {L : List (Option Value)} {S : List Value} {σ : MH} {c1 : MC} {Pr : Option Prop} (hPL : PLOK M.2.2.2.2 P) (hE : okE M P (pc, .aconst_null, aux, v, w)) (h : stp M pc .aconst_null aux v w L S σ = some (c1, Pr)) (hO : oP Pr) : Go M d (some pc, L, S, σ) c1 := by
  cases h
  intro p l e R s m args below meth c w0 A Q C k H locs ls hP hS hl
  exact lv_null C.1 C.2.1 hE.1 (k H locs ls hP hS hl)
theorem gs_iload {M : Mth} {d : Nat} {P : PL} {pc aux : Nat} {v : Int32} {w : Int64} {L : List (Option Value)} {S : List Value} {σ : MH} {c1 : MC} {Pr : Option Prop} (hPL : PLOK M.2.2.2.2 P) {n : Nat} (hE : okE M P (pc, .iload n, aux, v, w)) (h : stp M pc (.iload n) aux v w L S σ = some (c1, Pr)) (hO : oP Pr) : Go M d (some pc, L, S, σ) c1 := by
  unfold stp at h
  dsimp only at h
  split at h
  · rename_i x hm
    cases h
    intro p l e R s m args below meth c w0 A Q C k H locs ls hP hS hl
    exact lv_iload C.1 C.2.1 hE.1 (lvm_get hl hm) (k H locs ls hP hS hl)
  · cases h
theorem gs_iloadn {M : Mth} {d : Nat} {P : PL} {pc aux : Nat} {v : Int32} {w : Int64} {L : List (Option Value)} {S : List Value} {σ : MH} {c1 : MC} {Pr : Option Prop} (hPL : PLOK M.2.2.2.2 P) {n : Fin 4} (hE : okE M P (pc, .iload_n n, aux, v, w)) (h : stp M pc (.iload_n n) aux v w L S σ = some (c1, Pr)) (hO : oP Pr) : Go M d (some pc, L, S, σ) c1 := by
  unfold stp at h
  dsimp only at h
  split at h
  · rename_i x hm
    cases h
    intro p l e R s m args below meth c w0 A Q C k H locs ls hP hS hl
    exact lv_iload_n C.1 C.2.1 hE.1 rfl (lvm_get hl hm) (k H locs ls hP hS hl)
  · cases h
theorem gs_lload {M : Mth} {d : Nat} {P : PL} {pc aux : Nat} {v : Int32} {w : Int64} {L : List (Option Value)} {S : List Value} {σ : MH} {c1 : MC} {Pr : Option Prop} (hPL : PLOK M.2.2.2.2 P) {n : Nat} (hE : okE M P (pc, .lload n, aux, v, w)) (h : stp M pc (.lload n) aux v w L S σ = some (c1, Pr)) (hO : oP Pr) : Go M d (some pc, L, S, σ) c1 := by
  unfold stp at h
  dsimp only at h
  split at h
  · rename_i x hm
    cases h
    intro p l e R s m args below meth c w0 A Q C k H locs ls hP hS hl
    exact lv_lload C.1 C.2.1 hE.1 (lvm_get hl hm) (k H locs ls hP hS hl)
  · cases h
theorem gs_lloadn {M : Mth} {d : Nat} {P : PL} {pc aux : Nat} {v : Int32} {w : Int64} {L : List (Option Value)} {S : List Value} {σ : MH} {c1 : MC} {Pr : Option Prop} (hPL : PLOK M.2.2.2.2 P) {n : Fin 4} (hE : okE M P (pc, .lload_n n, aux, v, w)) (h : stp M pc (.lload_n n) aux v w L S σ = some (c1, Pr)) (hO : oP Pr) : Go M d (some pc, L, S, σ) c1 := by
  unfold stp at h
  dsimp only at h
  split at h
  · rename_i x hm
    cases h
    intro p l e R s m args below meth c w0 A Q C k H locs ls hP hS hl
    exact lv_lload_n C.1 C.2.1 hE.1 rfl (lvm_get hl hm) (k H locs ls hP hS hl)
  · cases h
theorem gs_aload {M : Mth} {d : Nat} {P : PL} {pc aux : Nat} {v : Int32} {w : Int64} {L : List (Option Value)} {S : List Value} {σ : MH} {c1 : MC} {Pr : Option Prop} (hPL : PLOK M.2.2.2.2 P) {n : Nat} (hE : okE M P (pc, .aload n, aux, v, w)) (h : stp M pc (.aload n) aux v w L S σ = some (c1, Pr)) (hO : oP Pr) : Go M d (some pc, L, S, σ) c1 := by
  unfold stp at h
  dsimp only at h
  split at h
  · rename_i x hm
    cases h
    intro p l e R s m args below meth c w0 A Q C k H locs ls hP hS hl
    exact lv_aload C.1 C.2.1 hE.1 (lvm_get hl hm) (k H locs ls hP hS hl)
  · rename_i hm
    cases h
    intro p l e R s m args below meth c w0 A Q C k H locs ls hP hS hl
    exact lv_aloadN C.1 C.2.1 hE.1 (lvm_get hl hm) (k H locs ls hP hS hl)
  · rename_i x hm
    cases h
    intro p l e R s m args below meth c w0 A Q C k H locs ls hP hS hl
    exact lv_aload C.1 C.2.1 hE.1 (lvm_get hl hm) (k H locs ls hP hS hl)
  · rename_i x hm
    cases h
    intro p l e R s m args below meth c w0 A Q C k H locs ls hP hS hl
    exact lv_aload C.1 C.2.1 hE.1 (lvm_get hl hm) (k H locs ls hP hS hl)
  · cases h
theorem gs_aloadn {M : Mth} {d : Nat} {P : PL} {pc aux : Nat} {v : Int32} {w : Int64} {L : List (Option Value)} {S : List Value} {σ : MH} {c1 : MC} {Pr : Option Prop} (hPL : PLOK M.2.2.2.2 P) {n : Fin 4} (hE : okE M P (pc, .aload_n n, aux, v, w)) (h : stp M pc (.aload_n n) aux v w L S σ = some (c1, Pr)) (hO : oP Pr) : Go M d (some pc, L, S, σ) c1 := by
  unfold stp at h
  dsimp only at h
  split at h
  · rename_i x hm
    cases h
    intro p l e R s m args below meth c w0 A Q C k H locs ls hP hS hl
    exact lv_aload_n C.1 C.2.1 hE.1 rfl (lvm_get hl hm) (k H locs ls hP hS hl)
  · rename_i hm
    cases h
    intro p l e R s m args below meth c w0 A Q C k H locs ls hP hS hl
    exact lv_aload_nN C.1 C.2.1 hE.1 rfl (lvm_get hl hm) (k H locs ls hP hS hl)
  · rename_i x hm
    cases h
    intro p l e R s m args below meth c w0 A Q C k H locs ls hP hS hl
    exact lv_aload_n C.1 C.2.1 hE.1 rfl (lvm_get hl hm) (k H locs ls hP hS hl)
  · rename_i x hm
    cases h
    intro p l e R s m args below meth c w0 A Q C k H locs ls hP hS hl
    exact lv_aload_n C.1 C.2.1 hE.1 rfl (lvm_get hl hm) (k H locs ls hP hS hl)
  · cases h
theorem gs_iadd {M : Mth} {d : Nat} {P : PL} {pc aux : Nat} {v : Int32} {w : Int64} {L : List (Option Value)} {S : List Value} {σ : MH} {c1 : MC} {Pr : Option Prop} (hPL : PLOK M.2.2.2.2 P) (hE : okE M P (pc, .iadd, aux, v, w)) (h : stp M pc .iadd aux v w L S σ = some (c1, Pr)) (hO : oP Pr) : Go M d (some pc, L, S, σ) c1 := by
  unfold stp at h
  dsimp only at h
  split at h
  · rename_i y x S
    cases h
    intro p l e R s m args below meth c w0 A Q C k H locs ls hP hS hl
    exact lv_iadd C.1 C.2.1 hE.1 (k H locs ls hP hS hl)
  · cases h
theorem gs_isub {M : Mth} {d : Nat} {P : PL} {pc aux : Nat} {v : Int32} {w : Int64} {L : List (Option Value)} {S : List Value} {σ : MH} {c1 : MC} {Pr : Option Prop} (hPL : PLOK M.2.2.2.2 P) (hE : okE M P (pc, .isub, aux, v, w)) (h : stp M pc .isub aux v w L S σ = some (c1, Pr)) (hO : oP Pr) : Go M d (some pc, L, S, σ) c1 := by
  unfold stp at h
  dsimp only at h
  split at h
  · rename_i y x S
    cases h
    intro p l e R s m args below meth c w0 A Q C k H locs ls hP hS hl
    exact lv_isub C.1 C.2.1 hE.1 (k H locs ls hP hS hl)
  · cases h
theorem gs_imul {M : Mth} {d : Nat} {P : PL} {pc aux : Nat} {v : Int32} {w : Int64} {L : List (Option Value)} {S : List Value} {σ : MH} {c1 : MC} {Pr : Option Prop} (hPL : PLOK M.2.2.2.2 P) (hE : okE M P (pc, .imul, aux, v, w)) (h : stp M pc .imul aux v w L S σ = some (c1, Pr)) (hO : oP Pr) : Go M d (some pc, L, S, σ) c1 := by
  unfold stp at h
  dsimp only at h
  split at h
  · rename_i y x S
    cases h
    intro p l e R s m args below meth c w0 A Q C k H locs ls hP hS hl
    exact lv_imul C.1 C.2.1 hE.1 (k H locs ls hP hS hl)
  · cases h
theorem gs_iand {M : Mth} {d : Nat} {P : PL} {pc aux : Nat} {v : Int32} {w : Int64} {L : List (Option Value)} {S : List Value} {σ : MH} {c1 : MC} {Pr : Option Prop} (hPL : PLOK M.2.2.2.2 P) (hE : okE M P (pc, .iand, aux, v, w)) (h : stp M pc .iand aux v w L S σ = some (c1, Pr)) (hO : oP Pr) : Go M d (some pc, L, S, σ) c1 := by
  unfold stp at h
  dsimp only at h
  split at h
  · rename_i y x S
    cases h
    intro p l e R s m args below meth c w0 A Q C k H locs ls hP hS hl
    exact lv_iand C.1 C.2.1 hE.1 (k H locs ls hP hS hl)
  · cases h
theorem gs_ior {M : Mth} {d : Nat} {P : PL} {pc aux : Nat} {v : Int32} {w : Int64} {L : List (Option Value)} {S : List Value} {σ : MH} {c1 : MC} {Pr : Option Prop} (hPL : PLOK M.2.2.2.2 P) (hE : okE M P (pc, .ior, aux, v, w)) (h : stp M pc .ior aux v w L S σ = some (c1, Pr)) (hO : oP Pr) : Go M d (some pc, L, S, σ) c1 := by
  unfold stp at h
  dsimp only at h
  split at h
  · rename_i y x S
    cases h
    intro p l e R s m args below meth c w0 A Q C k H locs ls hP hS hl
    exact lv_ior C.1 C.2.1 hE.1 (k H locs ls hP hS hl)
  · cases h
theorem gs_ixor {M : Mth} {d : Nat} {P : PL} {pc aux : Nat} {v : Int32} {w : Int64} {L : List (Option Value)} {S : List Value} {σ : MH} {c1 : MC} {Pr : Option Prop} (hPL : PLOK M.2.2.2.2 P) (hE : okE M P (pc, .ixor, aux, v, w)) (h : stp M pc .ixor aux v w L S σ = some (c1, Pr)) (hO : oP Pr) : Go M d (some pc, L, S, σ) c1 := by
  unfold stp at h
  dsimp only at h
  split at h
  · rename_i y x S
    cases h
    intro p l e R s m args below meth c w0 A Q C k H locs ls hP hS hl
    exact lv_ixor C.1 C.2.1 hE.1 (k H locs ls hP hS hl)
  · cases h
theorem gs_ishl {M : Mth} {d : Nat} {P : PL} {pc aux : Nat} {v : Int32} {w : Int64} {L : List (Option Value)} {S : List Value} {σ : MH} {c1 : MC} {Pr : Option Prop} (hPL : PLOK M.2.2.2.2 P) (hE : okE M P (pc, .ishl, aux, v, w)) (h : stp M pc .ishl aux v w L S σ = some (c1, Pr)) (hO : oP Pr) : Go M d (some pc, L, S, σ) c1 := by
  unfold stp at h
  dsimp only at h
  split at h
  · rename_i y x S
    cases h
    intro p l e R s m args below meth c w0 A Q C k H locs ls hP hS hl
    exact lv_ishl C.1 C.2.1 hE.1 (k H locs ls hP hS hl)
  · cases h
theorem gs_ishr {M : Mth} {d : Nat} {P : PL} {pc aux : Nat} {v : Int32} {w : Int64} {L : List (Option Value)} {S : List Value} {σ : MH} {c1 : MC} {Pr : Option Prop} (hPL : PLOK M.2.2.2.2 P) (hE : okE M P (pc, .ishr, aux, v, w)) (h : stp M pc .ishr aux v w L S σ = some (c1, Pr)) (hO : oP Pr) : Go M d (some pc, L, S, σ) c1 := by
  unfold stp at h
  dsimp only at h
  split at h
  · rename_i y x S
    cases h
    intro p l e R s m args below meth c w0 A Q C k H locs ls hP hS hl
    exact lv_ishr C.1 C.2.1 hE.1 (k H locs ls hP hS hl)
  · cases h
theorem gs_iushr {M : Mth} {d : Nat} {P : PL} {pc aux : Nat} {v : Int32} {w : Int64} {L : List (Option Value)} {S : List Value} {σ : MH} {c1 : MC} {Pr : Option Prop} (hPL : PLOK M.2.2.2.2 P) (hE : okE M P (pc, .iushr, aux, v, w)) (h : stp M pc .iushr aux v w L S σ = some (c1, Pr)) (hO : oP Pr) : Go M d (some pc, L, S, σ) c1 := by
  unfold stp at h
  dsimp only at h
  split at h
  · rename_i y x S
    cases h
    intro p l e R s m args below meth c w0 A Q C k H locs ls hP hS hl
    exact lv_iushr C.1 C.2.1 hE.1 rfl (k H locs ls hP hS hl)
  · cases h
theorem gs_idiv {M : Mth} {d : Nat} {P : PL} {pc aux : Nat} {v : Int32} {w : Int64} {L : List (Option Value)} {S : List Value} {σ : MH} {c1 : MC} {Pr : Option Prop} (hPL : PLOK M.2.2.2.2 P) (hE : okE M P (pc, .idiv, aux, v, w)) (h : stp M pc .idiv aux v w L S σ = some (c1, Pr)) (hO : oP Pr) : Go M d (some pc, L, S, σ) c1 := by
  unfold stp at h
  dsimp only at h
  split at h
  · rename_i y x S
    cases h
    dsimp only [oP] at hO
    intro p l e R s m args below meth c w0 A Q C k H locs ls hP hS hl
    exact lv_idiv C.1 C.2.1 hE.1 hO (k H locs ls hP hS hl)
  · cases h
theorem gs_irem {M : Mth} {d : Nat} {P : PL} {pc aux : Nat} {v : Int32} {w : Int64} {L : List (Option Value)} {S : List Value} {σ : MH} {c1 : MC} {Pr : Option Prop} (hPL : PLOK M.2.2.2.2 P) (hE : okE M P (pc, .irem, aux, v, w)) (h : stp M pc .irem aux v w L S σ = some (c1, Pr)) (hO : oP Pr) : Go M d (some pc, L, S, σ) c1 := by
  unfold stp at h
  dsimp only at h
  split at h
  · rename_i y x S
    cases h
    dsimp only [oP] at hO
    intro p l e R s m args below meth c w0 A Q C k H locs ls hP hS hl
    exact lv_irem C.1 C.2.1 hE.1 hO (k H locs ls hP hS hl)
  · cases h
theorem gs_ladd {M : Mth} {d : Nat} {P : PL} {pc aux : Nat} {v : Int32} {w : Int64} {L : List (Option Value)} {S : List Value} {σ : MH} {c1 : MC} {Pr : Option Prop} (hPL : PLOK M.2.2.2.2 P) (hE : okE M P (pc, .ladd, aux, v, w)) (h : stp M pc .ladd aux v w L S σ = some (c1, Pr)) (hO : oP Pr) : Go M d (some pc, L, S, σ) c1 := by
  unfold stp at h
  dsimp only at h
  split at h
  · rename_i y x S
    cases h
    intro p l e R s m args below meth c w0 A Q C k H locs ls hP hS hl
    exact lv_ladd C.1 C.2.1 hE.1 (k H locs ls hP hS hl)
  · cases h
theorem gs_lsub {M : Mth} {d : Nat} {P : PL} {pc aux : Nat} {v : Int32} {w : Int64} {L : List (Option Value)} {S : List Value} {σ : MH} {c1 : MC} {Pr : Option Prop} (hPL : PLOK M.2.2.2.2 P) (hE : okE M P (pc, .lsub, aux, v, w)) (h : stp M pc .lsub aux v w L S σ = some (c1, Pr)) (hO : oP Pr) : Go M d (some pc, L, S, σ) c1 := by
  unfold stp at h
  dsimp only at h
  split at h
  · rename_i y x S
    cases h
    intro p l e R s m args below meth c w0 A Q C k H locs ls hP hS hl
    exact lv_lsub C.1 C.2.1 hE.1 (k H locs ls hP hS hl)
  · cases h
theorem gs_lmul {M : Mth} {d : Nat} {P : PL} {pc aux : Nat} {v : Int32} {w : Int64} {L : List (Option Value)} {S : List Value} {σ : MH} {c1 : MC} {Pr : Option Prop} (hPL : PLOK M.2.2.2.2 P) (hE : okE M P (pc, .lmul, aux, v, w)) (h : stp M pc .lmul aux v w L S σ = some (c1, Pr)) (hO : oP Pr) : Go M d (some pc, L, S, σ) c1 := by
  unfold stp at h
  dsimp only at h
  split at h
  · rename_i y x S
    cases h
    intro p l e R s m args below meth c w0 A Q C k H locs ls hP hS hl
    exact lv_lmul C.1 C.2.1 hE.1 (k H locs ls hP hS hl)
  · cases h
theorem gs_ldiv {M : Mth} {d : Nat} {P : PL} {pc aux : Nat} {v : Int32} {w : Int64} {L : List (Option Value)} {S : List Value} {σ : MH} {c1 : MC} {Pr : Option Prop} (hPL : PLOK M.2.2.2.2 P) (hE : okE M P (pc, .ldiv, aux, v, w)) (h : stp M pc .ldiv aux v w L S σ = some (c1, Pr)) (hO : oP Pr) : Go M d (some pc, L, S, σ) c1 := by
  unfold stp at h
  dsimp only at h
  split at h
  · rename_i y x S
    cases h
    dsimp only [oP] at hO
    intro p l e R s m args below meth c w0 A Q C k H locs ls hP hS hl
    exact lv_ldiv C.1 C.2.1 hE.1 hO (k H locs ls hP hS hl)
  · cases h
theorem gs_lrem {M : Mth} {d : Nat} {P : PL} {pc aux : Nat} {v : Int32} {w : Int64} {L : List (Option Value)} {S : List Value} {σ : MH} {c1 : MC} {Pr : Option Prop} (hPL : PLOK M.2.2.2.2 P) (hE : okE M P (pc, .lrem, aux, v, w)) (h : stp M pc .lrem aux v w L S σ = some (c1, Pr)) (hO : oP Pr) : Go M d (some pc, L, S, σ) c1 := by
  unfold stp at h
  dsimp only at h
  split at h
  · rename_i y x S
    cases h
    dsimp only [oP] at hO
    intro p l e R s m args below meth c w0 A Q C k H locs ls hP hS hl
    exact lv_lrem C.1 C.2.1 hE.1 hO (k H locs ls hP hS hl)
  · cases h
theorem gs_lcmp {M : Mth} {d : Nat} {P : PL} {pc aux : Nat} {v : Int32} {w : Int64} {L : List (Option Value)} {S : List Value} {σ : MH} {c1 : MC} {Pr : Option Prop} (hPL : PLOK M.2.2.2.2 P) (hE : okE M P (pc, .lcmp, aux, v, w)) (h : stp M pc .lcmp aux v w L S σ = some (c1, Pr)) (hO : oP Pr) : Go M d (some pc, L, S, σ) c1 := by
  unfold stp at h
  dsimp only at h
  split at h
  · rename_i y x S
    cases h
    intro p l e R s m args below meth c w0 A Q C k H locs ls hP hS hl
    exact W.lcmp C.1 C.2.1 hE.1 (k H locs ls hP hS hl)
  · cases h
theorem gs_ineg {M : Mth} {d : Nat} {P : PL} {pc aux : Nat} {v : Int32} {w : Int64} {L : List (Option Value)} {S : List Value} {σ : MH} {c1 : MC} {Pr : Option Prop} (hPL : PLOK M.2.2.2.2 P) (hE : okE M P (pc, .ineg, aux, v, w)) (h : stp M pc .ineg aux v w L S σ = some (c1, Pr)) (hO : oP Pr) : Go M d (some pc, L, S, σ) c1 := by
  unfold stp at h
  dsimp only at h
  split at h
  · rename_i x S
    cases h
    intro p l e R s m args below meth c w0 A Q C k H locs ls hP hS hl
    exact lv_ineg C.1 C.2.1 hE.1 (k H locs ls hP hS hl)
  · cases h
theorem gs_i2l {M : Mth} {d : Nat} {P : PL} {pc aux : Nat} {v : Int32} {w : Int64} {L : List (Option Value)} {S : List Value} {σ : MH} {c1 : MC} {Pr : Option Prop} (hPL : PLOK M.2.2.2.2 P) (hE : okE M P (pc, .i2l, aux, v, w)) (h : stp M pc .i2l aux v w L S σ = some (c1, Pr)) (hO : oP Pr) : Go M d (some pc, L, S, σ) c1 := by
  unfold stp at h
  dsimp only at h
  split at h
  · rename_i x S
    cases h
    intro p l e R s m args below meth c w0 A Q C k H locs ls hP hS hl
    exact lv_i2l C.1 C.2.1 hE.1 rfl (k H locs ls hP hS hl)
  · cases h
theorem gs_l2i {M : Mth} {d : Nat} {P : PL} {pc aux : Nat} {v : Int32} {w : Int64} {L : List (Option Value)} {S : List Value} {σ : MH} {c1 : MC} {Pr : Option Prop} (hPL : PLOK M.2.2.2.2 P) (hE : okE M P (pc, .l2i, aux, v, w)) (h : stp M pc .l2i aux v w L S σ = some (c1, Pr)) (hO : oP Pr) : Go M d (some pc, L, S, σ) c1 := by
  unfold stp at h
  dsimp only at h
  split at h
  · rename_i x S
    cases h
    intro p l e R s m args below meth c w0 A Q C k H locs ls hP hS hl
    exact lv_l2i C.1 C.2.1 hE.1 rfl (k H locs ls hP hS hl)
  · cases h
theorem gs_i2b {M : Mth} {d : Nat} {P : PL} {pc aux : Nat} {v : Int32} {w : Int64} {L : List (Option Value)} {S : List Value} {σ : MH} {c1 : MC} {Pr : Option Prop} (hPL : PLOK M.2.2.2.2 P) (hE : okE M P (pc, .i2b, aux, v, w)) (h : stp M pc .i2b aux v w L S σ = some (c1, Pr)) (hO : oP Pr) : Go M d (some pc, L, S, σ) c1 := by
  unfold stp at h
  dsimp only at h
  split at h
  · rename_i x S
    cases h
    intro p l e R s m args below meth c w0 A Q C k H locs ls hP hS hl
    exact lv_i2b C.1 C.2.1 hE.1 rfl (k H locs ls hP hS hl)
  · cases h
theorem gs_i2c {M : Mth} {d : Nat} {P : PL} {pc aux : Nat} {v : Int32} {w : Int64} {L : List (Option Value)} {S : List Value} {σ : MH} {c1 : MC} {Pr : Option Prop} (hPL : PLOK M.2.2.2.2 P) (hE : okE M P (pc, .i2c, aux, v, w)) (h : stp M pc .i2c aux v w L S σ = some (c1, Pr)) (hO : oP Pr) : Go M d (some pc, L, S, σ) c1 := by
  unfold stp at h
  dsimp only at h
  split at h
  · rename_i x S
    cases h
    intro p l e R s m args below meth c w0 A Q C k H locs ls hP hS hl
    exact lv_i2c C.1 C.2.1 hE.1 rfl (k H locs ls hP hS hl)
  · cases h
theorem gs_dup {M : Mth} {d : Nat} {P : PL} {pc aux : Nat} {v : Int32} {w : Int64} {L : List (Option Value)} {S : List Value} {σ : MH} {c1 : MC} {Pr : Option Prop} (hPL : PLOK M.2.2.2.2 P) (hE : okE M P (pc, .dup, aux, v, w)) (h : stp M pc .dup aux v w L S σ = some (c1, Pr)) (hO : oP Pr) : Go M d (some pc, L, S, σ) c1 := by
  unfold stp at h
  dsimp only at h
  split at h
  · rename_i a S
    split at h
    case isFalse => cases h
    rename_i hI
    cases h
    intro p l e R s m args below meth c w0 A Q C k H locs ls hP hS hl
    exact lv_dup C.1 C.2.1 hE.1 ((mv_cat w0 a).trans (Nat.eq_of_beq_eq_true hI)) (k H locs ls hP hS hl)
  · cases h
theorem gs_pop {M : Mth} {d : Nat} {P : PL} {pc aux : Nat} {v : Int32} {w : Int64} {L : List (Option Value)} {S : List Value} {σ : MH} {c1 : MC} {Pr : Option Prop} (hPL : PLOK M.2.2.2.2 P) (hE : okE M P (pc, .pop, aux, v, w)) (h : stp M pc .pop aux v w L S σ = some (c1, Pr)) (hO : oP Pr) : Go M d (some pc, L, S, σ) c1 := by
  unfold stp at h
  dsimp only at h
  split at h
  · rename_i a S
    split at h
    case isFalse => cases h
    rename_i hI
    cases h
    intro p l e R s m args below meth c w0 A Q C k H locs ls hP hS hl
    exact lv_pop C.1 C.2.1 hE.1 ((mv_cat w0 a).trans (Nat.eq_of_beq_eq_true hI)) (k H locs ls hP hS hl)
  · cases h
theorem gs_dup2 {M : Mth} {d : Nat} {P : PL} {pc aux : Nat} {v : Int32} {w : Int64} {L : List (Option Value)} {S : List Value} {σ : MH} {c1 : MC} {Pr : Option Prop} (hPL : PLOK M.2.2.2.2 P) (hE : okE M P (pc, .dup2, aux, v, w)) (h : stp M pc .dup2 aux v w L S σ = some (c1, Pr)) (hO : oP Pr) : Go M d (some pc, L, S, σ) c1 := by
  unfold stp at h
  dsimp only at h
  split at h
  · rename_i a b S
    split at h
    case isFalse => cases h
    rename_i hI
    cases h
    intro p l e R s m args below meth c w0 A Q C k H locs ls hP hS hl
    exact lv_dup2_11 C.1 C.2.1 hE.1 ((mv_cat w0 a).trans (Nat.eq_of_beq_eq_true (Bool.and_eq_true_iff.mp hI).1)) ((mv_cat w0 b).trans (Nat.eq_of_beq_eq_true (Bool.and_eq_true_iff.mp hI).2)) (k H locs ls hP hS hl)
  · cases h
theorem gs_goto {M : Mth} {d : Nat} {P : PL} {pc aux : Nat} {v : Int32} {w : Int64} {L : List (Option Value)} {S : List Value} {σ : MH} {c1 : MC} {Pr : Option Prop} (hPL : PLOK M.2.2.2.2 P) {off : Int} (hE : okE M P (pc, .goto off, aux, v, w)) (h : stp M pc (.goto off) aux v w L S σ = some (c1, Pr)) (hO : oP Pr) : Go M d (some pc, L, S, σ) c1 := by
  cases h
  intro p l e R s m args below meth c w0 A Q C k H locs ls hP hS hl
  exact lv_goto C.1 C.2.1 hE.1 (of_decide_eq_true hE.2) (k H locs ls hP hS hl)
theorem gs_iaload {M : Mth} {d : Nat} {P : PL} {pc aux : Nat} {v : Int32} {w : Int64} {L : List (Option Value)} {S : List Value} {σ : MH} {c1 : MC} {Pr : Option Prop} (hPL : PLOK M.2.2.2.2 P) (hE : okE M P (pc, .iaload, aux, v, w)) (h : stp M pc .iaload aux v w L S σ = some (c1, Pr)) (hO : oP Pr) : Go M d (some pc, L, S, σ) c1 := by
  unfold stp at h
  dsimp only at h
  split at h
  · rename_i i a S
    cases h
    dsimp only [oP] at hO
    intro p l e R s m args below meth c w0 A Q C k H locs ls hP hS hl
    exact va_iald C.1 C.2.1 C.2.2.2.2.2.1.1 hP a 0 ((wsO_get (shk_lt hO.1.1 (by omega))).trans (by rw [ent_i hO.1.1])) rfl (by rw [hO.1.2]; exact inb_in hO.2) hE.1 (k H locs ls hP hS hl)
  · cases h
theorem gs_baload {M : Mth} {d : Nat} {P : PL} {pc aux : Nat} {v : Int32} {w : Int64} {L : List (Option Value)} {S : List Value} {σ : MH} {c1 : MC} {Pr : Option Prop} (hPL : PLOK M.2.2.2.2 P) (hE : okE M P (pc, .baload, aux, v, w)) (h : stp M pc .baload aux v w L S σ = some (c1, Pr)) (hO : oP Pr) : Go M d (some pc, L, S, σ) c1 := by
  unfold stp at h
  dsimp only at h
  split at h
  · rename_i i a S
    cases h
    dsimp only [oP] at hO
    intro p l e R s m args below meth c w0 A Q C k H locs ls hP hS hl
    exact va_bald C.1 C.2.1 C.2.2.2.2.2.1.1 hP a 2 ((wsO_get (shk_lt hO.1.1 (by omega))).trans (by rw [ent_b hO.1.1])) rfl (by rw [hO.1.2]; exact inb_in hO.2) hE.1 (k H locs ls hP hS hl)
  · cases h
theorem gs_laload {M : Mth} {d : Nat} {P : PL} {pc aux : Nat} {v : Int32} {w : Int64} {L : List (Option Value)} {S : List Value} {σ : MH} {c1 : MC} {Pr : Option Prop} (hPL : PLOK M.2.2.2.2 P) (hE : okE M P (pc, .laload, aux, v, w)) (h : stp M pc .laload aux v w L S σ = some (c1, Pr)) (hO : oP Pr) : Go M d (some pc, L, S, σ) c1 := by
  unfold stp at h
  dsimp only at h
  split at h
  · rename_i i a S
    cases h
    dsimp only [oP] at hO
    intro p l e R s m args below meth c w0 A Q C k H locs ls hP hS hl
    exact va_lald C.1 C.2.1 C.2.2.2.2.2.1.1 hP a 1 ((wsO_get (shk_lt hO.1.1 (by omega))).trans (by rw [ent_j hO.1.1])) rfl (by rw [hO.1.2]; exact inb_in hO.2) hE.1 (k H locs ls hP hS hl)
  · cases h
theorem gs_aaload {M : Mth} {d : Nat} {P : PL} {pc aux : Nat} {v : Int32} {w : Int64} {L : List (Option Value)} {S : List Value} {σ : MH} {c1 : MC} {Pr : Option Prop} (hPL : PLOK M.2.2.2.2 P) (hE : okE M P (pc, .aaload, aux, v, w)) (h : stp M pc .aaload aux v w L S σ = some (c1, Pr)) (hO : oP Pr) : Go M d (some pc, L, S, σ) c1 := by
  unfold stp at h
  dsimp only at h
  split at h
  · rename_i i a S
    cases h
    dsimp only [oP] at hO
    intro p l e R s m args below meth c w0 A Q C k H locs ls hP hS hl
    have hlt : i.toNatClampNeg < aux := Nat.not_le.mp fun q => inb_in hO.2 (Or.inr q)
    have hsh := hO.1.2
    have ha : (wsO w0 σ)[a]? = some (w0.2.2.1 a, .inl (w0.2.1.2.2.2, aux, .inr (.inr (.inr (.inr (fun i => some (w0.2.2.1 (rfv a i)))))))) := (wsO_get (shk_lt hO.1.1 (by omega))).trans (by rw [ent_r hO.1.1, hsh])
    exact W.aald (v := .ref (w0.2.2.1 (rfv a i.toNatClampNeg))) (ty := .array .int) C.1 C.2.1 (hP a _ ha) ((C.2.2.2.2.2.1.1.2 3 _ rfl).1 aux (fun j => .ref (w0.2.2.1 (rfv a j)))) rfl (fun q => by cases q) (by show ¬ (i < 0 ∨ (arrV _ _ _).slots.size ≤ _); rw [arrV_size]; exact inb_in hO.2) (by show (arrV _ _ _).slots[_]? = _; rw [arrV_read _ _ hlt]; rfl) rfl rfl hE.1 (k H locs ls hP hS hl)
  · cases h
theorem gs_iastore {M : Mth} {d : Nat} {P : PL} {pc aux : Nat} {v : Int32} {w : Int64} {L : List (Option Value)} {S : List Value} {σ : MH} {c1 : MC} {Pr : Option Prop} (hPL : PLOK M.2.2.2.2 P) (hE : okE M P (pc, .iastore, aux, v, w)) (h : stp M pc .iastore aux v w L S σ = some (c1, Pr)) (hO : oP Pr) : Go M d (some pc, L, S, σ) c1 := by
  unfold stp at h
  dsimp only at h
  split at h
  · rename_i x i a S
    cases h
    dsimp only [oP] at hO
    intro p l e R s m args below meth c w0 A Q C k H locs ls hP hS hl
    exact va_iast C.1 C.2.1 C.2.2.2.2.2.1.1 hP (va_D_ws C.2.2.2.2.2.2.2.1 C.2.2.2.2.2.2.2.2.1) hS a 0 ((wsO_get (shk_lt hO.1.1 (by omega))).trans (by rw [ent_i hO.1.1])) rfl (by rw [hO.1.2]; exact inb_in hO.2) hE.1 (fun H1 locs1 hP1 _ hS1 => k H1 locs1 ls (by rw [← wsO_sI hO.1.1]; exact hP1) hS1 hl)
  · cases h
theorem gs_bastore {M : Mth} {d : Nat} {P : PL} {pc aux : Nat} {v : Int32} {w : Int64} {L : List (Option Value)} {S : List Value} {σ : MH} {c1 : MC} {Pr : Option Prop} (hPL : PLOK M.2.2.2.2 P) (hE : okE M P (pc, .bastore, aux, v, w)) (h : stp M pc .bastore aux v w L S σ = some (c1, Pr)) (hO : oP Pr) : Go M d (some pc, L, S, σ) c1 := by
  unfold stp at h
  dsimp only at h
  split at h
  · rename_i x i a S
    cases h
    dsimp only [oP] at hO
    intro p l e R s m args below meth c w0 A Q C k H locs ls hP hS hl
    exact va_bast C.1 C.2.1 C.2.2.2.2.2.1.1 hP (va_D_ws C.2.2.2.2.2.2.2.1 C.2.2.2.2.2.2.2.2.1) hS a 2 ((wsO_get (shk_lt hO.1.1 (by omega))).trans (by rw [ent_b hO.1.1])) rfl (by rw [hO.1.2]; exact inb_in hO.2) hE.1 (fun H1 locs1 hP1 _ hS1 => k H1 locs1 ls (by rw [← wsO_sB hO.1.1]; exact hP1) hS1 hl)
  · cases h
theorem gs_lastore {M : Mth} {d : Nat} {P : PL} {pc aux : Nat} {v : Int32} {w : Int64} {L : List (Option Value)} {S : List Value} {σ : MH} {c1 : MC} {Pr : Option Prop} (hPL : PLOK M.2.2.2.2 P) (hE : okE M P (pc, .lastore, aux, v, w)) (h : stp M pc .lastore aux v w L S σ = some (c1, Pr)) (hO : oP Pr) : Go M d (some pc, L, S, σ) c1 := by
  unfold stp at h
  dsimp only at h
  split at h
  · rename_i x i a S
    cases h
    dsimp only [oP] at hO
    intro p l e R s m args below meth c w0 A Q C k H locs ls hP hS hl
    exact va_last C.1 C.2.1 C.2.2.2.2.2.1.1 hP (va_D_ws C.2.2.2.2.2.2.2.1 C.2.2.2.2.2.2.2.2.1) hS a 1 ((wsO_get (shk_lt hO.1.1 (by omega))).trans (by rw [ent_j hO.1.1])) rfl (by rw [hO.1.2]; exact inb_in hO.2) hE.1 (fun H1 locs1 hP1 _ hS1 => k H1 locs1 ls (by rw [← wsO_sJ hO.1.1]; exact hP1) hS1 hl)
  · cases h
theorem gs_alen {M : Mth} {d : Nat} {P : PL} {pc aux : Nat} {v : Int32} {w : Int64} {L : List (Option Value)} {S : List Value} {σ : MH} {c1 : MC} {Pr : Option Prop} (hPL : PLOK M.2.2.2.2 P) (hE : okE M P (pc, .arraylength, aux, v, w)) (h : stp M pc .arraylength aux v w L S σ = some (c1, Pr)) (hO : oP Pr) : Go M d (some pc, L, S, σ) c1 := by
  unfold stp at h
  dsimp only at h
  split at h
  · rename_i a S
    cases h
    dsimp only [oP] at hO
    intro p l e R s m args below meth c w0 A Q C k H locs ls hP hS hl
    rcases hO with hO | hO
    · exact va_alen C.1 C.2.1 C.2.2.2.2.2.1.1 hP a 0 ((wsO_get (shk_lt hO.1 (by omega))).trans (by rw [ent_i hO.1])) rfl (by rw [hO.2]; exact of_decide_eq_true hE.2) hE.1 (k H locs ls hP hS hl)
    · exact va_alen C.1 C.2.1 C.2.2.2.2.2.1.1 hP a 1 ((wsO_get (shk_lt hO.1 (by omega))).trans (by rw [ent_j hO.1])) rfl (by rw [hO.2]; exact of_decide_eq_true hE.2) hE.1 (k H locs ls hP hS hl)
  · cases h
theorem gs_getfield {M : Mth} {d : Nat} {P : PL} {pc aux : Nat} {v : Int32} {w : Int64} {L : List (Option Value)} {S : List Value} {σ : MH} {c1 : MC} {Pr : Option Prop} (hPL : PLOK M.2.2.2.2 P) {n : Nat} (hE : okE M P (pc, .getfield n, aux, v, w)) (h : stp M pc (.getfield n) aux v w L S σ = some (c1, Pr)) (hO : oP Pr) : Go M d (some pc, L, S, σ) c1 := by
  unfold stp at h
  dsimp only at h
  split at h
  · rename_i a S
    cases h
    dsimp only [oP] at hO
    intro p l e R s m args below meth c w0 A Q C k H locs ls hP hS hl
    obtain ⟨Cn, T, N, ref, h1, h2, h3, h4, h5, h6, h7, h8, h9, h10, h11⟩ := PL_f hPL hE.2
    have hlt : aux / 64 < 20 := h2
    have hsh := h4 a hO
    have ha : (wsO w0 σ)[a]? = some (w0.2.2.1 a, .inr (aux / 64, entF w0 σ a)) := (wsO_get (shk_lt hO (by omega))).trans (by rw [ent_o hO h2])
    refine va_get (D := w0.1) (ci := aux / 64) (C := Cn) (T := T) (N := N) C.1 C.2.1 C.2.2.2.2.1 h5 C.2.2.2.1 C.2.2.2.2.2.1.1 hP a ha h1 (aux % 64) h3 (C.2.2.2.2.1 _ h6) ?_ (v := mv w0 (if fkr (aux / 64) (aux % 64) = true then .ref (rfv a (aux % 64)) else .int (σ.1 a (aux % 64)))) ?_ hE.1 (k H locs ls hP hS hl)
    · rcases h7 with h7 | h7
      · intro x hx; rw [h7]; exact hx
      · intro x hx; exact u_same (C.2.2.2.2.1 _ h7) x hx
    · rw [entF_get (by rw [hsh]; exact h3), hO]
      split <;> rfl
  · cases h
theorem gs_putfield {M : Mth} {d : Nat} {P : PL} {pc aux : Nat} {v : Int32} {w : Int64} {L : List (Option Value)} {S : List Value} {σ : MH} {c1 : MC} {Pr : Option Prop} (hPL : PLOK M.2.2.2.2 P) {n : Nat} (hE : okE M P (pc, .putfield n, aux, v, w)) (h : stp M pc (.putfield n) aux v w L S σ = some (c1, Pr)) (hO : oP Pr) : Go M d (some pc, L, S, σ) c1 := by
  unfold stp at h
  dsimp only at h
  split at h
  · rename_i x a S
    split at h
    case isFalse => cases h
    rename_i hI
    cases h
    dsimp only [oP] at hO
    intro p l e R s m args below meth c w0 A Q C k H locs ls hP hS hl
    obtain ⟨Cn, T, N, ref, h1, h2, h3, h4, h5, h6, h7, h8, h9, ⟨ty, h10⟩, h11⟩ := PL_f hPL hE.2
    obtain ⟨hI1, hI2⟩ := Bool.and_eq_true_iff.mp hI
    have hO1 : fkr (aux / 64) (aux % 64) = false := by simpa using hI1
    have hO2 : fnl (aux / 64) (aux % 64) = false := by simpa using hI2
    have hO3 : fzr (aux / 64) (aux % 64) = true → bz x = true := fun q => by rw [if_pos q] at hO; exact hO.2
    have hO : shk a = aux / 64 := by
      split at hO
      · exact hO.1
      · exact hO
    have hlt : aux / 64 < 20 := h2
    have hsh := h4 a hO
    have ha : (wsO w0 σ)[a]? = some (w0.2.2.1 a, .inr (aux / 64, entF w0 σ a)) := (wsO_get (shk_lt hO (by omega))).trans (by rw [ent_o hO h2])
    have hnf : narrow (if fzr (aux / 64) (aux % 64) = true then .boolean else .int) (.int x) = .int x ∧ fits (if fzr (aux / 64) (aux % 64) = true then .boolean else .int) (.int x) = true := by
      by_cases hz : fzr (aux / 64) (aux % 64) = true
      · rw [if_pos hz]
        have hx := hO3 hz
        unfold bz at hx
        simp only [Bool.or_eq_true, beq_iff_eq] at hx
        rcases hx with rfl | rfl <;> exact ⟨by decide, by decide⟩
      · rw [if_neg hz]
        exact ⟨rfl, rfl⟩
    refine va_put (D := w0.1) (ci := aux / 64) (C := Cn) (T := T) (N := N) C.1 C.2.1 C.2.2.2.2.1 h5 ty h10 h11 C.2.2.2.1 C.2.2.2.2.2.1.1 hP (va_D_ws C.2.2.2.2.2.2.2.1 C.2.2.2.2.2.2.2.2.1) hS a ha h1 (aux % 64) h3 (C.2.2.2.2.1 _ h6) ?_ (h8.symm.trans hO2) (h9 hO1) hnf.1 hnf.2 (by simp [entF]; rw [hsh]; exact h3) hE.1 (fun H1 locs1 hP1 _ hS1 => k H1 locs1 ls (by rw [← wsO_sF hO h2 (by rw [hsh]; exact h3) hO1]; exact hP1) hS1 hl)
    rcases h7 with h7 | h7
    · intro x hx; rw [h7]; exact hx
    · intro x hx; exact u_same (C.2.2.2.2.1 _ h7) x hx
  · cases h
theorem gs_istore {M : Mth} {d : Nat} {P : PL} {pc aux : Nat} {v : Int32} {w : Int64} {L : List (Option Value)} {S : List Value} {σ : MH} {c1 : MC} {Pr : Option Prop} (hPL : PLOK M.2.2.2.2 P) {n : Nat} (hE : okE M P (pc, .istore n, aux, v, w)) (h : stp M pc (.istore n) aux v w L S σ = some (c1, Pr)) (hO : oP Pr) : Go M d (some pc, L, S, σ) c1 := by
  unfold stp at h
  dsimp only at h
  split at h
  · rename_i x S
    split at h
    case isFalse => cases h
    rename_i hI
    cases h
    intro p l e R s m args below meth c w0 A Q C k H locs ls hP hS hl
    obtain ⟨ls', e', h'⟩ := lvm_st1 (v := .int x) hl (blt_lt (Bool.and_eq_true_iff.mp hI).1) rfl (Bool.and_eq_true_iff.mp hI).2
    have hE1 := hE.1
    have hx := C.1
    have hb := C.2.1
    intro T hT X
    obtain ⟨t, a1, b1⟩ := k H locs ls' hP hS h' T hT X
    refine ⟨t, ?_, b1⟩
    dsimp only at hE1
    simp only [mv, List.map_cons] at e' ⊢
    jvm_step X.here [X.here.top, ↓top_set X.here.top, hx, hb, hE1, e', Value.isRef, ilen]
    exact a1
  · cases h
theorem gs_istoren {M : Mth} {d : Nat} {P : PL} {pc aux : Nat} {v : Int32} {w : Int64} {L : List (Option Value)} {S : List Value} {σ : MH} {c1 : MC} {Pr : Option Prop} (hPL : PLOK M.2.2.2.2 P) {n : Fin 4} (hE : okE M P (pc, .istore_n n, aux, v, w)) (h : stp M pc (.istore_n n) aux v w L S σ = some (c1, Pr)) (hO : oP Pr) : Go M d (some pc, L, S, σ) c1 := by
  unfold stp at h
  dsimp only at h
  split at h
  · rename_i x S
    split at h
    case isFalse => cases h
    rename_i hI
    cases h
    intro p l e R s m args below meth c w0 A Q C k H locs ls hP hS hl
    obtain ⟨ls', e', h'⟩ := lvm_st1 (v := .int x) hl (blt_lt (Bool.and_eq_true_iff.mp hI).1) rfl (Bool.and_eq_true_iff.mp hI).2
    have hE1 := hE.1
    have hx := C.1
    have hb := C.2.1
    intro T hT X
    obtain ⟨t, a1, b1⟩ := k H locs ls' hP hS h' T hT X
    refine ⟨t, ?_, b1⟩
    dsimp only at hE1
    simp only [mv, List.map_cons] at e' ⊢
    jvm_step X.here [X.here.top, ↓top_set X.here.top, hx, hb, hE1, e', Value.isRef, ilen]
    exact a1
  · cases h
theorem gs_astore {M : Mth} {d : Nat} {P : PL} {pc aux : Nat} {v : Int32} {w : Int64} {L : List (Option Value)} {S : List Value} {σ : MH} {c1 : MC} {Pr : Option Prop} (hPL : PLOK M.2.2.2.2 P) {n : Nat} (hE : okE M P (pc, .astore n, aux, v, w)) (h : stp M pc (.astore n) aux v w L S σ = some (c1, Pr)) (hO : oP Pr) : Go M d (some pc, L, S, σ) c1 := by
  unfold stp at h
  dsimp only at h
  split at h
  · rename_i x S
    split at h
    case isFalse => cases h
    rename_i hI
    cases h
    intro p l e R s m args below meth c w0 A Q C k H locs ls hP hS hl
    obtain ⟨ls', e', h'⟩ := lvm_st1 (v := .ref x) hl (blt_lt (Bool.and_eq_true_iff.mp hI).1) rfl (Bool.and_eq_true_iff.mp hI).2
    have hE1 := hE.1
    have hx := C.1
    have hb := C.2.1
    intro T hT X
    obtain ⟨t, a1, b1⟩ := k H locs ls' hP hS h' T hT X
    refine ⟨t, ?_, b1⟩
    dsimp only at hE1
    simp only [mv, List.map_cons] at e' ⊢
    jvm_step X.here [X.here.top, ↓top_set X.here.top, hx, hb, hE1, e', Value.isRef, ilen]
    exact a1
  · cases h
theorem gs_astoren {M : Mth} {d : Nat} {P : PL} {pc aux : Nat} {v : Int32} {w : Int64} {L : List (Option Value)} {S : List Value} {σ : MH} {c1 : MC} {Pr : Option Prop} (hPL : PLOK M.2.2.2.2 P) {n : Fin 4} (hE : okE M P (pc, .astore_n n, aux, v, w)) (h : stp M pc (.astore_n n) aux v w L S σ = some (c1, Pr)) (hO : oP Pr) : Go M d (some pc, L, S, σ) c1 := by
  unfold stp at h
  dsimp only at h
  split at h
  · rename_i x S
    split at h
    case isFalse => cases h
    rename_i hI
    cases h
    intro p l e R s m args below meth c w0 A Q C k H locs ls hP hS hl
    obtain ⟨ls', e', h'⟩ := lvm_st1 (v := .ref x) hl (blt_lt (Bool.and_eq_true_iff.mp hI).1) rfl (Bool.and_eq_true_iff.mp hI).2
    have hE1 := hE.1
    have hx := C.1
    have hb := C.2.1
    intro T hT X
    obtain ⟨t, a1, b1⟩ := k H locs ls' hP hS h' T hT X
    refine ⟨t, ?_, b1⟩
    dsimp only at hE1
    simp only [mv, List.map_cons] at e' ⊢
    jvm_step X.here [X.here.top, ↓top_set X.here.top, hx, hb, hE1, e', Value.isRef, ilen]
    exact a1
  · cases h
theorem gs_lstore {M : Mth} {d : Nat} {P : PL} {pc aux : Nat} {v : Int32} {w : Int64} {L : List (Option Value)} {S : List Value} {σ : MH} {c1 : MC} {Pr : Option Prop} (hPL : PLOK M.2.2.2.2 P) {n : Nat} (hE : okE M P (pc, .lstore n, aux, v, w)) (h : stp M pc (.lstore n) aux v w L S σ = some (c1, Pr)) (hO : oP Pr) : Go M d (some pc, L, S, σ) c1 := by
  unfold stp at h
  dsimp only at h
  split at h
  · rename_i x S
    split at h
    case isFalse => cases h
    rename_i hI
    cases h
    intro p l e R s m args below meth c w0 A Q C k H locs ls hP hS hl
    obtain ⟨ls', e', h'⟩ := lvm_st2 (v := .long x) hl (blt_lt (Bool.and_eq_true_iff.mp hI).1) rfl (Bool.and_eq_true_iff.mp hI).2
    have hE1 := hE.1
    have hx := C.1
    have hb := C.2.1
    intro T hT X
    obtain ⟨t, a1, b1⟩ := k H locs ls' hP hS h' T hT X
    refine ⟨t, ?_, b1⟩
    dsimp only at hE1
    simp only [mv, List.map_cons] at e' ⊢
    jvm_step X.here [X.here.top, ↓top_set X.here.top, hx, hb, hE1, e', ilen]
    exact a1
  · cases h
theorem gs_lstoren {M : Mth} {d : Nat} {P : PL} {pc aux : Nat} {v : Int32} {w : Int64} {L : List (Option Value)} {S : List Value} {σ : MH} {c1 : MC} {Pr : Option Prop} (hPL : PLOK M.2.2.2.2 P) {n : Fin 4} (hE : okE M P (pc, .lstore_n n, aux, v, w)) (h : stp M pc (.lstore_n n) aux v w L S σ = some (c1, Pr)) (hO : oP Pr) : Go M d (some pc, L, S, σ) c1 := by
  unfold stp at h
  dsimp only at h
  split at h
  · rename_i x S
    split at h
    case isFalse => cases h
    rename_i hI
    cases h
    intro p l e R s m args below meth c w0 A Q C k H locs ls hP hS hl
    obtain ⟨ls', e', h'⟩ := lvm_st2 (v := .long x) hl (blt_lt (Bool.and_eq_true_iff.mp hI).1) rfl (Bool.and_eq_true_iff.mp hI).2
    have hE1 := hE.1
    have hx := C.1
    have hb := C.2.1
    intro T hT X
    obtain ⟨t, a1, b1⟩ := k H locs ls' hP hS h' T hT X
    refine ⟨t, ?_, b1⟩
    dsimp only at hE1
    simp only [mv, List.map_cons] at e' ⊢
    jvm_step X.here [X.here.top, ↓top_set X.here.top, hx, hb, hE1, e', ilen]
    exact a1
  · cases h
theorem gs_iinc {M : Mth} {d : Nat} {P : PL} {pc aux : Nat} {v : Int32} {w : Int64} {L : List (Option Value)} {S : List Value} {σ : MH} {c1 : MC} {Pr : Option Prop} (hPL : PLOK M.2.2.2.2 P) {n : Nat} {q : Int} (hE : okE M P (pc, .iinc n q, aux, v, w)) (h : stp M pc (.iinc n q) aux v w L S σ = some (c1, Pr)) (hO : oP Pr) : Go M d (some pc, L, S, σ) c1 := by
  unfold stp at h
  dsimp only at h
  split at h
  · rename_i x hm
    split at h
    case isFalse => cases h
    rename_i hI
    cases h
    intro p l e R s m args below meth c w0 A Q C k H locs ls hP hS hl
    obtain ⟨ls', e', h'⟩ := lvm_st1 (v := .int (x + v)) hl (blt_lt (Bool.and_eq_true_iff.mp hI).1) rfl (Bool.and_eq_true_iff.mp hI).2
    have hg := lvm_get hl hm
    have hE1 := hE.1
    have hv : Int32.ofInt q = v := of_decide_eq_true hE.2
    have hx := C.1
    have hb := C.2.1
    intro T hT X
    obtain ⟨t, a1, b1⟩ := k H locs ls' hP hS h' T hT X
    refine ⟨t, ?_, b1⟩
    subst hv
    dsimp only at hE1
    simp only [mv] at e' hg ⊢
    jvm_step X.here [X.here.top, ↓top_set X.here.top, hx, hb, hE1, hg, e', ilen]
    exact a1
  · cases h
/-- one instruction -/
theorem stp_ok {M : Mth} {d : Nat} {P : PL} {pc aux : Nat} {v : Int32} {w : Int64} {L : List (Option Value)} {S : List Value} {σ : MH} {c1 : MC} {Pr : Option Prop} (hPL : PLOK M.2.2.2.2 P) {I : Instr} (hE : okE M P (pc, I, aux, v, w)) (h : stp M pc I aux v w L S σ = some (c1, Pr)) (hO : oP Pr) : Go M d (some pc, L, S, σ) c1 := by
  cases I with
  | iconst _ => exact gs_iconst hPL hE h hO
  | bipush _ => exact gs_bipush hPL hE h hO
  | sipush _ => exact gs_sipush hPL hE h hO
  | ldc _ => exact gs_ldc hPL hE h hO
  | ldc_w _ => exact gs_ldcw hPL hE h hO
  | ldc2_w _ => exact gs_ldc2 hPL hE h hO
  | lconst _ => exact gs_lconst hPL hE h hO
  | aconst_null => exact gs_null hPL hE h hO
  | iload _ => exact gs_iload hPL hE h hO
  | iload_n _ => exact gs_iloadn hPL hE h hO
  | lload _ => exact gs_lload hPL hE h hO
  | lload_n _ => exact gs_lloadn hPL hE h hO
  | aload _ => exact gs_aload hPL hE h hO
  | aload_n _ => exact gs_aloadn hPL hE h hO
  | iadd => exact gs_iadd hPL hE h hO
  | isub => exact gs_isub hPL hE h hO
  | imul => exact gs_imul hPL hE h hO
  | iand => exact gs_iand hPL hE h hO
  | ior => exact gs_ior hPL hE h hO
  | ixor => exact gs_ixor hPL hE h hO
  | ishl => exact gs_ishl hPL hE h hO
  | ishr => exact gs_ishr hPL hE h hO
  | iushr => exact gs_iushr hPL hE h hO
  | idiv => exact gs_idiv hPL hE h hO
  | irem => exact gs_irem hPL hE h hO
  | ladd => exact gs_ladd hPL hE h hO
  | lsub => exact gs_lsub hPL hE h hO
  | lmul => exact gs_lmul hPL hE h hO
  | ldiv => exact gs_ldiv hPL hE h hO
  | lrem => exact gs_lrem hPL hE h hO
  | lcmp => exact gs_lcmp hPL hE h hO
  | ineg => exact gs_ineg hPL hE h hO
  | i2l => exact gs_i2l hPL hE h hO
  | l2i => exact gs_l2i hPL hE h hO
  | i2b => exact gs_i2b hPL hE h hO
  | i2c => exact gs_i2c hPL hE h hO
  | dup => exact gs_dup hPL hE h hO
  | pop => exact gs_pop hPL hE h hO
  | dup2 => exact gs_dup2 hPL hE h hO
  | goto _ => exact gs_goto hPL hE h hO
  | iaload => exact gs_iaload hPL hE h hO
  | baload => exact gs_baload hPL hE h hO
  | laload => exact gs_laload hPL hE h hO
  | aaload => exact gs_aaload hPL hE h hO
  | iastore => exact gs_iastore hPL hE h hO
  | bastore => exact gs_bastore hPL hE h hO
  | lastore => exact gs_lastore hPL hE h hO
  | arraylength => exact gs_alen hPL hE h hO
  | getfield _ => exact gs_getfield hPL hE h hO
  | putfield _ => exact gs_putfield hPL hE h hO
  | istore _ => exact gs_istore hPL hE h hO
  | istore_n _ => exact gs_istoren hPL hE h hO
  | astore _ => exact gs_astore hPL hE h hO
  | astore_n _ => exact gs_astoren hPL hE h hO
  | lstore _ => exact gs_lstore hPL hE h hO
  | lstore_n _ => exact gs_lstoren hPL hE h hO
  | iinc _ _ => exact gs_iinc hPL hE h hO
  | _ => exact absurd h (by simp [stp])
