/-! A METHOD'S BYTES, READ ONCE FROM THE LEFT: what decode says of them, an opcode at a time -/
abbrev qd_R (α : Type) := Reader DecodeError α
theorem qd_nx {C : ByteArray} {i : Nat} {b : UInt8} {t : List UInt8} (h : C.data.toList.drop i = b :: t) : C.data.toList.drop (i + 1) = t := by
  have e : C.data.toList.drop (i + 1) = (C.data.toList.drop i).drop 1 := by
    rw [List.drop_drop]
  rw [e, h]
  rfl
theorem qd_u1 {C : ByteArray} {i : Nat} {b : UInt8} {t : List UInt8} (h : C.data.toList.drop i = b :: t) : (Reader.u1 : qd_R Nat) C i = .ok (b.toNat, i + 1) := by
  have hl : i < C.data.toList.length := by
    have := congrArg List.length h
    simp only [List.length_drop, List.length_cons] at this
    omega
  have hb : C.data.toList[i] = b := by
    have h1 : (C.data.toList.drop i)[0]? = some b := by rw [h]; rfl
    rw [List.getElem?_drop, Nat.add_zero, List.getElem?_eq_getElem hl] at h1
    exact Option.some.inj h1
  have hz : i < C.size := hl
  have hg : C[i] = b := hb
  refine Eq.trans (b := (dite (i < C.size) (fun q => (do set (i + 1); pure (C[i]'q).toNat : qd_R Nat)) (fun _ => throw (HasTruncated.truncated i))) C i) rfl ?_
  rw [dif_pos hz]
  show Except.ok ((C[i]'hz).toNat, i + 1) = Except.ok (b.toNat, i + 1)
  rw [hg]
theorem qd_bind {α β : Type} {r : qd_R α} {f : α → qd_R β} {C : ByteArray} {p s : Nat} {a : α} (h : r C p = .ok (a, s)) : (r >>= f) C p = f a C s := by
  show (r C p >>= fun x => f x.1 C x.2 : Except DecodeError (β × Nat)) = _
  rw [h]
  rfl
theorem qd_map {α β : Type} {r : qd_R α} {g : α → β} {C : ByteArray} {p s : Nat} {a : α} (h : r C p = .ok (a, s)) : (g <$> r) C p = .ok (g a, s) := by
  show (r C p >>= fun x => (pure (g x.1, x.2) : Except DecodeError (β × Nat))) = _
  rw [h]
  rfl
theorem qd_u2 {C : ByteArray} {i : Nat} {b c : UInt8} {t : List UInt8} (h : C.data.toList.drop i = b :: c :: t) : (Reader.u2 : qd_R Nat) C i = .ok (b.toNat * 256 + c.toNat, i + 2) := by
  show ((Reader.u1 : qd_R Nat) >>= fun x => (Reader.u1 : qd_R Nat) >>= fun y => (pure (x * 256 + y) : qd_R Nat)) C i = _
  rw [qd_bind (qd_u1 h), qd_bind (qd_u1 (qd_nx h))]
  rfl
theorem qd_s1 {C : ByteArray} {i : Nat} {b : UInt8} {t : List UInt8} (h : C.data.toList.drop i = b :: t) : (Reader.s1 : qd_R Int) C i = .ok (Reader.signed 8 b.toNat, i + 1) := by
  show (Reader.signed 8 <$> (Reader.u1 : qd_R Nat)) C i = _
  exact qd_map (qd_u1 h)
theorem qd_s2 {C : ByteArray} {i : Nat} {b c : UInt8} {t : List UInt8} (h : C.data.toList.drop i = b :: c :: t) : (Reader.s2 : qd_R Int) C i = .ok (Reader.signed 16 (b.toNat * 256 + c.toNat), i + 2) := by
  show (Reader.signed 16 <$> (Reader.u2 : qd_R Nat)) C i = _
  exact qd_map (qd_u2 h)
theorem qd_dec {code : ByteArray} {pc n : Nat} {I : Instr} (h : Decoder.instr pc code pc = .ok (I, pc + n)) : decode code pc = .ok (I, n) := by
  show (Decoder.instr pc code pc >>= fun x => (pure (x.1, x.2 - pc) : Except DecodeError (Instr × Nat))) = _
  rw [h]
  show Except.ok (I, pc + n - pc) = _
  rw [Nat.add_sub_cancel_left]
theorem qd_and {a b : Bool} (h : (a && b) = true) : a = true ∧ b = true := by
  cases a
  · cases h
  · exact ⟨rfl, h⟩
theorem qd_no {b : UInt8} (h : b.toNat = 256) : False := by
  have := b.toNat_lt
  omega
def qd_h1 (t : List UInt8) (f : Nat → Bool) : Bool := match t with
  | c :: _ => f c.toNat
  | [] => false
def qd_h2 (t : List UInt8) (f : Nat → Bool) : Bool := match t with
  | c :: d :: _ => f (c.toNat * 256 + d.toNat)
  | _ => false
theorem qd_h1_ok {t : List UInt8} {f : Nat → Bool} (h : qd_h1 t f = true) : ∃ c r, t = c :: r ∧ f c.toNat = true := by
  cases t with
  | nil => cases h
  | cons c r => exact ⟨c, r, rfl, h⟩
theorem qd_h2_ok {t : List UInt8} {f : Nat → Bool} (h : qd_h2 t f = true) : ∃ c d r, t = c :: d :: r ∧ f (c.toNat * 256 + d.toNat) = true := by
  cases t with
  | nil => cases h
  | cons c r =>
    cases r with
    | nil => cases h
    | cons d r => exact ⟨c, d, r, rfl, h⟩
set_option maxRecDepth 20000 in
theorem qo_2 {code : ByteArray} {pc : Nat} {b : UInt8} {t : List UInt8} (h : code.data.toList.drop pc = b :: t) (hb : b.toNat = 2) : decode code pc = .ok (.iconst (-1), 1) := qd_dec (by
  delta Decoder.instr
  rw [qd_bind (qd_u1 h), hb]
  rfl)
set_option maxRecDepth 20000 in
theorem qo_3 {code : ByteArray} {pc : Nat} {b : UInt8} {t : List UInt8} (h : code.data.toList.drop pc = b :: t) (hb : b.toNat = 3) : decode code pc = .ok (.iconst (0), 1) := qd_dec (by
  delta Decoder.instr
  rw [qd_bind (qd_u1 h), hb]
  rfl)
set_option maxRecDepth 20000 in
theorem qo_4 {code : ByteArray} {pc : Nat} {b : UInt8} {t : List UInt8} (h : code.data.toList.drop pc = b :: t) (hb : b.toNat = 4) : decode code pc = .ok (.iconst (1), 1) := qd_dec (by
  delta Decoder.instr
  rw [qd_bind (qd_u1 h), hb]
  rfl)
set_option maxRecDepth 20000 in
theorem qo_5 {code : ByteArray} {pc : Nat} {b : UInt8} {t : List UInt8} (h : code.data.toList.drop pc = b :: t) (hb : b.toNat = 5) : decode code pc = .ok (.iconst (2), 1) := qd_dec (by
  delta Decoder.instr
  rw [qd_bind (qd_u1 h), hb]
  rfl)
set_option maxRecDepth 20000 in
theorem qo_6 {code : ByteArray} {pc : Nat} {b : UInt8} {t : List UInt8} (h : code.data.toList.drop pc = b :: t) (hb : b.toNat = 6) : decode code pc = .ok (.iconst (3), 1) := qd_dec (by
  delta Decoder.instr
  rw [qd_bind (qd_u1 h), hb]
  rfl)
set_option maxRecDepth 20000 in
theorem qo_7 {code : ByteArray} {pc : Nat} {b : UInt8} {t : List UInt8} (h : code.data.toList.drop pc = b :: t) (hb : b.toNat = 7) : decode code pc = .ok (.iconst (4), 1) := qd_dec (by
  delta Decoder.instr
  rw [qd_bind (qd_u1 h), hb]
  rfl)
set_option maxRecDepth 20000 in
theorem qo_8 {code : ByteArray} {pc : Nat} {b : UInt8} {t : List UInt8} (h : code.data.toList.drop pc = b :: t) (hb : b.toNat = 8) : decode code pc = .ok (.iconst (5), 1) := qd_dec (by
  delta Decoder.instr
  rw [qd_bind (qd_u1 h), hb]
  rfl)
set_option maxRecDepth 20000 in
theorem qo_9 {code : ByteArray} {pc : Nat} {b : UInt8} {t : List UInt8} (h : code.data.toList.drop pc = b :: t) (hb : b.toNat = 9) : decode code pc = .ok (.lconst 0, 1) := qd_dec (by
  delta Decoder.instr
  rw [qd_bind (qd_u1 h), hb]
  rfl)
set_option maxRecDepth 20000 in
theorem qo_10 {code : ByteArray} {pc : Nat} {b : UInt8} {t : List UInt8} (h : code.data.toList.drop pc = b :: t) (hb : b.toNat = 10) : decode code pc = .ok (.lconst 1, 1) := qd_dec (by
  delta Decoder.instr
  rw [qd_bind (qd_u1 h), hb]
  rfl)
set_option maxRecDepth 20000 in
theorem qo_1 {code : ByteArray} {pc : Nat} {b : UInt8} {t : List UInt8} (h : code.data.toList.drop pc = b :: t) (hb : b.toNat = 1) : decode code pc = .ok (.aconst_null, 1) := qd_dec (by
  delta Decoder.instr
  rw [qd_bind (qd_u1 h), hb]
  rfl)
set_option maxRecDepth 20000 in
theorem qo_46 {code : ByteArray} {pc : Nat} {b : UInt8} {t : List UInt8} (h : code.data.toList.drop pc = b :: t) (hb : b.toNat = 46) : decode code pc = .ok (.iaload, 1) := qd_dec (by
  delta Decoder.instr
  rw [qd_bind (qd_u1 h), hb]
  rfl)
set_option maxRecDepth 20000 in
theorem qo_47 {code : ByteArray} {pc : Nat} {b : UInt8} {t : List UInt8} (h : code.data.toList.drop pc = b :: t) (hb : b.toNat = 47) : decode code pc = .ok (.laload, 1) := qd_dec (by
  delta Decoder.instr
  rw [qd_bind (qd_u1 h), hb]
  rfl)
set_option maxRecDepth 20000 in
theorem qo_50 {code : ByteArray} {pc : Nat} {b : UInt8} {t : List UInt8} (h : code.data.toList.drop pc = b :: t) (hb : b.toNat = 50) : decode code pc = .ok (.aaload, 1) := qd_dec (by
  delta Decoder.instr
  rw [qd_bind (qd_u1 h), hb]
  rfl)
set_option maxRecDepth 20000 in
theorem qo_51 {code : ByteArray} {pc : Nat} {b : UInt8} {t : List UInt8} (h : code.data.toList.drop pc = b :: t) (hb : b.toNat = 51) : decode code pc = .ok (.baload, 1) := qd_dec (by
  delta Decoder.instr
  rw [qd_bind (qd_u1 h), hb]
  rfl)
set_option maxRecDepth 20000 in
theorem qo_79 {code : ByteArray} {pc : Nat} {b : UInt8} {t : List UInt8} (h : code.data.toList.drop pc = b :: t) (hb : b.toNat = 79) : decode code pc = .ok (.iastore, 1) := qd_dec (by
  delta Decoder.instr
  rw [qd_bind (qd_u1 h), hb]
  rfl)
set_option maxRecDepth 20000 in
theorem qo_80 {code : ByteArray} {pc : Nat} {b : UInt8} {t : List UInt8} (h : code.data.toList.drop pc = b :: t) (hb : b.toNat = 80) : decode code pc = .ok (.lastore, 1) := qd_dec (by
  delta Decoder.instr
  rw [qd_bind (qd_u1 h), hb]
  rfl)
set_option maxRecDepth 20000 in
theorem qo_83 {code : ByteArray} {pc : Nat} {b : UInt8} {t : List UInt8} (h : code.data.toList.drop pc = b :: t) (hb : b.toNat = 83) : decode code pc = .ok (.aastore, 1) := qd_dec (by
  delta Decoder.instr
  rw [qd_bind (qd_u1 h), hb]
  rfl)
set_option maxRecDepth 20000 in
theorem qo_84 {code : ByteArray} {pc : Nat} {b : UInt8} {t : List UInt8} (h : code.data.toList.drop pc = b :: t) (hb : b.toNat = 84) : decode code pc = .ok (.bastore, 1) := qd_dec (by
  delta Decoder.instr
  rw [qd_bind (qd_u1 h), hb]
  rfl)
set_option maxRecDepth 20000 in
theorem qo_87 {code : ByteArray} {pc : Nat} {b : UInt8} {t : List UInt8} (h : code.data.toList.drop pc = b :: t) (hb : b.toNat = 87) : decode code pc = .ok (.pop, 1) := qd_dec (by
  delta Decoder.instr
  rw [qd_bind (qd_u1 h), hb]
  rfl)
set_option maxRecDepth 20000 in
theorem qo_89 {code : ByteArray} {pc : Nat} {b : UInt8} {t : List UInt8} (h : code.data.toList.drop pc = b :: t) (hb : b.toNat = 89) : decode code pc = .ok (.dup, 1) := qd_dec (by
  delta Decoder.instr
  rw [qd_bind (qd_u1 h), hb]
  rfl)
set_option maxRecDepth 20000 in
theorem qo_92 {code : ByteArray} {pc : Nat} {b : UInt8} {t : List UInt8} (h : code.data.toList.drop pc = b :: t) (hb : b.toNat = 92) : decode code pc = .ok (.dup2, 1) := qd_dec (by
  delta Decoder.instr
  rw [qd_bind (qd_u1 h), hb]
  rfl)
set_option maxRecDepth 20000 in
theorem qo_96 {code : ByteArray} {pc : Nat} {b : UInt8} {t : List UInt8} (h : code.data.toList.drop pc = b :: t) (hb : b.toNat = 96) : decode code pc = .ok (.iadd, 1) := qd_dec (by
  delta Decoder.instr
  rw [qd_bind (qd_u1 h), hb]
  rfl)
set_option maxRecDepth 20000 in
theorem qo_97 {code : ByteArray} {pc : Nat} {b : UInt8} {t : List UInt8} (h : code.data.toList.drop pc = b :: t) (hb : b.toNat = 97) : decode code pc = .ok (.ladd, 1) := qd_dec (by
  delta Decoder.instr
  rw [qd_bind (qd_u1 h), hb]
  rfl)
set_option maxRecDepth 20000 in
theorem qo_100 {code : ByteArray} {pc : Nat} {b : UInt8} {t : List UInt8} (h : code.data.toList.drop pc = b :: t) (hb : b.toNat = 100) : decode code pc = .ok (.isub, 1) := qd_dec (by
  delta Decoder.instr
  rw [qd_bind (qd_u1 h), hb]
  rfl)
set_option maxRecDepth 20000 in
theorem qo_101 {code : ByteArray} {pc : Nat} {b : UInt8} {t : List UInt8} (h : code.data.toList.drop pc = b :: t) (hb : b.toNat = 101) : decode code pc = .ok (.lsub, 1) := qd_dec (by
  delta Decoder.instr
  rw [qd_bind (qd_u1 h), hb]
  rfl)
set_option maxRecDepth 20000 in
theorem qo_104 {code : ByteArray} {pc : Nat} {b : UInt8} {t : List UInt8} (h : code.data.toList.drop pc = b :: t) (hb : b.toNat = 104) : decode code pc = .ok (.imul, 1) := qd_dec (by
  delta Decoder.instr
  rw [qd_bind (qd_u1 h), hb]
  rfl)
set_option maxRecDepth 20000 in
theorem qo_105 {code : ByteArray} {pc : Nat} {b : UInt8} {t : List UInt8} (h : code.data.toList.drop pc = b :: t) (hb : b.toNat = 105) : decode code pc = .ok (.lmul, 1) := qd_dec (by
  delta Decoder.instr
  rw [qd_bind (qd_u1 h), hb]
  rfl)
set_option maxRecDepth 20000 in
theorem qo_108 {code : ByteArray} {pc : Nat} {b : UInt8} {t : List UInt8} (h : code.data.toList.drop pc = b :: t) (hb : b.toNat = 108) : decode code pc = .ok (.idiv, 1) := qd_dec (by
  delta Decoder.instr
  rw [qd_bind (qd_u1 h), hb]
  rfl)
set_option maxRecDepth 20000 in
theorem qo_109 {code : ByteArray} {pc : Nat} {b : UInt8} {t : List UInt8} (h : code.data.toList.drop pc = b :: t) (hb : b.toNat = 109) : decode code pc = .ok (.ldiv, 1) := qd_dec (by
  delta Decoder.instr
  rw [qd_bind (qd_u1 h), hb]
  rfl)
set_option maxRecDepth 20000 in
theorem qo_112 {code : ByteArray} {pc : Nat} {b : UInt8} {t : List UInt8} (h : code.data.toList.drop pc = b :: t) (hb : b.toNat = 112) : decode code pc = .ok (.irem, 1) := qd_dec (by
  delta Decoder.instr
  rw [qd_bind (qd_u1 h), hb]
  rfl)
set_option maxRecDepth 20000 in
theorem qo_113 {code : ByteArray} {pc : Nat} {b : UInt8} {t : List UInt8} (h : code.data.toList.drop pc = b :: t) (hb : b.toNat = 113) : decode code pc = .ok (.lrem, 1) := qd_dec (by
  delta Decoder.instr
  rw [qd_bind (qd_u1 h), hb]
  rfl)
set_option maxRecDepth 20000 in
theorem qo_116 {code : ByteArray} {pc : Nat} {b : UInt8} {t : List UInt8} (h : code.data.toList.drop pc = b :: t) (hb : b.toNat = 116) : decode code pc = .ok (.ineg, 1) := qd_dec (by
  delta Decoder.instr
  rw [qd_bind (qd_u1 h), hb]
  rfl)
set_option maxRecDepth 20000 in
theorem qo_117 {code : ByteArray} {pc : Nat} {b : UInt8} {t : List UInt8} (h : code.data.toList.drop pc = b :: t) (hb : b.toNat = 117) : decode code pc = .ok (.lneg, 1) := qd_dec (by
  delta Decoder.instr
  rw [qd_bind (qd_u1 h), hb]
  rfl)
set_option maxRecDepth 20000 in
theorem qo_120 {code : ByteArray} {pc : Nat} {b : UInt8} {t : List UInt8} (h : code.data.toList.drop pc = b :: t) (hb : b.toNat = 120) : decode code pc = .ok (.ishl, 1) := qd_dec (by
  delta Decoder.instr
  rw [qd_bind (qd_u1 h), hb]
  rfl)
set_option maxRecDepth 20000 in
theorem qo_122 {code : ByteArray} {pc : Nat} {b : UInt8} {t : List UInt8} (h : code.data.toList.drop pc = b :: t) (hb : b.toNat = 122) : decode code pc = .ok (.ishr, 1) := qd_dec (by
  delta Decoder.instr
  rw [qd_bind (qd_u1 h), hb]
  rfl)
set_option maxRecDepth 20000 in
theorem qo_124 {code : ByteArray} {pc : Nat} {b : UInt8} {t : List UInt8} (h : code.data.toList.drop pc = b :: t) (hb : b.toNat = 124) : decode code pc = .ok (.iushr, 1) := qd_dec (by
  delta Decoder.instr
  rw [qd_bind (qd_u1 h), hb]
  rfl)
set_option maxRecDepth 20000 in
theorem qo_126 {code : ByteArray} {pc : Nat} {b : UInt8} {t : List UInt8} (h : code.data.toList.drop pc = b :: t) (hb : b.toNat = 126) : decode code pc = .ok (.iand, 1) := qd_dec (by
  delta Decoder.instr
  rw [qd_bind (qd_u1 h), hb]
  rfl)
set_option maxRecDepth 20000 in
theorem qo_128 {code : ByteArray} {pc : Nat} {b : UInt8} {t : List UInt8} (h : code.data.toList.drop pc = b :: t) (hb : b.toNat = 128) : decode code pc = .ok (.ior, 1) := qd_dec (by
  delta Decoder.instr
  rw [qd_bind (qd_u1 h), hb]
  rfl)
set_option maxRecDepth 20000 in
theorem qo_130 {code : ByteArray} {pc : Nat} {b : UInt8} {t : List UInt8} (h : code.data.toList.drop pc = b :: t) (hb : b.toNat = 130) : decode code pc = .ok (.ixor, 1) := qd_dec (by
  delta Decoder.instr
  rw [qd_bind (qd_u1 h), hb]
  rfl)
set_option maxRecDepth 20000 in
theorem qo_133 {code : ByteArray} {pc : Nat} {b : UInt8} {t : List UInt8} (h : code.data.toList.drop pc = b :: t) (hb : b.toNat = 133) : decode code pc = .ok (.i2l, 1) := qd_dec (by
  delta Decoder.instr
  rw [qd_bind (qd_u1 h), hb]
  rfl)
set_option maxRecDepth 20000 in
theorem qo_136 {code : ByteArray} {pc : Nat} {b : UInt8} {t : List UInt8} (h : code.data.toList.drop pc = b :: t) (hb : b.toNat = 136) : decode code pc = .ok (.l2i, 1) := qd_dec (by
  delta Decoder.instr
  rw [qd_bind (qd_u1 h), hb]
  rfl)
set_option maxRecDepth 20000 in
theorem qo_145 {code : ByteArray} {pc : Nat} {b : UInt8} {t : List UInt8} (h : code.data.toList.drop pc = b :: t) (hb : b.toNat = 145) : decode code pc = .ok (.i2b, 1) := qd_dec (by
  delta Decoder.instr
  rw [qd_bind (qd_u1 h), hb]
  rfl)
set_option maxRecDepth 20000 in
theorem qo_146 {code : ByteArray} {pc : Nat} {b : UInt8} {t : List UInt8} (h : code.data.toList.drop pc = b :: t) (hb : b.toNat = 146) : decode code pc = .ok (.i2c, 1) := qd_dec (by
  delta Decoder.instr
  rw [qd_bind (qd_u1 h), hb]
  rfl)
set_option maxRecDepth 20000 in
theorem qo_148 {code : ByteArray} {pc : Nat} {b : UInt8} {t : List UInt8} (h : code.data.toList.drop pc = b :: t) (hb : b.toNat = 148) : decode code pc = .ok (.lcmp, 1) := qd_dec (by
  delta Decoder.instr
  rw [qd_bind (qd_u1 h), hb]
  rfl)
set_option maxRecDepth 20000 in
theorem qo_172 {code : ByteArray} {pc : Nat} {b : UInt8} {t : List UInt8} (h : code.data.toList.drop pc = b :: t) (hb : b.toNat = 172) : decode code pc = .ok (.ireturn, 1) := qd_dec (by
  delta Decoder.instr
  rw [qd_bind (qd_u1 h), hb]
  rfl)
set_option maxRecDepth 20000 in
theorem qo_173 {code : ByteArray} {pc : Nat} {b : UInt8} {t : List UInt8} (h : code.data.toList.drop pc = b :: t) (hb : b.toNat = 173) : decode code pc = .ok (.lreturn, 1) := qd_dec (by
  delta Decoder.instr
  rw [qd_bind (qd_u1 h), hb]
  rfl)
set_option maxRecDepth 20000 in
theorem qo_177 {code : ByteArray} {pc : Nat} {b : UInt8} {t : List UInt8} (h : code.data.toList.drop pc = b :: t) (hb : b.toNat = 177) : decode code pc = .ok (.return_, 1) := qd_dec (by
  delta Decoder.instr
  rw [qd_bind (qd_u1 h), hb]
  rfl)
set_option maxRecDepth 20000 in
theorem qo_190 {code : ByteArray} {pc : Nat} {b : UInt8} {t : List UInt8} (h : code.data.toList.drop pc = b :: t) (hb : b.toNat = 190) : decode code pc = .ok (.arraylength, 1) := qd_dec (by
  delta Decoder.instr
  rw [qd_bind (qd_u1 h), hb]
  rfl)
set_option maxRecDepth 20000 in
theorem qo_26 {code : ByteArray} {pc : Nat} {b : UInt8} {t : List UInt8} (h : code.data.toList.drop pc = b :: t) (hb : b.toNat = 26) : decode code pc = .ok (.iload_n 0, 1) := qd_dec (by
  delta Decoder.instr
  rw [qd_bind (qd_u1 h), hb]
  rfl)
set_option maxRecDepth 20000 in
theorem qo_27 {code : ByteArray} {pc : Nat} {b : UInt8} {t : List UInt8} (h : code.data.toList.drop pc = b :: t) (hb : b.toNat = 27) : decode code pc = .ok (.iload_n 1, 1) := qd_dec (by
  delta Decoder.instr
  rw [qd_bind (qd_u1 h), hb]
  rfl)
set_option maxRecDepth 20000 in
theorem qo_28 {code : ByteArray} {pc : Nat} {b : UInt8} {t : List UInt8} (h : code.data.toList.drop pc = b :: t) (hb : b.toNat = 28) : decode code pc = .ok (.iload_n 2, 1) := qd_dec (by
  delta Decoder.instr
  rw [qd_bind (qd_u1 h), hb]
  rfl)
set_option maxRecDepth 20000 in
theorem qo_29 {code : ByteArray} {pc : Nat} {b : UInt8} {t : List UInt8} (h : code.data.toList.drop pc = b :: t) (hb : b.toNat = 29) : decode code pc = .ok (.iload_n 3, 1) := qd_dec (by
  delta Decoder.instr
  rw [qd_bind (qd_u1 h), hb]
  rfl)
set_option maxRecDepth 20000 in
theorem qo_30 {code : ByteArray} {pc : Nat} {b : UInt8} {t : List UInt8} (h : code.data.toList.drop pc = b :: t) (hb : b.toNat = 30) : decode code pc = .ok (.lload_n 0, 1) := qd_dec (by
  delta Decoder.instr
  rw [qd_bind (qd_u1 h), hb]
  rfl)
set_option maxRecDepth 20000 in
theorem qo_31 {code : ByteArray} {pc : Nat} {b : UInt8} {t : List UInt8} (h : code.data.toList.drop pc = b :: t) (hb : b.toNat = 31) : decode code pc = .ok (.lload_n 1, 1) := qd_dec (by
  delta Decoder.instr
  rw [qd_bind (qd_u1 h), hb]
  rfl)
set_option maxRecDepth 20000 in
theorem qo_32 {code : ByteArray} {pc : Nat} {b : UInt8} {t : List UInt8} (h : code.data.toList.drop pc = b :: t) (hb : b.toNat = 32) : decode code pc = .ok (.lload_n 2, 1) := qd_dec (by
  delta Decoder.instr
  rw [qd_bind (qd_u1 h), hb]
  rfl)
set_option maxRecDepth 20000 in
theorem qo_33 {code : ByteArray} {pc : Nat} {b : UInt8} {t : List UInt8} (h : code.data.toList.drop pc = b :: t) (hb : b.toNat = 33) : decode code pc = .ok (.lload_n 3, 1) := qd_dec (by
  delta Decoder.instr
  rw [qd_bind (qd_u1 h), hb]
  rfl)
set_option maxRecDepth 20000 in
theorem qo_42 {code : ByteArray} {pc : Nat} {b : UInt8} {t : List UInt8} (h : code.data.toList.drop pc = b :: t) (hb : b.toNat = 42) : decode code pc = .ok (.aload_n 0, 1) := qd_dec (by
  delta Decoder.instr
  rw [qd_bind (qd_u1 h), hb]
  rfl)
set_option maxRecDepth 20000 in
theorem qo_43 {code : ByteArray} {pc : Nat} {b : UInt8} {t : List UInt8} (h : code.data.toList.drop pc = b :: t) (hb : b.toNat = 43) : decode code pc = .ok (.aload_n 1, 1) := qd_dec (by
  delta Decoder.instr
  rw [qd_bind (qd_u1 h), hb]
  rfl)
set_option maxRecDepth 20000 in
theorem qo_44 {code : ByteArray} {pc : Nat} {b : UInt8} {t : List UInt8} (h : code.data.toList.drop pc = b :: t) (hb : b.toNat = 44) : decode code pc = .ok (.aload_n 2, 1) := qd_dec (by
  delta Decoder.instr
  rw [qd_bind (qd_u1 h), hb]
  rfl)
set_option maxRecDepth 20000 in
theorem qo_45 {code : ByteArray} {pc : Nat} {b : UInt8} {t : List UInt8} (h : code.data.toList.drop pc = b :: t) (hb : b.toNat = 45) : decode code pc = .ok (.aload_n 3, 1) := qd_dec (by
  delta Decoder.instr
  rw [qd_bind (qd_u1 h), hb]
  rfl)
set_option maxRecDepth 20000 in
theorem qo_59 {code : ByteArray} {pc : Nat} {b : UInt8} {t : List UInt8} (h : code.data.toList.drop pc = b :: t) (hb : b.toNat = 59) : decode code pc = .ok (.istore_n 0, 1) := qd_dec (by
  delta Decoder.instr
  rw [qd_bind (qd_u1 h), hb]
  rfl)
set_option maxRecDepth 20000 in
theorem qo_60 {code : ByteArray} {pc : Nat} {b : UInt8} {t : List UInt8} (h : code.data.toList.drop pc = b :: t) (hb : b.toNat = 60) : decode code pc = .ok (.istore_n 1, 1) := qd_dec (by
  delta Decoder.instr
  rw [qd_bind (qd_u1 h), hb]
  rfl)
set_option maxRecDepth 20000 in
theorem qo_61 {code : ByteArray} {pc : Nat} {b : UInt8} {t : List UInt8} (h : code.data.toList.drop pc = b :: t) (hb : b.toNat = 61) : decode code pc = .ok (.istore_n 2, 1) := qd_dec (by
  delta Decoder.instr
  rw [qd_bind (qd_u1 h), hb]
  rfl)
set_option maxRecDepth 20000 in
theorem qo_62 {code : ByteArray} {pc : Nat} {b : UInt8} {t : List UInt8} (h : code.data.toList.drop pc = b :: t) (hb : b.toNat = 62) : decode code pc = .ok (.istore_n 3, 1) := qd_dec (by
  delta Decoder.instr
  rw [qd_bind (qd_u1 h), hb]
  rfl)
set_option maxRecDepth 20000 in
theorem qo_63 {code : ByteArray} {pc : Nat} {b : UInt8} {t : List UInt8} (h : code.data.toList.drop pc = b :: t) (hb : b.toNat = 63) : decode code pc = .ok (.lstore_n 0, 1) := qd_dec (by
  delta Decoder.instr
  rw [qd_bind (qd_u1 h), hb]
  rfl)
set_option maxRecDepth 20000 in
theorem qo_64 {code : ByteArray} {pc : Nat} {b : UInt8} {t : List UInt8} (h : code.data.toList.drop pc = b :: t) (hb : b.toNat = 64) : decode code pc = .ok (.lstore_n 1, 1) := qd_dec (by
  delta Decoder.instr
  rw [qd_bind (qd_u1 h), hb]
  rfl)
set_option maxRecDepth 20000 in
theorem qo_65 {code : ByteArray} {pc : Nat} {b : UInt8} {t : List UInt8} (h : code.data.toList.drop pc = b :: t) (hb : b.toNat = 65) : decode code pc = .ok (.lstore_n 2, 1) := qd_dec (by
  delta Decoder.instr
  rw [qd_bind (qd_u1 h), hb]
  rfl)
set_option maxRecDepth 20000 in
theorem qo_66 {code : ByteArray} {pc : Nat} {b : UInt8} {t : List UInt8} (h : code.data.toList.drop pc = b :: t) (hb : b.toNat = 66) : decode code pc = .ok (.lstore_n 3, 1) := qd_dec (by
  delta Decoder.instr
  rw [qd_bind (qd_u1 h), hb]
  rfl)
set_option maxRecDepth 20000 in
theorem qo_75 {code : ByteArray} {pc : Nat} {b : UInt8} {t : List UInt8} (h : code.data.toList.drop pc = b :: t) (hb : b.toNat = 75) : decode code pc = .ok (.astore_n 0, 1) := qd_dec (by
  delta Decoder.instr
  rw [qd_bind (qd_u1 h), hb]
  rfl)
set_option maxRecDepth 20000 in
theorem qo_76 {code : ByteArray} {pc : Nat} {b : UInt8} {t : List UInt8} (h : code.data.toList.drop pc = b :: t) (hb : b.toNat = 76) : decode code pc = .ok (.astore_n 1, 1) := qd_dec (by
  delta Decoder.instr
  rw [qd_bind (qd_u1 h), hb]
  rfl)
set_option maxRecDepth 20000 in
theorem qo_77 {code : ByteArray} {pc : Nat} {b : UInt8} {t : List UInt8} (h : code.data.toList.drop pc = b :: t) (hb : b.toNat = 77) : decode code pc = .ok (.astore_n 2, 1) := qd_dec (by
  delta Decoder.instr
  rw [qd_bind (qd_u1 h), hb]
  rfl)
set_option maxRecDepth 20000 in
theorem qo_78 {code : ByteArray} {pc : Nat} {b : UInt8} {t : List UInt8} (h : code.data.toList.drop pc = b :: t) (hb : b.toNat = 78) : decode code pc = .ok (.astore_n 3, 1) := qd_dec (by
  delta Decoder.instr
  rw [qd_bind (qd_u1 h), hb]
  rfl)
set_option maxRecDepth 20000 in
theorem qo_18 {code : ByteArray} {pc : Nat} {b c : UInt8} {t : List UInt8} (h : code.data.toList.drop pc = b :: c :: t) (hb : b.toNat = 18) : decode code pc = .ok (.ldc c.toNat, 2) := qd_dec (by
  delta Decoder.instr
  rw [qd_bind (qd_u1 h), hb]
  exact (qd_bind (r := (Reader.u1 : qd_R _)) (f := fun k => (pure (Instr.ldc k) : qd_R Instr)) (qd_u1 (qd_nx h))))
set_option maxRecDepth 20000 in
theorem qo_21 {code : ByteArray} {pc : Nat} {b c : UInt8} {t : List UInt8} (h : code.data.toList.drop pc = b :: c :: t) (hb : b.toNat = 21) : decode code pc = .ok (.iload c.toNat, 2) := qd_dec (by
  delta Decoder.instr
  rw [qd_bind (qd_u1 h), hb]
  exact (qd_bind (r := (Reader.u1 : qd_R _)) (f := fun k => (pure (Instr.iload k) : qd_R Instr)) (qd_u1 (qd_nx h))))
set_option maxRecDepth 20000 in
theorem qo_22 {code : ByteArray} {pc : Nat} {b c : UInt8} {t : List UInt8} (h : code.data.toList.drop pc = b :: c :: t) (hb : b.toNat = 22) : decode code pc = .ok (.lload c.toNat, 2) := qd_dec (by
  delta Decoder.instr
  rw [qd_bind (qd_u1 h), hb]
  exact (qd_bind (r := (Reader.u1 : qd_R _)) (f := fun k => (pure (Instr.lload k) : qd_R Instr)) (qd_u1 (qd_nx h))))
set_option maxRecDepth 20000 in
theorem qo_25 {code : ByteArray} {pc : Nat} {b c : UInt8} {t : List UInt8} (h : code.data.toList.drop pc = b :: c :: t) (hb : b.toNat = 25) : decode code pc = .ok (.aload c.toNat, 2) := qd_dec (by
  delta Decoder.instr
  rw [qd_bind (qd_u1 h), hb]
  exact (qd_bind (r := (Reader.u1 : qd_R _)) (f := fun k => (pure (Instr.aload k) : qd_R Instr)) (qd_u1 (qd_nx h))))
set_option maxRecDepth 20000 in
theorem qo_54 {code : ByteArray} {pc : Nat} {b c : UInt8} {t : List UInt8} (h : code.data.toList.drop pc = b :: c :: t) (hb : b.toNat = 54) : decode code pc = .ok (.istore c.toNat, 2) := qd_dec (by
  delta Decoder.instr
  rw [qd_bind (qd_u1 h), hb]
  exact (qd_bind (r := (Reader.u1 : qd_R _)) (f := fun k => (pure (Instr.istore k) : qd_R Instr)) (qd_u1 (qd_nx h))))
set_option maxRecDepth 20000 in
theorem qo_55 {code : ByteArray} {pc : Nat} {b c : UInt8} {t : List UInt8} (h : code.data.toList.drop pc = b :: c :: t) (hb : b.toNat = 55) : decode code pc = .ok (.lstore c.toNat, 2) := qd_dec (by
  delta Decoder.instr
  rw [qd_bind (qd_u1 h), hb]
  exact (qd_bind (r := (Reader.u1 : qd_R _)) (f := fun k => (pure (Instr.lstore k) : qd_R Instr)) (qd_u1 (qd_nx h))))
set_option maxRecDepth 20000 in
theorem qo_58 {code : ByteArray} {pc : Nat} {b c : UInt8} {t : List UInt8} (h : code.data.toList.drop pc = b :: c :: t) (hb : b.toNat = 58) : decode code pc = .ok (.astore c.toNat, 2) := qd_dec (by
  delta Decoder.instr
  rw [qd_bind (qd_u1 h), hb]
  exact (qd_bind (r := (Reader.u1 : qd_R _)) (f := fun k => (pure (Instr.astore k) : qd_R Instr)) (qd_u1 (qd_nx h))))
set_option maxRecDepth 20000 in
theorem qo_16 {code : ByteArray} {pc : Nat} {b c : UInt8} {t : List UInt8} (h : code.data.toList.drop pc = b :: c :: t) (hb : b.toNat = 16) : decode code pc = .ok (.bipush (Reader.signed 8 c.toNat), 2) := qd_dec (by
  delta Decoder.instr
  rw [qd_bind (qd_u1 h), hb]
  exact (qd_bind (r := (Reader.s1 : qd_R _)) (f := fun k => (pure (Instr.bipush k) : qd_R Instr)) (qd_s1 (qd_nx h))))
set_option maxRecDepth 20000 in
theorem qo_19 {code : ByteArray} {pc : Nat} {b c d : UInt8} {t : List UInt8} (h : code.data.toList.drop pc = b :: c :: d :: t) (hb : b.toNat = 19) : decode code pc = .ok (.ldc_w (c.toNat * 256 + d.toNat), 3) := qd_dec (by
  delta Decoder.instr
  rw [qd_bind (qd_u1 h), hb]
  exact (qd_bind (r := (Reader.u2 : qd_R _)) (f := fun k => (pure (Instr.ldc_w k) : qd_R Instr)) (qd_u2 (qd_nx h))))
set_option maxRecDepth 20000 in
theorem qo_20 {code : ByteArray} {pc : Nat} {b c d : UInt8} {t : List UInt8} (h : code.data.toList.drop pc = b :: c :: d :: t) (hb : b.toNat = 20) : decode code pc = .ok (.ldc2_w (c.toNat * 256 + d.toNat), 3) := qd_dec (by
  delta Decoder.instr
  rw [qd_bind (qd_u1 h), hb]
  exact (qd_bind (r := (Reader.u2 : qd_R _)) (f := fun k => (pure (Instr.ldc2_w k) : qd_R Instr)) (qd_u2 (qd_nx h))))
set_option maxRecDepth 20000 in
theorem qo_180 {code : ByteArray} {pc : Nat} {b c d : UInt8} {t : List UInt8} (h : code.data.toList.drop pc = b :: c :: d :: t) (hb : b.toNat = 180) : decode code pc = .ok (.getfield (c.toNat * 256 + d.toNat), 3) := qd_dec (by
  delta Decoder.instr
  rw [qd_bind (qd_u1 h), hb]
  exact (qd_bind (r := (Reader.u2 : qd_R _)) (f := fun k => (pure (Instr.getfield k) : qd_R Instr)) (qd_u2 (qd_nx h))))
set_option maxRecDepth 20000 in
theorem qo_181 {code : ByteArray} {pc : Nat} {b c d : UInt8} {t : List UInt8} (h : code.data.toList.drop pc = b :: c :: d :: t) (hb : b.toNat = 181) : decode code pc = .ok (.putfield (c.toNat * 256 + d.toNat), 3) := qd_dec (by
  delta Decoder.instr
  rw [qd_bind (qd_u1 h), hb]
  exact (qd_bind (r := (Reader.u2 : qd_R _)) (f := fun k => (pure (Instr.putfield k) : qd_R Instr)) (qd_u2 (qd_nx h))))
set_option maxRecDepth 20000 in
theorem qo_182 {code : ByteArray} {pc : Nat} {b c d : UInt8} {t : List UInt8} (h : code.data.toList.drop pc = b :: c :: d :: t) (hb : b.toNat = 182) : decode code pc = .ok (.invokevirtual (c.toNat * 256 + d.toNat), 3) := qd_dec (by
  delta Decoder.instr
  rw [qd_bind (qd_u1 h), hb]
  exact (qd_bind (r := (Reader.u2 : qd_R _)) (f := fun k => (pure (Instr.invokevirtual k) : qd_R Instr)) (qd_u2 (qd_nx h))))
set_option maxRecDepth 20000 in
theorem qo_183 {code : ByteArray} {pc : Nat} {b c d : UInt8} {t : List UInt8} (h : code.data.toList.drop pc = b :: c :: d :: t) (hb : b.toNat = 183) : decode code pc = .ok (.invokespecial (c.toNat * 256 + d.toNat), 3) := qd_dec (by
  delta Decoder.instr
  rw [qd_bind (qd_u1 h), hb]
  exact (qd_bind (r := (Reader.u2 : qd_R _)) (f := fun k => (pure (Instr.invokespecial k) : qd_R Instr)) (qd_u2 (qd_nx h))))
set_option maxRecDepth 20000 in
theorem qo_184 {code : ByteArray} {pc : Nat} {b c d : UInt8} {t : List UInt8} (h : code.data.toList.drop pc = b :: c :: d :: t) (hb : b.toNat = 184) : decode code pc = .ok (.invokestatic (c.toNat * 256 + d.toNat), 3) := qd_dec (by
  delta Decoder.instr
  rw [qd_bind (qd_u1 h), hb]
  exact (qd_bind (r := (Reader.u2 : qd_R _)) (f := fun k => (pure (Instr.invokestatic k) : qd_R Instr)) (qd_u2 (qd_nx h))))
set_option maxRecDepth 20000 in
theorem qo_17 {code : ByteArray} {pc : Nat} {b c d : UInt8} {t : List UInt8} (h : code.data.toList.drop pc = b :: c :: d :: t) (hb : b.toNat = 17) : decode code pc = .ok (.sipush (Reader.signed 16 (c.toNat * 256 + d.toNat)), 3) := qd_dec (by
  delta Decoder.instr
  rw [qd_bind (qd_u1 h), hb]
  exact (qd_bind (r := (Reader.s2 : qd_R _)) (f := fun k => (pure (Instr.sipush k) : qd_R Instr)) (qd_s2 (qd_nx h))))
set_option maxRecDepth 20000 in
theorem qo_167 {code : ByteArray} {pc : Nat} {b c d : UInt8} {t : List UInt8} (h : code.data.toList.drop pc = b :: c :: d :: t) (hb : b.toNat = 167) : decode code pc = .ok (.goto (Reader.signed 16 (c.toNat * 256 + d.toNat)), 3) := qd_dec (by
  delta Decoder.instr
  rw [qd_bind (qd_u1 h), hb]
  exact (qd_bind (r := (Reader.s2 : qd_R _)) (f := fun k => (pure (Instr.goto k) : qd_R Instr)) (qd_s2 (qd_nx h))))
set_option maxRecDepth 20000 in
theorem qo_198 {code : ByteArray} {pc : Nat} {b c d : UInt8} {t : List UInt8} (h : code.data.toList.drop pc = b :: c :: d :: t) (hb : b.toNat = 198) : decode code pc = .ok (.ifnull (Reader.signed 16 (c.toNat * 256 + d.toNat)), 3) := qd_dec (by
  delta Decoder.instr
  rw [qd_bind (qd_u1 h), hb]
  exact (qd_bind (r := (Reader.s2 : qd_R _)) (f := fun k => (pure (Instr.ifnull k) : qd_R Instr)) (qd_s2 (qd_nx h))))
set_option maxRecDepth 20000 in
theorem qo_199 {code : ByteArray} {pc : Nat} {b c d : UInt8} {t : List UInt8} (h : code.data.toList.drop pc = b :: c :: d :: t) (hb : b.toNat = 199) : decode code pc = .ok (.ifnonnull (Reader.signed 16 (c.toNat * 256 + d.toNat)), 3) := qd_dec (by
  delta Decoder.instr
  rw [qd_bind (qd_u1 h), hb]
  exact (qd_bind (r := (Reader.s2 : qd_R _)) (f := fun k => (pure (Instr.ifnonnull k) : qd_R Instr)) (qd_s2 (qd_nx h))))
set_option maxRecDepth 20000 in
theorem qo_153 {code : ByteArray} {pc : Nat} {b c d : UInt8} {t : List UInt8} (h : code.data.toList.drop pc = b :: c :: d :: t) (hb : b.toNat = 153) : decode code pc = .ok (.ifCond .eq (Reader.signed 16 (c.toNat * 256 + d.toNat)), 3) := qd_dec (by
  delta Decoder.instr
  rw [qd_bind (qd_u1 h), hb]
  exact (qd_bind (r := (Reader.s2 : qd_R _)) (f := fun k => (pure (Instr.ifCond .eq k) : qd_R Instr)) (qd_s2 (qd_nx h))))
set_option maxRecDepth 20000 in
theorem qo_154 {code : ByteArray} {pc : Nat} {b c d : UInt8} {t : List UInt8} (h : code.data.toList.drop pc = b :: c :: d :: t) (hb : b.toNat = 154) : decode code pc = .ok (.ifCond .ne (Reader.signed 16 (c.toNat * 256 + d.toNat)), 3) := qd_dec (by
  delta Decoder.instr
  rw [qd_bind (qd_u1 h), hb]
  exact (qd_bind (r := (Reader.s2 : qd_R _)) (f := fun k => (pure (Instr.ifCond .ne k) : qd_R Instr)) (qd_s2 (qd_nx h))))
set_option maxRecDepth 20000 in
theorem qo_155 {code : ByteArray} {pc : Nat} {b c d : UInt8} {t : List UInt8} (h : code.data.toList.drop pc = b :: c :: d :: t) (hb : b.toNat = 155) : decode code pc = .ok (.ifCond .lt (Reader.signed 16 (c.toNat * 256 + d.toNat)), 3) := qd_dec (by
  delta Decoder.instr
  rw [qd_bind (qd_u1 h), hb]
  exact (qd_bind (r := (Reader.s2 : qd_R _)) (f := fun k => (pure (Instr.ifCond .lt k) : qd_R Instr)) (qd_s2 (qd_nx h))))
set_option maxRecDepth 20000 in
theorem qo_156 {code : ByteArray} {pc : Nat} {b c d : UInt8} {t : List UInt8} (h : code.data.toList.drop pc = b :: c :: d :: t) (hb : b.toNat = 156) : decode code pc = .ok (.ifCond .ge (Reader.signed 16 (c.toNat * 256 + d.toNat)), 3) := qd_dec (by
  delta Decoder.instr
  rw [qd_bind (qd_u1 h), hb]
  exact (qd_bind (r := (Reader.s2 : qd_R _)) (f := fun k => (pure (Instr.ifCond .ge k) : qd_R Instr)) (qd_s2 (qd_nx h))))
set_option maxRecDepth 20000 in
theorem qo_157 {code : ByteArray} {pc : Nat} {b c d : UInt8} {t : List UInt8} (h : code.data.toList.drop pc = b :: c :: d :: t) (hb : b.toNat = 157) : decode code pc = .ok (.ifCond .gt (Reader.signed 16 (c.toNat * 256 + d.toNat)), 3) := qd_dec (by
  delta Decoder.instr
  rw [qd_bind (qd_u1 h), hb]
  exact (qd_bind (r := (Reader.s2 : qd_R _)) (f := fun k => (pure (Instr.ifCond .gt k) : qd_R Instr)) (qd_s2 (qd_nx h))))
set_option maxRecDepth 20000 in
theorem qo_158 {code : ByteArray} {pc : Nat} {b c d : UInt8} {t : List UInt8} (h : code.data.toList.drop pc = b :: c :: d :: t) (hb : b.toNat = 158) : decode code pc = .ok (.ifCond .le (Reader.signed 16 (c.toNat * 256 + d.toNat)), 3) := qd_dec (by
  delta Decoder.instr
  rw [qd_bind (qd_u1 h), hb]
  exact (qd_bind (r := (Reader.s2 : qd_R _)) (f := fun k => (pure (Instr.ifCond .le k) : qd_R Instr)) (qd_s2 (qd_nx h))))
set_option maxRecDepth 20000 in
theorem qo_159 {code : ByteArray} {pc : Nat} {b c d : UInt8} {t : List UInt8} (h : code.data.toList.drop pc = b :: c :: d :: t) (hb : b.toNat = 159) : decode code pc = .ok (.if_icmp .eq (Reader.signed 16 (c.toNat * 256 + d.toNat)), 3) := qd_dec (by
  delta Decoder.instr
  rw [qd_bind (qd_u1 h), hb]
  exact (qd_bind (r := (Reader.s2 : qd_R _)) (f := fun k => (pure (Instr.if_icmp .eq k) : qd_R Instr)) (qd_s2 (qd_nx h))))
set_option maxRecDepth 20000 in
theorem qo_160 {code : ByteArray} {pc : Nat} {b c d : UInt8} {t : List UInt8} (h : code.data.toList.drop pc = b :: c :: d :: t) (hb : b.toNat = 160) : decode code pc = .ok (.if_icmp .ne (Reader.signed 16 (c.toNat * 256 + d.toNat)), 3) := qd_dec (by
  delta Decoder.instr
  rw [qd_bind (qd_u1 h), hb]
  exact (qd_bind (r := (Reader.s2 : qd_R _)) (f := fun k => (pure (Instr.if_icmp .ne k) : qd_R Instr)) (qd_s2 (qd_nx h))))
set_option maxRecDepth 20000 in
theorem qo_161 {code : ByteArray} {pc : Nat} {b c d : UInt8} {t : List UInt8} (h : code.data.toList.drop pc = b :: c :: d :: t) (hb : b.toNat = 161) : decode code pc = .ok (.if_icmp .lt (Reader.signed 16 (c.toNat * 256 + d.toNat)), 3) := qd_dec (by
  delta Decoder.instr
  rw [qd_bind (qd_u1 h), hb]
  exact (qd_bind (r := (Reader.s2 : qd_R _)) (f := fun k => (pure (Instr.if_icmp .lt k) : qd_R Instr)) (qd_s2 (qd_nx h))))
set_option maxRecDepth 20000 in
theorem qo_162 {code : ByteArray} {pc : Nat} {b c d : UInt8} {t : List UInt8} (h : code.data.toList.drop pc = b :: c :: d :: t) (hb : b.toNat = 162) : decode code pc = .ok (.if_icmp .ge (Reader.signed 16 (c.toNat * 256 + d.toNat)), 3) := qd_dec (by
  delta Decoder.instr
  rw [qd_bind (qd_u1 h), hb]
  exact (qd_bind (r := (Reader.s2 : qd_R _)) (f := fun k => (pure (Instr.if_icmp .ge k) : qd_R Instr)) (qd_s2 (qd_nx h))))
set_option maxRecDepth 20000 in
theorem qo_163 {code : ByteArray} {pc : Nat} {b c d : UInt8} {t : List UInt8} (h : code.data.toList.drop pc = b :: c :: d :: t) (hb : b.toNat = 163) : decode code pc = .ok (.if_icmp .gt (Reader.signed 16 (c.toNat * 256 + d.toNat)), 3) := qd_dec (by
  delta Decoder.instr
  rw [qd_bind (qd_u1 h), hb]
  exact (qd_bind (r := (Reader.s2 : qd_R _)) (f := fun k => (pure (Instr.if_icmp .gt k) : qd_R Instr)) (qd_s2 (qd_nx h))))
set_option maxRecDepth 20000 in
theorem qo_164 {code : ByteArray} {pc : Nat} {b c d : UInt8} {t : List UInt8} (h : code.data.toList.drop pc = b :: c :: d :: t) (hb : b.toNat = 164) : decode code pc = .ok (.if_icmp .le (Reader.signed 16 (c.toNat * 256 + d.toNat)), 3) := qd_dec (by
  delta Decoder.instr
  rw [qd_bind (qd_u1 h), hb]
  exact (qd_bind (r := (Reader.s2 : qd_R _)) (f := fun k => (pure (Instr.if_icmp .le k) : qd_R Instr)) (qd_s2 (qd_nx h))))
set_option maxRecDepth 20000 in
theorem qo_132 {code : ByteArray} {pc : Nat} {b c d : UInt8} {t : List UInt8} (h : code.data.toList.drop pc = b :: c :: d :: t) (hb : b.toNat = 132) : decode code pc = .ok (.iinc c.toNat (Reader.signed 8 d.toNat), 3) := qd_dec (by
  delta Decoder.instr
  rw [qd_bind (qd_u1 h), hb]
  exact (qd_bind (r := (Reader.u1 : qd_R Nat)) (f := fun k => ((Reader.s1 : qd_R Int) >>= fun v => (pure (Instr.iinc k v) : qd_R Instr))) (qd_u1 (qd_nx h))).trans (qd_bind (r := (Reader.s1 : qd_R Int)) (qd_s1 (qd_nx (qd_nx h)))))
def qd_op : Instr → Nat
  | .aconst_null => 1
  | .iaload => 46
  | .laload => 47
  | .aaload => 50
  | .baload => 51
  | .iastore => 79
  | .lastore => 80
  | .aastore => 83
  | .bastore => 84
  | .pop => 87
  | .dup => 89
  | .dup2 => 92
  | .iadd => 96
  | .ladd => 97
  | .isub => 100
  | .lsub => 101
  | .imul => 104
  | .lmul => 105
  | .idiv => 108
  | .ldiv => 109
  | .irem => 112
  | .lrem => 113
  | .ineg => 116
  | .lneg => 117
  | .ishl => 120
  | .ishr => 122
  | .iushr => 124
  | .iand => 126
  | .ior => 128
  | .ixor => 130
  | .i2l => 133
  | .l2i => 136
  | .i2b => 145
  | .i2c => 146
  | .lcmp => 148
  | .ireturn => 172
  | .lreturn => 173
  | .return_ => 177
  | .arraylength => 190
  | .iload_n n => 26 + n.val
  | .lload_n n => 30 + n.val
  | .aload_n n => 42 + n.val
  | .istore_n n => 59 + n.val
  | .lstore_n n => 63 + n.val
  | .astore_n n => 75 + n.val
  | .lconst n => 9 + n.val
  | _ => 256
def qd_cc : Jvm.ClassFile.Cond → Nat
  | .eq => 0
  | .ne => 1
  | .lt => 2
  | .ge => 3
  | .gt => 4
  | .le => 5
def qd_ck (b : UInt8) (t : List UInt8) : Instr → Bool
  | .iconst i => Nat.ble 2 b.toNat && (Nat.ble b.toNat 8 && decide ((b.toNat : Int) = i + 3))
  | .ldc v => Nat.beq b.toNat 18 && qd_h1 t (fun k => Nat.beq k v)
  | .iload v => Nat.beq b.toNat 21 && qd_h1 t (fun k => Nat.beq k v)
  | .lload v => Nat.beq b.toNat 22 && qd_h1 t (fun k => Nat.beq k v)
  | .aload v => Nat.beq b.toNat 25 && qd_h1 t (fun k => Nat.beq k v)
  | .istore v => Nat.beq b.toNat 54 && qd_h1 t (fun k => Nat.beq k v)
  | .lstore v => Nat.beq b.toNat 55 && qd_h1 t (fun k => Nat.beq k v)
  | .astore v => Nat.beq b.toNat 58 && qd_h1 t (fun k => Nat.beq k v)
  | .bipush v => Nat.beq b.toNat 16 && qd_h1 t (fun k => decide (Reader.signed 8 k = v))
  | .ldc_w v => Nat.beq b.toNat 19 && qd_h2 t (fun k => Nat.beq k v)
  | .ldc2_w v => Nat.beq b.toNat 20 && qd_h2 t (fun k => Nat.beq k v)
  | .getfield v => Nat.beq b.toNat 180 && qd_h2 t (fun k => Nat.beq k v)
  | .putfield v => Nat.beq b.toNat 181 && qd_h2 t (fun k => Nat.beq k v)
  | .invokevirtual v => Nat.beq b.toNat 182 && qd_h2 t (fun k => Nat.beq k v)
  | .invokespecial v => Nat.beq b.toNat 183 && qd_h2 t (fun k => Nat.beq k v)
  | .invokestatic v => Nat.beq b.toNat 184 && qd_h2 t (fun k => Nat.beq k v)
  | .sipush v => Nat.beq b.toNat 17 && qd_h2 t (fun k => decide (Reader.signed 16 k = v))
  | .goto v => Nat.beq b.toNat 167 && qd_h2 t (fun k => decide (Reader.signed 16 k = v))
  | .ifnull v => Nat.beq b.toNat 198 && qd_h2 t (fun k => decide (Reader.signed 16 k = v))
  | .ifnonnull v => Nat.beq b.toNat 199 && qd_h2 t (fun k => decide (Reader.signed 16 k = v))
  | .ifCond q v => Nat.beq b.toNat (153 + qd_cc q) && qd_h2 t (fun k => decide (Reader.signed 16 k = v))
  | .if_icmp q v => Nat.beq b.toNat (159 + qd_cc q) && qd_h2 t (fun k => decide (Reader.signed 16 k = v))
  | .iinc w v => Nat.beq b.toNat 132 && qd_h1 t (fun k => Nat.beq k w && qd_h1 (t.drop 1) (fun k => decide (Reader.signed 8 k = v)))
  | I => Nat.beq b.toNat (qd_op I)
theorem qd_ck_ok {code : ByteArray} {pc : Nat} {b : UInt8} {t : List UInt8} (h : code.data.toList.drop pc = b :: t) (I : Instr) (hk : qd_ck b t I = true) : decode code pc = .ok (I, ilen I) := by
  cases I with
  | aaload => exact qo_50 h (Nat.eq_of_beq_eq_true hk)
  | aastore => exact qo_83 h (Nat.eq_of_beq_eq_true hk)
  | aconst_null => exact qo_1 h (Nat.eq_of_beq_eq_true hk)
  | aload v =>
    have hk' : (Nat.beq b.toNat 25 && qd_h1 t (fun k => Nat.beq k v)) = true := hk
    obtain ⟨h1, h2⟩ := qd_and hk'
    obtain ⟨c, r, rfl, h3⟩ := qd_h1_ok h2
    have e := Nat.eq_of_beq_eq_true h3
    subst e
    exact qo_25 h (Nat.eq_of_beq_eq_true h1)
  | aload_n n =>
    have e : b.toNat = 42 + n.val := Nat.eq_of_beq_eq_true hk
    obtain ⟨v, hv⟩ := n
    match v, hv, e with
    | 0, _, e => exact qo_42 h e
    | 1, _, e => exact qo_43 h e
    | 2, _, e => exact qo_44 h e
    | 3, _, e => exact qo_45 h e
    | z + 4, hv, _ => exact absurd hv (by omega)
  | anewarray _ => exact (qd_no (Nat.eq_of_beq_eq_true hk)).elim
  | areturn => exact (qd_no (Nat.eq_of_beq_eq_true hk)).elim
  | arraylength => exact qo_190 h (Nat.eq_of_beq_eq_true hk)
  | astore v =>
    have hk' : (Nat.beq b.toNat 58 && qd_h1 t (fun k => Nat.beq k v)) = true := hk
    obtain ⟨h1, h2⟩ := qd_and hk'
    obtain ⟨c, r, rfl, h3⟩ := qd_h1_ok h2
    have e := Nat.eq_of_beq_eq_true h3
    subst e
    exact qo_58 h (Nat.eq_of_beq_eq_true h1)
  | astore_n n =>
    have e : b.toNat = 75 + n.val := Nat.eq_of_beq_eq_true hk
    obtain ⟨v, hv⟩ := n
    match v, hv, e with
    | 0, _, e => exact qo_75 h e
    | 1, _, e => exact qo_76 h e
    | 2, _, e => exact qo_77 h e
    | 3, _, e => exact qo_78 h e
    | z + 4, hv, _ => exact absurd hv (by omega)
  | athrow => exact (qd_no (Nat.eq_of_beq_eq_true hk)).elim
  | baload => exact qo_51 h (Nat.eq_of_beq_eq_true hk)
  | bastore => exact qo_84 h (Nat.eq_of_beq_eq_true hk)
  | bipush v =>
    have hk' : (Nat.beq b.toNat 16 && qd_h1 t (fun k => decide (Reader.signed 8 k = v))) = true := hk
    obtain ⟨h1, h2⟩ := qd_and hk'
    obtain ⟨c, r, rfl, h3⟩ := qd_h1_ok h2
    have e := of_decide_eq_true h3
    subst e
    exact qo_16 h (Nat.eq_of_beq_eq_true h1)
  | caload => exact (qd_no (Nat.eq_of_beq_eq_true hk)).elim
  | castore => exact (qd_no (Nat.eq_of_beq_eq_true hk)).elim
  | checkcast _ => exact (qd_no (Nat.eq_of_beq_eq_true hk)).elim
  | d2f => exact (qd_no (Nat.eq_of_beq_eq_true hk)).elim
  | d2i => exact (qd_no (Nat.eq_of_beq_eq_true hk)).elim
  | d2l => exact (qd_no (Nat.eq_of_beq_eq_true hk)).elim
  | dadd => exact (qd_no (Nat.eq_of_beq_eq_true hk)).elim
  | daload => exact (qd_no (Nat.eq_of_beq_eq_true hk)).elim
  | dastore => exact (qd_no (Nat.eq_of_beq_eq_true hk)).elim
  | dcmp _ => exact (qd_no (Nat.eq_of_beq_eq_true hk)).elim
  | dconst _ => exact (qd_no (Nat.eq_of_beq_eq_true hk)).elim
  | ddiv => exact (qd_no (Nat.eq_of_beq_eq_true hk)).elim
  | dload _ => exact (qd_no (Nat.eq_of_beq_eq_true hk)).elim
  | dload_n _ => exact (qd_no (Nat.eq_of_beq_eq_true hk)).elim
  | dmul => exact (qd_no (Nat.eq_of_beq_eq_true hk)).elim
  | dneg => exact (qd_no (Nat.eq_of_beq_eq_true hk)).elim
  | drem => exact (qd_no (Nat.eq_of_beq_eq_true hk)).elim
  | dreturn => exact (qd_no (Nat.eq_of_beq_eq_true hk)).elim
  | dstore _ => exact (qd_no (Nat.eq_of_beq_eq_true hk)).elim
  | dstore_n _ => exact (qd_no (Nat.eq_of_beq_eq_true hk)).elim
  | dsub => exact (qd_no (Nat.eq_of_beq_eq_true hk)).elim
  | dup => exact qo_89 h (Nat.eq_of_beq_eq_true hk)
  | dup_x1 => exact (qd_no (Nat.eq_of_beq_eq_true hk)).elim
  | dup_x2 => exact (qd_no (Nat.eq_of_beq_eq_true hk)).elim
  | dup2 => exact qo_92 h (Nat.eq_of_beq_eq_true hk)
  | dup2_x1 => exact (qd_no (Nat.eq_of_beq_eq_true hk)).elim
  | dup2_x2 => exact (qd_no (Nat.eq_of_beq_eq_true hk)).elim
  | f2d => exact (qd_no (Nat.eq_of_beq_eq_true hk)).elim
  | f2i => exact (qd_no (Nat.eq_of_beq_eq_true hk)).elim
  | f2l => exact (qd_no (Nat.eq_of_beq_eq_true hk)).elim
  | fadd => exact (qd_no (Nat.eq_of_beq_eq_true hk)).elim
  | faload => exact (qd_no (Nat.eq_of_beq_eq_true hk)).elim
  | fastore => exact (qd_no (Nat.eq_of_beq_eq_true hk)).elim
  | fcmp _ => exact (qd_no (Nat.eq_of_beq_eq_true hk)).elim
  | fconst _ => exact (qd_no (Nat.eq_of_beq_eq_true hk)).elim
  | fdiv => exact (qd_no (Nat.eq_of_beq_eq_true hk)).elim
  | fload _ => exact (qd_no (Nat.eq_of_beq_eq_true hk)).elim
  | fload_n _ => exact (qd_no (Nat.eq_of_beq_eq_true hk)).elim
  | fmul => exact (qd_no (Nat.eq_of_beq_eq_true hk)).elim
  | fneg => exact (qd_no (Nat.eq_of_beq_eq_true hk)).elim
  | frem => exact (qd_no (Nat.eq_of_beq_eq_true hk)).elim
  | freturn => exact (qd_no (Nat.eq_of_beq_eq_true hk)).elim
  | fstore _ => exact (qd_no (Nat.eq_of_beq_eq_true hk)).elim
  | fstore_n _ => exact (qd_no (Nat.eq_of_beq_eq_true hk)).elim
  | fsub => exact (qd_no (Nat.eq_of_beq_eq_true hk)).elim
  | getfield v =>
    have hk' : (Nat.beq b.toNat 180 && qd_h2 t (fun k => Nat.beq k v)) = true := hk
    obtain ⟨h1, h2⟩ := qd_and hk'
    obtain ⟨c, d, r, rfl, h3⟩ := qd_h2_ok h2
    have e := Nat.eq_of_beq_eq_true h3
    subst e
    exact qo_180 h (Nat.eq_of_beq_eq_true h1)
  | getstatic _ => exact (qd_no (Nat.eq_of_beq_eq_true hk)).elim
  | goto v =>
    have hk' : (Nat.beq b.toNat 167 && qd_h2 t (fun k => decide (Reader.signed 16 k = v))) = true := hk
    obtain ⟨h1, h2⟩ := qd_and hk'
    obtain ⟨c, d, r, rfl, h3⟩ := qd_h2_ok h2
    have e := of_decide_eq_true h3
    subst e
    exact qo_167 h (Nat.eq_of_beq_eq_true h1)
  | goto_w _ => exact (qd_no (Nat.eq_of_beq_eq_true hk)).elim
  | i2b => exact qo_145 h (Nat.eq_of_beq_eq_true hk)
  | i2c => exact qo_146 h (Nat.eq_of_beq_eq_true hk)
  | i2d => exact (qd_no (Nat.eq_of_beq_eq_true hk)).elim
  | i2f => exact (qd_no (Nat.eq_of_beq_eq_true hk)).elim
  | i2l => exact qo_133 h (Nat.eq_of_beq_eq_true hk)
  | i2s => exact (qd_no (Nat.eq_of_beq_eq_true hk)).elim
  | iadd => exact qo_96 h (Nat.eq_of_beq_eq_true hk)
  | iaload => exact qo_46 h (Nat.eq_of_beq_eq_true hk)
  | iand => exact qo_126 h (Nat.eq_of_beq_eq_true hk)
  | iastore => exact qo_79 h (Nat.eq_of_beq_eq_true hk)
  | iconst i =>
    have hk' : (Nat.ble 2 b.toNat && (Nat.ble b.toNat 8 && decide ((b.toNat : Int) = i + 3))) = true := hk
    obtain ⟨h1, h2⟩ := qd_and hk'
    obtain ⟨h3, h4⟩ := qd_and h2
    have h5 := Nat.le_of_ble_eq_true h1
    have h6 := Nat.le_of_ble_eq_true h3
    have h7 := of_decide_eq_true h4
    have h8 : b.toNat = 2 ∨ b.toNat = 3 ∨ b.toNat = 4 ∨ b.toNat = 5 ∨ b.toNat = 6 ∨ b.toNat = 7 ∨ b.toNat = 8 := by omega
    rcases h8 with e | e | e | e | e | e | e
    · have hi : i = -1 := by omega
      subst hi
      exact qo_2 h e
    · have hi : i = 0 := by omega
      subst hi
      exact qo_3 h e
    · have hi : i = 1 := by omega
      subst hi
      exact qo_4 h e
    · have hi : i = 2 := by omega
      subst hi
      exact qo_5 h e
    · have hi : i = 3 := by omega
      subst hi
      exact qo_6 h e
    · have hi : i = 4 := by omega
      subst hi
      exact qo_7 h e
    · have hi : i = 5 := by omega
      subst hi
      exact qo_8 h e
  | idiv => exact qo_108 h (Nat.eq_of_beq_eq_true hk)
  | if_acmp _ _ => exact (qd_no (Nat.eq_of_beq_eq_true hk)).elim
  | if_icmp q v =>
    have hk' : (Nat.beq b.toNat (159 + qd_cc q) && qd_h2 t (fun k => decide (Reader.signed 16 k = v))) = true := hk
    obtain ⟨h1, h2⟩ := qd_and hk'
    obtain ⟨c, d, r, rfl, h3⟩ := qd_h2_ok h2
    have e := of_decide_eq_true h3
    subst e
    have e1 := Nat.eq_of_beq_eq_true h1
    cases q with
    | eq => exact qo_159 h e1
    | ne => exact qo_160 h e1
    | lt => exact qo_161 h e1
    | ge => exact qo_162 h e1
    | gt => exact qo_163 h e1
    | le => exact qo_164 h e1
  | ifCond q v =>
    have hk' : (Nat.beq b.toNat (153 + qd_cc q) && qd_h2 t (fun k => decide (Reader.signed 16 k = v))) = true := hk
    obtain ⟨h1, h2⟩ := qd_and hk'
    obtain ⟨c, d, r, rfl, h3⟩ := qd_h2_ok h2
    have e := of_decide_eq_true h3
    subst e
    have e1 := Nat.eq_of_beq_eq_true h1
    cases q with
    | eq => exact qo_153 h e1
    | ne => exact qo_154 h e1
    | lt => exact qo_155 h e1
    | ge => exact qo_156 h e1
    | gt => exact qo_157 h e1
    | le => exact qo_158 h e1
  | ifnonnull v =>
    have hk' : (Nat.beq b.toNat 199 && qd_h2 t (fun k => decide (Reader.signed 16 k = v))) = true := hk
    obtain ⟨h1, h2⟩ := qd_and hk'
    obtain ⟨c, d, r, rfl, h3⟩ := qd_h2_ok h2
    have e := of_decide_eq_true h3
    subst e
    exact qo_199 h (Nat.eq_of_beq_eq_true h1)
  | ifnull v =>
    have hk' : (Nat.beq b.toNat 198 && qd_h2 t (fun k => decide (Reader.signed 16 k = v))) = true := hk
    obtain ⟨h1, h2⟩ := qd_and hk'
    obtain ⟨c, d, r, rfl, h3⟩ := qd_h2_ok h2
    have e := of_decide_eq_true h3
    subst e
    exact qo_198 h (Nat.eq_of_beq_eq_true h1)
  | iinc w v =>
    have hk' : (Nat.beq b.toNat 132 && qd_h1 t (fun k => Nat.beq k w && qd_h1 (t.drop 1) (fun k => decide (Reader.signed 8 k = v)))) = true := hk
    obtain ⟨h1, h2⟩ := qd_and hk'
    obtain ⟨c, r, rfl, h3⟩ := qd_h1_ok h2
    obtain ⟨h4, h5⟩ := qd_and h3
    obtain ⟨d, r', er, h6⟩ := qd_h1_ok h5
    have er' : r = d :: r' := er
    subst er'
    have e := Nat.eq_of_beq_eq_true h4
    subst e
    have e2 := of_decide_eq_true h6
    subst e2
    exact qo_132 h (Nat.eq_of_beq_eq_true h1)
  | iload v =>
    have hk' : (Nat.beq b.toNat 21 && qd_h1 t (fun k => Nat.beq k v)) = true := hk
    obtain ⟨h1, h2⟩ := qd_and hk'
    obtain ⟨c, r, rfl, h3⟩ := qd_h1_ok h2
    have e := Nat.eq_of_beq_eq_true h3
    subst e
    exact qo_21 h (Nat.eq_of_beq_eq_true h1)
  | iload_n n =>
    have e : b.toNat = 26 + n.val := Nat.eq_of_beq_eq_true hk
    obtain ⟨v, hv⟩ := n
    match v, hv, e with
    | 0, _, e => exact qo_26 h e
    | 1, _, e => exact qo_27 h e
    | 2, _, e => exact qo_28 h e
    | 3, _, e => exact qo_29 h e
    | z + 4, hv, _ => exact absurd hv (by omega)
  | imul => exact qo_104 h (Nat.eq_of_beq_eq_true hk)
  | ineg => exact qo_116 h (Nat.eq_of_beq_eq_true hk)
  | instanceof _ => exact (qd_no (Nat.eq_of_beq_eq_true hk)).elim
  | invokedynamic _ => exact (qd_no (Nat.eq_of_beq_eq_true hk)).elim
  | invokeinterface _ _ => exact (qd_no (Nat.eq_of_beq_eq_true hk)).elim
  | invokespecial v =>
    have hk' : (Nat.beq b.toNat 183 && qd_h2 t (fun k => Nat.beq k v)) = true := hk
    obtain ⟨h1, h2⟩ := qd_and hk'
    obtain ⟨c, d, r, rfl, h3⟩ := qd_h2_ok h2
    have e := Nat.eq_of_beq_eq_true h3
    subst e
    exact qo_183 h (Nat.eq_of_beq_eq_true h1)
  | invokestatic v =>
    have hk' : (Nat.beq b.toNat 184 && qd_h2 t (fun k => Nat.beq k v)) = true := hk
    obtain ⟨h1, h2⟩ := qd_and hk'
    obtain ⟨c, d, r, rfl, h3⟩ := qd_h2_ok h2
    have e := Nat.eq_of_beq_eq_true h3
    subst e
    exact qo_184 h (Nat.eq_of_beq_eq_true h1)
  | invokevirtual v =>
    have hk' : (Nat.beq b.toNat 182 && qd_h2 t (fun k => Nat.beq k v)) = true := hk
    obtain ⟨h1, h2⟩ := qd_and hk'
    obtain ⟨c, d, r, rfl, h3⟩ := qd_h2_ok h2
    have e := Nat.eq_of_beq_eq_true h3
    subst e
    exact qo_182 h (Nat.eq_of_beq_eq_true h1)
  | ior => exact qo_128 h (Nat.eq_of_beq_eq_true hk)
  | irem => exact qo_112 h (Nat.eq_of_beq_eq_true hk)
  | ireturn => exact qo_172 h (Nat.eq_of_beq_eq_true hk)
  | ishl => exact qo_120 h (Nat.eq_of_beq_eq_true hk)
  | ishr => exact qo_122 h (Nat.eq_of_beq_eq_true hk)
  | istore v =>
    have hk' : (Nat.beq b.toNat 54 && qd_h1 t (fun k => Nat.beq k v)) = true := hk
    obtain ⟨h1, h2⟩ := qd_and hk'
    obtain ⟨c, r, rfl, h3⟩ := qd_h1_ok h2
    have e := Nat.eq_of_beq_eq_true h3
    subst e
    exact qo_54 h (Nat.eq_of_beq_eq_true h1)
  | istore_n n =>
    have e : b.toNat = 59 + n.val := Nat.eq_of_beq_eq_true hk
    obtain ⟨v, hv⟩ := n
    match v, hv, e with
    | 0, _, e => exact qo_59 h e
    | 1, _, e => exact qo_60 h e
    | 2, _, e => exact qo_61 h e
    | 3, _, e => exact qo_62 h e
    | z + 4, hv, _ => exact absurd hv (by omega)
  | isub => exact qo_100 h (Nat.eq_of_beq_eq_true hk)
  | iushr => exact qo_124 h (Nat.eq_of_beq_eq_true hk)
  | ixor => exact qo_130 h (Nat.eq_of_beq_eq_true hk)
  | jsr _ => exact (qd_no (Nat.eq_of_beq_eq_true hk)).elim
  | jsr_w _ => exact (qd_no (Nat.eq_of_beq_eq_true hk)).elim
  | l2d => exact (qd_no (Nat.eq_of_beq_eq_true hk)).elim
  | l2f => exact (qd_no (Nat.eq_of_beq_eq_true hk)).elim
  | l2i => exact qo_136 h (Nat.eq_of_beq_eq_true hk)
  | ladd => exact qo_97 h (Nat.eq_of_beq_eq_true hk)
  | laload => exact qo_47 h (Nat.eq_of_beq_eq_true hk)
  | land => exact (qd_no (Nat.eq_of_beq_eq_true hk)).elim
  | lastore => exact qo_80 h (Nat.eq_of_beq_eq_true hk)
  | lcmp => exact qo_148 h (Nat.eq_of_beq_eq_true hk)
  | lconst n =>
    have e : b.toNat = 9 + n.val := Nat.eq_of_beq_eq_true hk
    obtain ⟨v, hv⟩ := n
    match v, hv, e with
    | 0, _, e => exact qo_9 h e
    | 1, _, e => exact qo_10 h e
    | z + 2, hv, _ => exact absurd hv (by omega)
  | ldc v =>
    have hk' : (Nat.beq b.toNat 18 && qd_h1 t (fun k => Nat.beq k v)) = true := hk
    obtain ⟨h1, h2⟩ := qd_and hk'
    obtain ⟨c, r, rfl, h3⟩ := qd_h1_ok h2
    have e := Nat.eq_of_beq_eq_true h3
    subst e
    exact qo_18 h (Nat.eq_of_beq_eq_true h1)
  | ldc_w v =>
    have hk' : (Nat.beq b.toNat 19 && qd_h2 t (fun k => Nat.beq k v)) = true := hk
    obtain ⟨h1, h2⟩ := qd_and hk'
    obtain ⟨c, d, r, rfl, h3⟩ := qd_h2_ok h2
    have e := Nat.eq_of_beq_eq_true h3
    subst e
    exact qo_19 h (Nat.eq_of_beq_eq_true h1)
  | ldc2_w v =>
    have hk' : (Nat.beq b.toNat 20 && qd_h2 t (fun k => Nat.beq k v)) = true := hk
    obtain ⟨h1, h2⟩ := qd_and hk'
    obtain ⟨c, d, r, rfl, h3⟩ := qd_h2_ok h2
    have e := Nat.eq_of_beq_eq_true h3
    subst e
    exact qo_20 h (Nat.eq_of_beq_eq_true h1)
  | ldiv => exact qo_109 h (Nat.eq_of_beq_eq_true hk)
  | lload v =>
    have hk' : (Nat.beq b.toNat 22 && qd_h1 t (fun k => Nat.beq k v)) = true := hk
    obtain ⟨h1, h2⟩ := qd_and hk'
    obtain ⟨c, r, rfl, h3⟩ := qd_h1_ok h2
    have e := Nat.eq_of_beq_eq_true h3
    subst e
    exact qo_22 h (Nat.eq_of_beq_eq_true h1)
  | lload_n n =>
    have e : b.toNat = 30 + n.val := Nat.eq_of_beq_eq_true hk
    obtain ⟨v, hv⟩ := n
    match v, hv, e with
    | 0, _, e => exact qo_30 h e
    | 1, _, e => exact qo_31 h e
    | 2, _, e => exact qo_32 h e
    | 3, _, e => exact qo_33 h e
    | z + 4, hv, _ => exact absurd hv (by omega)
  | lmul => exact qo_105 h (Nat.eq_of_beq_eq_true hk)
  | lneg => exact qo_117 h (Nat.eq_of_beq_eq_true hk)
  | lookupswitch _ _ => exact (qd_no (Nat.eq_of_beq_eq_true hk)).elim
  | lor => exact (qd_no (Nat.eq_of_beq_eq_true hk)).elim
  | lrem => exact qo_113 h (Nat.eq_of_beq_eq_true hk)
  | lreturn => exact qo_173 h (Nat.eq_of_beq_eq_true hk)
  | lshl => exact (qd_no (Nat.eq_of_beq_eq_true hk)).elim
  | lshr => exact (qd_no (Nat.eq_of_beq_eq_true hk)).elim
  | lstore v =>
    have hk' : (Nat.beq b.toNat 55 && qd_h1 t (fun k => Nat.beq k v)) = true := hk
    obtain ⟨h1, h2⟩ := qd_and hk'
    obtain ⟨c, r, rfl, h3⟩ := qd_h1_ok h2
    have e := Nat.eq_of_beq_eq_true h3
    subst e
    exact qo_55 h (Nat.eq_of_beq_eq_true h1)
  | lstore_n n =>
    have e : b.toNat = 63 + n.val := Nat.eq_of_beq_eq_true hk
    obtain ⟨v, hv⟩ := n
    match v, hv, e with
    | 0, _, e => exact qo_63 h e
    | 1, _, e => exact qo_64 h e
    | 2, _, e => exact qo_65 h e
    | 3, _, e => exact qo_66 h e
    | z + 4, hv, _ => exact absurd hv (by omega)
  | lsub => exact qo_101 h (Nat.eq_of_beq_eq_true hk)
  | lushr => exact (qd_no (Nat.eq_of_beq_eq_true hk)).elim
  | lxor => exact (qd_no (Nat.eq_of_beq_eq_true hk)).elim
  | monitorenter => exact (qd_no (Nat.eq_of_beq_eq_true hk)).elim
  | monitorexit => exact (qd_no (Nat.eq_of_beq_eq_true hk)).elim
  | multianewarray _ _ => exact (qd_no (Nat.eq_of_beq_eq_true hk)).elim
  | new _ => exact (qd_no (Nat.eq_of_beq_eq_true hk)).elim
  | newarray _ => exact (qd_no (Nat.eq_of_beq_eq_true hk)).elim
  | nop => exact (qd_no (Nat.eq_of_beq_eq_true hk)).elim
  | pop => exact qo_87 h (Nat.eq_of_beq_eq_true hk)
  | pop2 => exact (qd_no (Nat.eq_of_beq_eq_true hk)).elim
  | putfield v =>
    have hk' : (Nat.beq b.toNat 181 && qd_h2 t (fun k => Nat.beq k v)) = true := hk
    obtain ⟨h1, h2⟩ := qd_and hk'
    obtain ⟨c, d, r, rfl, h3⟩ := qd_h2_ok h2
    have e := Nat.eq_of_beq_eq_true h3
    subst e
    exact qo_181 h (Nat.eq_of_beq_eq_true h1)
  | putstatic _ => exact (qd_no (Nat.eq_of_beq_eq_true hk)).elim
  | ret _ => exact (qd_no (Nat.eq_of_beq_eq_true hk)).elim
  | return_ => exact qo_177 h (Nat.eq_of_beq_eq_true hk)
  | saload => exact (qd_no (Nat.eq_of_beq_eq_true hk)).elim
  | sastore => exact (qd_no (Nat.eq_of_beq_eq_true hk)).elim
  | sipush v =>
    have hk' : (Nat.beq b.toNat 17 && qd_h2 t (fun k => decide (Reader.signed 16 k = v))) = true := hk
    obtain ⟨h1, h2⟩ := qd_and hk'
    obtain ⟨c, d, r, rfl, h3⟩ := qd_h2_ok h2
    have e := of_decide_eq_true h3
    subst e
    exact qo_17 h (Nat.eq_of_beq_eq_true h1)
  | swap => exact (qd_no (Nat.eq_of_beq_eq_true hk)).elim
  | tableswitch _ _ _ _ => exact (qd_no (Nat.eq_of_beq_eq_true hk)).elim
def qd_on (l : List UInt8) (f : UInt8 → List UInt8 → Bool) : Bool := match l with
  | b :: t => f b t
  | [] => false
theorem qd_on_ok {l : List UInt8} {f : UInt8 → List UInt8 → Bool} (h : qd_on l f = true) : ∃ b t, l = b :: t ∧ f b t = true := by
  cases l with
  | nil => cases h
  | cons b t => exact ⟨b, t, rfl, h⟩
def qd_sw (P : PL) : List ME → List UInt8 → Nat → Bool
  | [], _, _ => true
  | E :: r, l, p => Nat.ble p E.1 && qd_on (l.drop (E.1 - p)) (fun b t => qd_ck b t E.2.1 && (exE P E.1 E.2.1 E.2.2.1 E.2.2.2.1 E.2.2.2.2 && qd_sw P r (b :: t) E.1))
theorem qd_sw_ok {code : ByteArray} {P : PL} : ∀ (cd : List ME) (l : List UInt8) (p : Nat), code.data.toList.drop p = l → qd_sw P cd l p = true → ∀ E ∈ cd, decode code E.1 = .ok (E.2.1, ilen E.2.1) ∧ exE P E.1 E.2.1 E.2.2.1 E.2.2.2.1 E.2.2.2.2 = true
  | [], _, _, _, _, E, hE => by cases hE
  | D :: r, l, p, hl, h, E, hE => by
    have h' : (Nat.ble p D.1 && qd_on (l.drop (D.1 - p)) (fun b t => qd_ck b t D.2.1 && (exE P D.1 D.2.1 D.2.2.1 D.2.2.2.1 D.2.2.2.2 && qd_sw P r (b :: t) D.1))) = true := h
    obtain ⟨h1, h2⟩ := qd_and h'
    have hp := Nat.le_of_ble_eq_true h1
    obtain ⟨b, t, hm, h3⟩ := qd_on_ok h2
    have hd : code.data.toList.drop D.1 = b :: t := by
      rw [← hm, ← hl, List.drop_drop]
      congr 1
      omega
    obtain ⟨h4, h5⟩ := qd_and h3
    obtain ⟨h6, h7⟩ := qd_and h5
    rcases List.mem_cons.mp hE with e | e
    · subst e
      exact ⟨qd_ck_ok hd _ h4, h6⟩
    · exact qd_sw_ok r (b :: t) D.1 hd h7 E e
theorem qd_bk {code : ByteArray} {P : PL} {cd : List ME} (h : qd_sw P cd code.data.toList 0 = true) : ∀ E ∈ cd, decode code E.1 = .ok (E.2.1, ilen E.2.1) ∧ exE P E.1 E.2.1 E.2.2.1 E.2.2.2.1 E.2.2.2.2 = true := qd_sw_ok cd _ 0 rfl h
def qd_s3 : List (Nat × Instr × Nat) → List UInt8 → Nat → Bool
  | [], _, _ => true
  | E :: r, l, p => Nat.ble p E.1 && qd_on (l.drop (E.1 - p)) (fun b t => qd_ck b t E.2.1 && (Nat.beq (ilen E.2.1) E.2.2 && qd_s3 r (b :: t) E.1))
theorem qd_s3_ok {code : ByteArray} : ∀ (cd : List (Nat × Instr × Nat)) (l : List UInt8) (p : Nat), code.data.toList.drop p = l → qd_s3 cd l p = true → ∀ E ∈ cd, decode code E.1 = .ok (E.2.1, E.2.2)
  | [], _, _, _, _, E, hE => by cases hE
  | D :: r, l, p, hl, h, E, hE => by
    have h' : (Nat.ble p D.1 && qd_on (l.drop (D.1 - p)) (fun b t => qd_ck b t D.2.1 && (Nat.beq (ilen D.2.1) D.2.2 && qd_s3 r (b :: t) D.1))) = true := h
    obtain ⟨h1, h2⟩ := qd_and h'
    have hp := Nat.le_of_ble_eq_true h1
    obtain ⟨b, t, hm, h3⟩ := qd_on_ok h2
    have hd : code.data.toList.drop D.1 = b :: t := by
      rw [← hm, ← hl, List.drop_drop]
      congr 1
      omega
    obtain ⟨h4, h5⟩ := qd_and h3
    obtain ⟨h6, h7⟩ := qd_and h5
    rcases List.mem_cons.mp hE with e | e
    · subst e
      have h8 := qd_ck_ok hd _ h4
      rw [Nat.eq_of_beq_eq_true h6] at h8
      exact h8
    · exact qd_s3_ok r (b :: t) D.1 hd h7 E e
theorem qd_tr {code : ByteArray} {cd : List (Nat × Instr × Nat)} (h : qd_s3 cd code.data.toList 0 = true) : ∀ E ∈ cd, decode code E.1 = .ok (E.2.1, E.2.2) := qd_s3_ok cd _ 0 rfl h
