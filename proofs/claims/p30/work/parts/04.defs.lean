/-! WHAT THE TABLES AND THE CODES ARE HELD AGAINST -/
def TBG : List Cond := lw_tbl.filter goodWord
theorem TBG_mem {w : Cond} {i : Nat} (h : lw_tbl[i]? = some w) (hg : goodWord w = true) : w ∈ TBG := List.mem_filter.mpr ⟨List.mem_of_getElem? h, hg⟩
theorem TBG_good : ∀ w ∈ TBG, (w.onTables && w.keeps) = true ∨ ∃ ty, w = .arrayClass ty := fun w h => good_of_word (List.mem_filter.mp h).2
theorem blt_lt {a b : Nat} (h : Nat.blt a b = true) : a < b := Nat.le_of_ble_eq_true h
abbrev PL : Type := List (Nat × Nat) × List (Nat × Int32) × List (Nat × Int64) × List (Nat × Nat)
def ilen : Instr → Nat
  | .bipush _ => 2 | .sipush _ => 3 | .ldc _ => 2 | .ldc_w _ => 3 | .ldc2_w _ => 3 | .iload _ => 2 | .lload _ => 2 | .aload _ => 2 | .istore _ => 2 | .lstore _ => 2 | .astore _ => 2
  | .iinc _ _ => 3 | .goto _ => 3 | .getfield _ => 3 | .putfield _ => 3 | .ifCond _ _ => 3 | .if_icmp _ _ => 3 | .ifnonnull _ => 3 | .ifnull _ => 3 | .invokestatic _ => 3 | .invokevirtual _ => 3 | .invokespecial _ => 3
  | _ => 1
/-- what an entry of the code list must keep, beside its decoding -/
def exE (P : PL) (pc : Nat) (I : Instr) (aux : Nat) (v : Int32) (w : Int64) : Bool :=
  match I with
  | .iconst n => decide (Int32.ofInt n = v)
  | .bipush n => decide ((Int8.ofInt n).toInt32 = v)
  | .sipush n => decide ((Int16.ofInt n).toInt32 = v)
  | .ldc n => P.2.1.any (fun q => Nat.beq q.1 n && decide (q.2 = v))
  | .ldc_w n => P.2.1.any (fun q => Nat.beq q.1 n && decide (q.2 = v))
  | .ldc2_w n => P.2.2.1.any (fun q => Nat.beq q.1 n && decide (q.2 = w))
  | .lconst n => decide (Int64.ofNat n.val = w)
  | .iinc _ n => decide (Int32.ofInt n = v)
  | .goto off => decide ((pc : Int) + off = (aux : Int))
  | .ifCond _ off => decide ((pc : Int) + off = (aux : Int))
  | .if_icmp _ off => decide ((pc : Int) + off = (aux : Int))
  | .ifnonnull off => decide ((pc : Int) + off = (aux : Int))
  | .ifnull off => decide ((pc : Int) + off = (aux : Int))
  | .arraylength => decide (Int32.ofNat aux = v)
  | .getfield n => P.1.any (fun q => Nat.beq q.1 n && Nat.beq q.2 aux)
  | .putfield n => P.1.any (fun q => Nat.beq q.1 n && Nat.beq q.2 aux)
  | _ => true
def okE (M : Mth) (P : PL) (E : ME) : Prop := decode M.2.1 E.1 = .ok (E.2.1, ilen E.2.1) ∧ exE P E.1 E.2.1 E.2.2.1 E.2.2.2.1 E.2.2.2.2 = true
/-- a field's reference: its words -/
def FOK (own : String) (idx aux : Nat) : Prop := ∃ (C : String) (T : u_T) (N : Nat) (ref : String), vwCl[aux / 64]? = some (C, T, N) ∧ aux / 64 < 20 ∧ aux % 64 < N ∧ (∀ a, shk a = aux / 64 → shn a = N) ∧ (∀ w ∈ u_ws C T N, w ∈ TBG) ∧ Cond.fieldLink own idx ref (T (aux % 64)).2.1 (T (aux % 64)).2.2.1 ∈ TBG ∧ (ref = (T (aux % 64)).1 ∨ Cond.sameField ref (T (aux % 64)).1 (T (aux % 64)).2.1 (T (aux % 64)).2.2.1 ∈ TBG) ∧
  (fnl (aux / 64) (aux % 64) = (T (aux % 64)).2.2.2) ∧ (fkr (aux / 64) (aux % 64) = false → parseFieldDescriptor (T (aux % 64)).2.2.1 = some (if fzr (aux / 64) (aux % 64) = true then .boolean else .int)) ∧ (∃ ty : Nat → FieldType, ∀ k, k < N → parseFieldDescriptor (T k).2.2.1 = some (ty k)) ∧ (∀ a, a < N → ∀ b, b < N → a ≠ b → (T a).2.1 ≠ (T b).2.1)
def PLOK (own : String) (P : PL) : Prop := (∀ q ∈ P.1, FOK own q.1 q.2) ∧ (∀ q ∈ P.2.1, Cond.constant own q.1 q.2 ∈ TBG) ∧ (∀ q ∈ P.2.2.1, Cond.constantLong own q.1 q.2 ∈ TBG) ∧ (∀ q ∈ P.2.2.2, ∃ tx, strL[q.2]? = some (own, q.1, tx))
/-- a method's code list, right -/
def BK (M : Mth) (cd : List ME) : Prop := ∃ P : PL, PLOK M.2.2.2.2 P ∧ ∀ E ∈ cd, okE M P E
/-- a callee: its words -/
def NK (N : Mth) (n : Nat) : Prop := Cond.code N.1 N.2.1 N.2.2.1 N.2.2.2.1 ∈ TBG ∧ Cond.initialized N.1.cls ∈ TBG ∧ (N.1.cls ≠ "java/lang/invoke/MethodHandle" ∧ N.1.cls ≠ "java/lang/invoke/VarHandle") ∧ (parseMethodDescriptor N.1.desc).map (fun q => q.parameters.length) = some n ∧ N.2.2.1 ≤ 45
