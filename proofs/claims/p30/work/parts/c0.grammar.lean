/-! THE LAW'S TEXT: what it spells, as a function of its bytes -/
section GRM
abbrev VL : Type := (Nat → Int32) → Option Int32
abbrev PRs : Type := Int32 ⊕ (Nat × VL)
def rkV (op : Nat) (a b : Int32) : Int32 := if op = 43 then a + b else if op = 45 then a - b else if op = 42 then a * b else if op = 47 then a / b else if op = 37 then jrem a b else if op = 60 then (if b ≤ a then 0 else 1) else if op = 62 then (if a ≤ b then 0 else 1) else (if a = b then 1 else 0)
def opV (op : Nat) (v w : VL) : VL := fun f => match v f with
  | none => none
  | some a => match w f with
    | none => none
    | some b => if (op = 47 ∨ op = 37) ∧ b = 0 then none else some (rkV op a b)
def numV (k : Nat) : VL := fun _ => some (nI k)
def letV (l : Nat) : VL := fun f => some (f l)
def notV (v : VL) : VL := fun f => match v f with
  | none => none
  | some a => some (if a = 0 then 1 else 0)
def andV (v w : VL) : VL := fun f => match v f with
  | none => none
  | some a => if a = 0 then some 0 else w f
def orV (v w : VL) : VL := fun f => match v f with
  | none => none
  | some a => if a = 0 then w f else some 1
/-- looks at the eleven letters alone -/
def VE (v : VL) : Prop := ∀ f g, (∀ n, n < 11 → f n = g n) → v f = v g
/-- is 0 or 1 -/
def VB (v : VL) : Prop := ∀ f a, v f = some a → a = 0 ∨ a = 1
theorem VE_op {op : Nat} {v w : VL} (h1 : VE v) (h2 : VE w) : VE (opV op v w) := fun f g h => by
  unfold opV
  rw [h1 f g h, h2 f g h]
theorem VE_num (k : Nat) : VE (numV k) := fun _ _ _ => rfl
theorem VE_let {l : Nat} (h : l < 11) : VE (letV l) := fun f g e => congrArg some (e l h)
theorem VE_not {v : VL} (h1 : VE v) : VE (notV v) := fun f g h => by unfold notV; rw [h1 f g h]
theorem VE_and {v w : VL} (h1 : VE v) (h2 : VE w) : VE (andV v w) := fun f g h => by unfold andV; rw [h1 f g h, h2 f g h]
theorem VE_or {v w : VL} (h1 : VE v) (h2 : VE w) : VE (orV v w) := fun f g h => by unfold orV; rw [h1 f g h, h2 f g h]
theorem VB_not {v : VL} : VB (notV v) := fun f a h => by
  unfold notV at h
  split at h
  · cases h
  · cases h
    split
    · exact Or.inr rfl
    · exact Or.inl rfl
theorem VB_and {v w : VL} (h2 : VB w) : VB (andV v w) := fun f a h => by
  unfold andV at h
  split at h
  · cases h
  · split at h
    · cases h; exact Or.inl rfl
    · exact h2 f a h
theorem VB_or {v w : VL} (h2 : VB w) : VB (orV v w) := fun f a h => by
  unfold orV at h
  split at h
  · cases h
  · split at h
    · exact h2 f a h
    · cases h; exact Or.inr rfl
theorem VB_cmp {op : Nat} (ho : op = 60 ∨ op = 62 ∨ op = 61) {v w : VL} : VB (opV op v w) := fun f a h => by
  unfold opV at h
  split at h
  · cases h
  · split at h
    · cases h
    · split at h
      · cases h
      · cases h
        unfold rkV
        rcases ho with rfl | rfl | rfl
        · rw [if_neg (by decide), if_neg (by decide), if_neg (by decide), if_neg (by decide), if_neg (by decide), if_pos rfl]
          split <;> simp
        · rw [if_neg (by decide), if_neg (by decide), if_neg (by decide), if_neg (by decide), if_neg (by decide), if_neg (by decide), if_pos rfl]
          split <;> simp
        · rw [if_neg (by decide), if_neg (by decide), if_neg (by decide), if_neg (by decide), if_neg (by decide), if_neg (by decide), if_neg (by decide)]
          split <;> simp
def letN (c : Nat) : Nat := if c = 105 then 0 else if c = 106 then 1 else if c = 115 then 2 else if c = 120 then 3 else if c = 121 then 4 else if c = 117 then 5 else if c = 118 then 6 else if c = 100 then 7 else if c = 97 then 8 else if c = 112 then 9 else if c = 113 then 10 else 11
def isMul (c : Nat) : Bool := decide (c = 42) || (decide (c = 47) || decide (c = 37))
def isAdd (c : Nat) : Bool := decide (c = 43) || decide (c = 45)
def isCmp (c : Nat) : Bool := decide (c = 60) || (decide (c = 62) || decide (c = 61))
def isCl (c : Nat) : Bool := decide (c = 102) || (decide (c = 108) || (decide (c = 119) || (decide (c = 99) || decide (c = 98))))
/-! the text's parts; what is open in one another, a place: a FAULT, or the place behind and what it comes to -/
def nmS (tx : Nat → Nat) (n : Nat) : Nat → Nat → Nat → Int32 ⊕ (Nat × Nat)
  | 0, p, a => if dg 48 57 (sN tx n p) = true then .inl (flt 2 p) else .inr (p, a)
  | k + 1, p, a => if dg 48 57 (sN tx n p) = true then nmS tx n k (p + 1) (10 * a + (sN tx n p - 48)) else .inr (p, a)
def toPR (x : Int32 ⊕ (Nat × Nat)) : PRs := match x with
  | .inl e => .inl e
  | .inr (q, a) => .inr (q, numV a)
/-- behind something that must be closed by c -/
def clsP (tx : Nat → Nat) (n c : Nat) (x : Option PRs) : Option PRs := match x with
  | none => none
  | some (.inl e) => some (.inl e)
  | some (.inr (q, v)) => if sN tx n q = c then some (.inr (q + 1, v)) else some (.inl (flt 1 q))
def pFac (tx : Nat → Nat) (n : Nat) (sum : Nat → Option PRs) (o p : Nat) : Option PRs :=
  if sN tx n p = 91 then (if o < 6 then clsP tx n 93 (sum (p + 1)) else some (.inl (flt 5 p)))
  else if dg 48 57 (sN tx n p) = true then some (toPR (nmS tx n 5 p 0))
  else if letN (sN tx n p) < 11 then some (.inr (p + 1, letV (letN (sN tx n p)))) else some (.inl (flt 1 p))
def pLst (tx : Nat → Nat) (n : Nat) (P : Nat → Bool) (h : Nat → VL → VL → VL) (one : Nat → Option PRs) : Nat → VL → Nat → Option PRs
  | 0, _, _ => none
  | g + 1, a, q => if P (sN tx n q) = true then (match one (q + 1) with
      | none => none
      | some (.inl e) => some (.inl e)
      | some (.inr (q', w)) => pLst tx n P h one g (h (sN tx n q) a w) q')
    else some (.inr (q, a))
def pAll (tx : Nat → Nat) (n : Nat) (P : Nat → Bool) (h : Nat → VL → VL → VL) (one : Nat → Option PRs) (p : Nat) : Option PRs := match one p with
  | none => none
  | some (.inl e) => some (.inl e)
  | some (.inr (q, v)) => pLst tx n P h one 300 v q
def pPrd (tx : Nat → Nat) (n : Nat) (fac : Nat → Option PRs) (p : Nat) : Option PRs := pAll tx n isMul opV fac p
def pSm (tx : Nat → Nat) (n : Nat) (fac : Nat → Option PRs) (p : Nat) : Option PRs := pAll tx n isAdd opV (pPrd tx n fac) p
def pSum (tx : Nat → Nat) (n : Nat) : Nat → Nat → Nat → Option PRs
  | 0, _, _ => none
  | f + 1, o, p => pSm tx n (pFac tx n (pSum tx n f (o + 1)) o) p
def isAnd (c : Nat) : Bool := decide (c = 38)
def isOr (c : Nat) : Bool := decide (c = 124)
def hAnd (_ : Nat) (v w : VL) : VL := andV v w
def hOr (_ : Nat) (v w : VL) : VL := orV v w
def pBoth (tx : Nat → Nat) (n : Nat) (test : Nat → Option PRs) (p : Nat) : Option PRs := pAll tx n isAnd hAnd test p
def pEith (tx : Nat → Nat) (n : Nat) (test : Nat → Option PRs) (p : Nat) : Option PRs := pAll tx n isOr hOr (pBoth tx n test) p
def mapN (x : Option PRs) : Option PRs := match x with
  | none => none
  | some (.inl e) => some (.inl e)
  | some (.inr (q, v)) => some (.inr (q, notV v))
/-- behind the first E of a test -/
def cmpP (tx : Nat → Nat) (n : Nat) (sum : Nat → Option PRs) (x : Option PRs) : Option PRs := match x with
  | none => none
  | some (.inl e) => some (.inl e)
  | some (.inr (q, v)) => if isCmp (sN tx n q) = true then (match sum (q + 1) with
      | none => none
      | some (.inl e) => some (.inl e)
      | some (.inr (q', w)) => some (.inr (q', opV (sN tx n q) v w)))
    else some (.inl (flt 1 q))
def pTst (tx : Nat → Nat) (n : Nat) (sum inner : Nat → Option PRs) (o p : Nat) : Option PRs :=
  if sN tx n p = 33 then (if o < 6 then mapN (inner (p + 1)) else some (.inl (flt 5 p)))
  else if sN tx n p = 40 then (if o < 6 then clsP tx n 41 (pEith tx n inner (p + 1)) else some (.inl (flt 5 p)))
  else cmpP tx n sum (sum p)
def pTest (tx : Nat → Nat) (n : Nat) : Nat → Nat → Nat → Option PRs
  | 0, _, _ => none
  | f + 1, o, p => pTst tx n (pSum tx n (f + 1) o) (pTest tx n f (o + 1)) o p
abbrev CLs : Type := Nat × VL × VL
def cl2 (tx : Nat → Nat) (n c q : Nat) (e : VL) (x : Option PRs) : Option (Int32 ⊕ (Nat × CLs)) := match x with
  | none => none
  | some (.inl e) => some (.inl e)
  | some (.inr (q', v)) => if sN tx n q' = 41 then some (.inr (q' + 1, c, e, v)) else some (.inl (flt 1 q'))
def pCls (tx : Nat → Nat) (n m p : Nat) : Option (Int32 ⊕ (Nat × CLs)) :=
  if isCl (sN tx n p) = true then (if m < 16 then (match pSum tx n 7 0 (p + 1) with
      | none => none
      | some (.inl e) => some (.inl e)
      | some (.inr (q, e)) => if sN tx n q = 40 then cl2 tx n (sN tx n p) q e (pEith tx n (pTest tx n 6 1) (q + 1)) else some (.inl (flt 1 q)))
    else some (.inl (flt 4 p)))
  else some (.inl (flt 1 p))
def pLaw (tx : Nat → Nat) (n : Nat) : Nat → List CLs → Nat → Option (Int32 ⊕ List CLs)
  | 0, _, _ => none
  | g + 1, l, p => match pCls tx n l.length p with
    | none => none
    | some (.inl e) => some (.inl e)
    | some (.inr (q, c)) => if n ≤ q then some (.inr (l ++ [c])) else if sN tx n q = 59 then pLaw tx n g (l ++ [c]) (q + 1) else some (.inl (flt 1 q))
/-! that it comes to an end, and goes on -/
section TOT
variable {tx : Nat → Nat} {n o p q g f : Nat} {v w : VL}
/-- a part that ends, goes on, stays in the text, and is what an E is -/
def Tt (tx : Nat → Nat) (n : Nat) (P : VL → Prop) (one : Nat → Option PRs) : Prop := ∀ p, (∃ e, one p = some (.inl e)) ∨ (p ≤ n ∧ ∃ q v, one p = some (.inr (q, v)) ∧ p < q ∧ q ≤ n ∧ P v)
theorem sN_lt {c : Nat} (h : sN tx n p = c) (hc : c < 256) : p < n := by
  unfold sN at h
  by_cases q : p < n
  · exact q
  · rw [if_neg q] at h; omega
theorem dg_lt {lo hi : Nat} (h : dg lo hi (sN tx n p) = true) (hh : hi < 256) : p < n := by
  unfold dg at h
  rw [Bool.and_eq_true, decide_eq_true_eq, decide_eq_true_eq] at h
  unfold sN at h
  by_cases q : p < n
  · exact q
  · rw [if_neg q] at h; omega
theorem letN_lt (h : letN (sN tx n p) < 11) : p < n := by
  by_cases q : p < n
  · exact q
  · unfold sN at h
    rw [if_neg q] at h
    exact absurd h (by decide)
theorem P_lt {P : Nat → Bool} (hP : P 256 = false) (h : P (sN tx n p) = true) : p < n := by
  by_cases q : p < n
  · exact q
  · unfold sN at h
    rw [if_neg q, hP] at h
    cases h
/-- digits: at most so many, the number below the next ten -/
theorem nm_ok : ∀ (k p a : Nat), p ≤ n → a < 10 ^ (5 - k) → k ≤ 5 → (∃ e, nmS tx n k p a = .inl e) ∨ ∃ q b, nmS tx n k p a = .inr (q, b) ∧ p ≤ q ∧ q ≤ n ∧ b < 100000
  | 0, p, a, hp, ha, _ => by
    unfold nmS
    by_cases h : dg 48 57 (sN tx n p) = true
    · rw [if_pos h]; exact Or.inl ⟨_, rfl⟩
    · rw [if_neg h]; exact Or.inr ⟨p, a, rfl, Nat.le_refl _, hp, ha⟩
  | k + 1, p, a, hp, ha, hk => by
    unfold nmS
    by_cases h : dg 48 57 (sN tx n p) = true
    · rw [if_pos h]
      have hl := dg_lt h (by decide)
      unfold dg at h
      rw [Bool.and_eq_true, decide_eq_true_eq, decide_eq_true_eq] at h
      have e10 : 10 ^ (5 - k) = 10 * 10 ^ (5 - (k + 1)) := by rw [show 5 - k = 5 - (k + 1) + 1 by omega, Nat.pow_succ, Nat.mul_comm]
      rcases nm_ok k (p + 1) (10 * a + (sN tx n p - 48)) (by omega) (by omega) (by omega) with h1 | ⟨q, b, h1, h2, h3, h4⟩
      · exact Or.inl h1
      · exact Or.inr ⟨q, b, h1, by omega, h3, h4⟩
    · rw [if_neg h]
      refine Or.inr ⟨p, a, rfl, Nat.le_refl _, hp, Nat.lt_of_lt_of_le ha ?_⟩
      exact Nat.le_trans (Nat.pow_le_pow_right (by decide) (show 5 - (k + 1) ≤ 5 by omega)) (by decide)
theorem nm_first (h : dg 48 57 (sN tx n p) = true) : (∃ e, nmS tx n 5 p 0 = .inl e) ∨ ∃ q b, nmS tx n 5 p 0 = .inr (q, b) ∧ p < q ∧ q ≤ n ∧ b < 100000 := by
  have hl := dg_lt h (by decide)
  have h' := h
  unfold dg at h'
  rw [Bool.and_eq_true, decide_eq_true_eq, decide_eq_true_eq] at h'
  unfold nmS
  rw [if_pos h]
  rcases nm_ok (tx := tx) (n := n) 4 (p + 1) (10 * 0 + (sN tx n p - 48)) (by omega) (by show _ < 10; omega) (by omega) with h1 | ⟨q, b, h1, h2, h3, h4⟩
  · exact Or.inl h1
  · exact Or.inr ⟨q, b, h1, by omega, h3, h4⟩
theorem Tt_cls {P : VL → Prop} {one : Nat → Option PRs} (h : Tt tx n P one) {c : Nat} (hc : c < 256) (p : Nat) : (∃ e, clsP tx n c (one p) = some (.inl e)) ∨ (p ≤ n ∧ ∃ q v, clsP tx n c (one p) = some (.inr (q, v)) ∧ p < q ∧ q ≤ n ∧ P v) := by
  rcases h p with ⟨e, h1⟩ | ⟨h0, q, v, h1, h2, h3, h4⟩
  · rw [h1]; exact Or.inl ⟨e, rfl⟩
  · rw [h1]
    unfold clsP
    dsimp only
    by_cases z : sN tx n q = c
    · rw [if_pos z]
      have := sN_lt z hc
      exact Or.inr ⟨h0, q + 1, v, rfl, by omega, by omega, h4⟩
    · rw [if_neg z]; exact Or.inl ⟨_, rfl⟩
theorem Tt_fac {sum : Nat → Option PRs} (h : o < 6 → Tt tx n VE sum) : Tt tx n VE (pFac tx n sum o) := fun p => by
  unfold pFac
  by_cases h1 : sN tx n p = 91
  · have hl := sN_lt h1 (by decide)
    rw [if_pos h1]
    by_cases h2 : o < 6
    · rw [if_pos h2]
      rcases Tt_cls (h h2) (c := 93) (by decide) (p + 1) with h3 | ⟨h0, q, v, h3, h4, h5, h6⟩
      · exact Or.inl h3
      · exact Or.inr ⟨by omega, q, v, h3, by omega, h5, h6⟩
    · rw [if_neg h2]; exact Or.inl ⟨_, rfl⟩
  · rw [if_neg h1]
    by_cases h2 : dg 48 57 (sN tx n p) = true
    · rw [if_pos h2]
      have hl := dg_lt h2 (by decide)
      rcases nm_first h2 with ⟨e, h3⟩ | ⟨q, b, h3, h4, h5, h6⟩
      · rw [h3]; exact Or.inl ⟨e, rfl⟩
      · rw [h3]; exact Or.inr ⟨by omega, q, numV b, rfl, h4, h5, VE_num b⟩
    · rw [if_neg h2]
      by_cases h3 : letN (sN tx n p) < 11
      · rw [if_pos h3]
        have hl := letN_lt h3
        exact Or.inr ⟨by omega, p + 1, _, rfl, by omega, by omega, VE_let h3⟩
      · rw [if_neg h3]; exact Or.inl ⟨_, rfl⟩
theorem Tt_lst {P : Nat → Bool} (hP : P 256 = false) {h : Nat → VL → VL → VL} {Q : VL → Prop} {one : Nat → Option PRs} (h1 : Tt tx n Q one) (hQ : ∀ c v w, Q v → Q w → Q (h c v w)) : ∀ (g : Nat) (a : VL) (q : Nat), q ≤ n → n < g + q → Q a → (∃ e, pLst tx n P h one g a q = some (.inl e)) ∨ ∃ q' v, pLst tx n P h one g a q = some (.inr (q', v)) ∧ q ≤ q' ∧ q' ≤ n ∧ Q v := by
  intro g
  induction g with
  | zero => intro a q h1 h2; omega
  | succ g ih =>
    intro a q h2 h3 ha
    unfold pLst
    by_cases m1 : P (sN tx n q) = true
    · rw [if_pos m1]
      have hl := P_lt hP m1
      rcases h1 (q + 1) with ⟨e, h3⟩ | ⟨h0, q1, w, h3, h4, h5, h6⟩
      · rw [h3]; exact Or.inl ⟨e, rfl⟩
      · rw [h3]
        rcases ih (h (sN tx n q) a w) q1 h5 (by omega) (hQ _ a w ha h6) with h7 | ⟨q2, v, h7, h8, h9, h10⟩
        · exact Or.inl h7
        · exact Or.inr ⟨q2, v, h7, by omega, h9, h10⟩
    · rw [if_neg m1]
      exact Or.inr ⟨q, a, rfl, Nat.le_refl _, h2, ha⟩
theorem Tt_all (hn : n ≤ 240) {P : Nat → Bool} (hP : P 256 = false) {h : Nat → VL → VL → VL} {Q : VL → Prop} {one : Nat → Option PRs} (h1 : Tt tx n Q one) (hQ : ∀ c v w, Q v → Q w → Q (h c v w)) : Tt tx n Q (pAll tx n P h one) := fun p => by
  unfold pAll
  rcases h1 p with ⟨e, h3⟩ | ⟨h0, q1, w, h3, h4, h5, h6⟩
  · rw [h3]; exact Or.inl ⟨e, rfl⟩
  · rw [h3]
    rcases Tt_lst hP h1 hQ 300 w q1 h5 (by omega) h6 with h7 | ⟨q2, v, h7, h8, h9, h10⟩
    · exact Or.inl h7
    · exact Or.inr ⟨h0, q2, v, h7, by omega, h9, h10⟩
theorem Tt_prd (hn : n ≤ 240) {fac : Nat → Option PRs} (h : Tt tx n VE fac) : Tt tx n VE (pPrd tx n fac) := Tt_all hn (by decide) h (fun _ _ _ a b => VE_op a b)
theorem Tt_sm (hn : n ≤ 240) {fac : Nat → Option PRs} (h : Tt tx n VE fac) : Tt tx n VE (pSm tx n fac) := Tt_all hn (by decide) (Tt_prd hn h) (fun _ _ _ a b => VE_op a b)
theorem Tt_sum (hn : n ≤ 240) : ∀ f o, 7 ≤ f + o → 0 < f → Tt tx n VE (pSum tx n f o)
  | 0, o, _, h => absurd h (by decide)
  | f + 1, o, h, _ => fun p => Tt_sm hn (Tt_fac (fun ho => Tt_sum hn f (o + 1) (by omega) (by omega))) p
def VC (v : VL) : Prop := VE v ∧ VB v
theorem Tt_both (hn : n ≤ 240) {one : Nat → Option PRs} (h1 : Tt tx n VC one) : Tt tx n VC (pBoth tx n one) := Tt_all hn (by decide) h1 (fun _ _ _ a b => ⟨VE_and a.1 b.1, VB_and b.2⟩)
theorem Tt_eith (hn : n ≤ 240) {one : Nat → Option PRs} (h1 : Tt tx n VC one) : Tt tx n VC (pEith tx n one) := Tt_all hn (by decide) (Tt_both hn h1) (fun _ _ _ a b => ⟨VE_or a.1 b.1, VB_or b.2⟩)
theorem isCmp_is {c : Nat} (h : isCmp c = true) : c = 60 ∨ c = 62 ∨ c = 61 := by
  unfold isCmp at h
  rw [Bool.or_eq_true, Bool.or_eq_true, decide_eq_true_eq, decide_eq_true_eq, decide_eq_true_eq] at h
  exact h
theorem Tt_tst (hn : n ≤ 240) {sum inner : Nat → Option PRs} (hs : Tt tx n VE sum) (hi : o < 6 → Tt tx n VC inner) : Tt tx n VC (pTst tx n sum inner o) := fun p => by
  unfold pTst
  by_cases h1 : sN tx n p = 33
  · have hl := sN_lt h1 (by decide)
    rw [if_pos h1]
    by_cases h2 : o < 6
    · rw [if_pos h2]
      rcases hi h2 (p + 1) with ⟨e, h3⟩ | ⟨h0, q1, w, h3, h4, h5, h6⟩
      · rw [h3]; exact Or.inl ⟨e, rfl⟩
      · rw [h3]; exact Or.inr ⟨by omega, q1, notV w, rfl, by omega, h5, VE_not h6.1, VB_not⟩
    · rw [if_neg h2]; exact Or.inl ⟨_, rfl⟩
  · rw [if_neg h1]
    by_cases h2 : sN tx n p = 40
    · have hl := sN_lt h2 (by decide)
      rw [if_pos h2]
      by_cases h3 : o < 6
      · rw [if_pos h3]
        rcases Tt_cls (Tt_eith hn (hi h3)) (c := 41) (by decide) (p + 1) with h4 | ⟨h0, q, v, h4, h5, h6, h7⟩
        · exact Or.inl h4
        · exact Or.inr ⟨by omega, q, v, h4, by omega, h6, h7⟩
      · rw [if_neg h3]; exact Or.inl ⟨_, rfl⟩
    · rw [if_neg h2]
      unfold cmpP
      rcases hs p with ⟨e, h3⟩ | ⟨h0, q1, w, h3, h4, h5, h6⟩
      · rw [h3]; exact Or.inl ⟨e, rfl⟩
      · rw [h3]
        dsimp only
        by_cases h7 : isCmp (sN tx n q1) = true
        · rw [if_pos h7]
          have hl := P_lt (P := isCmp) (by decide) h7
          rcases hs (q1 + 1) with ⟨e, h8⟩ | ⟨h9, q2, w2, h8, h10, h11, h12⟩
          · rw [h8]; exact Or.inl ⟨e, rfl⟩
          · rw [h8]; exact Or.inr ⟨h0, q2, _, rfl, by omega, h11, VE_op h6 h12, VB_cmp (isCmp_is h7)⟩
        · rw [if_neg h7]; exact Or.inl ⟨_, rfl⟩
theorem Tt_test (hn : n ≤ 240) : ∀ f o, 7 ≤ f + o → 0 < f → Tt tx n VC (pTest tx n f o)
  | 0, o, _, h => absurd h (by decide)
  | f + 1, o, h, h0 => fun p => Tt_tst hn (Tt_sum hn (f + 1) o (by omega) h0) (fun ho => Tt_test hn f (o + 1) (by omega) (by omega)) p
end TOT
end GRM
