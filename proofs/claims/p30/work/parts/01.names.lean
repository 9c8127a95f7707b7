-- ===== PART A: goes FIRST, ahead of the names: the tables' words, and 'selects' of the private methods out of them =====
/-- a private method of a class that the tables say can be made, by its rows of tables_1 -/
def lw_okq (q : MethodName × Nat) : Prop := (q.1.cls ≠ "java/lang/invoke/MethodHandle" ∧ q.1.cls ≠ "java/lang/invoke/VarHandle") ∧ Cond.instantiable q.1.cls q.2 ∈ tables_1 ∧ Cond.privateMethod q.1 ∈ tables_1 ∧ Cond.instanceMethod q.1 ∈ tables_1
theorem lw_in1 : ∀ w ∈ tables_1_1, w ∈ tables_1 := fun w h => show w ∈ tables_1 from List.mem_append_left _ h
theorem lw_in2 : ∀ w ∈ tables_1_2, w ∈ tables_1 := fun w h => show w ∈ tables_1 from List.mem_append_right _ (List.mem_append_left _ h)
theorem lw_in3 : ∀ w ∈ tables_1_3, w ∈ tables_1 := fun w h => show w ∈ tables_1 from List.mem_append_right _ (List.mem_append_right _ (List.mem_append_left _ h))
theorem lw_in4 : ∀ w ∈ tables_1_4, w ∈ tables_1 := fun w h => show w ∈ tables_1 from List.mem_append_right _ (List.mem_append_right _ (List.mem_append_right _ (List.mem_append_left _ h)))
theorem lw_in5 : ∀ w ∈ tables_1_5, w ∈ tables_1 := fun w h => show w ∈ tables_1 from List.mem_append_right _ (List.mem_append_right _ (List.mem_append_right _ (List.mem_append_right _ (List.mem_append_left _ h))))
theorem lw_in6 : ∀ w ∈ tables_1_6, w ∈ tables_1 := fun w h => show w ∈ tables_1 from List.mem_append_right _ (List.mem_append_right _ (List.mem_append_right _ (List.mem_append_right _ (List.mem_append_right _ (List.mem_append_left _ h)))))
theorem lw_in7 : ∀ w ∈ tables_1_7, w ∈ tables_1 := fun w h => show w ∈ tables_1 from List.mem_append_right _ (List.mem_append_right _ (List.mem_append_right _ (List.mem_append_right _ (List.mem_append_right _ (List.mem_append_right _ (h))))))
theorem lw_p0 : lw_okq (⟨"PuzzleWed$LawReader", "readClause", "()Z"⟩, 5) := ⟨⟨by decide +kernel, by decide +kernel⟩, lw_in1 _ (List.mem_of_getElem? (i := 175) (by decide +kernel)), lw_in3 _ (List.mem_of_getElem? (i := 26) (by decide +kernel)), lw_in3 _ (List.mem_of_getElem? (i := 27) (by decide +kernel))⟩
theorem lw_p1 : lw_okq (⟨"PuzzleWed$LawReader", "readSum", "(I)Z"⟩, 5) := ⟨⟨by decide +kernel, by decide +kernel⟩, lw_in1 _ (List.mem_of_getElem? (i := 175) (by decide +kernel)), lw_in3 _ (List.mem_of_getElem? (i := 141) (by decide +kernel)), lw_in3 _ (List.mem_of_getElem? (i := 142) (by decide +kernel))⟩
theorem lw_p2 : lw_okq (⟨"PuzzleWed$LawReader", "readProduct", "(I)Z"⟩, 5) := ⟨⟨by decide +kernel, by decide +kernel⟩, lw_in1 _ (List.mem_of_getElem? (i := 175) (by decide +kernel)), lw_in3 _ (List.mem_of_getElem? (i := 145) (by decide +kernel)), lw_in3 _ (List.mem_of_getElem? (i := 146) (by decide +kernel))⟩
theorem lw_p3 : lw_okq (⟨"PuzzleWed$LawReader", "readFactor", "(I)Z"⟩, 5) := ⟨⟨by decide +kernel, by decide +kernel⟩, lw_in1 _ (List.mem_of_getElem? (i := 175) (by decide +kernel)), lw_in3 _ (List.mem_of_getElem? (i := 149) (by decide +kernel)), lw_in3 _ (List.mem_of_getElem? (i := 150) (by decide +kernel))⟩
theorem lw_p4 : lw_okq (⟨"PuzzleWed$LawReader", "pass", "(I)Z"⟩, 5) := ⟨⟨by decide +kernel, by decide +kernel⟩, lw_in1 _ (List.mem_of_getElem? (i := 175) (by decide +kernel)), lw_in3 _ (List.mem_of_getElem? (i := 153) (by decide +kernel)), lw_in3 _ (List.mem_of_getElem? (i := 154) (by decide +kernel))⟩
theorem lw_p5 : lw_okq (⟨"PuzzleWed$LawReader", "readNumber", "()Z"⟩, 5) := ⟨⟨by decide +kernel, by decide +kernel⟩, lw_in1 _ (List.mem_of_getElem? (i := 175) (by decide +kernel)), lw_in3 _ (List.mem_of_getElem? (i := 157) (by decide +kernel)), lw_in3 _ (List.mem_of_getElem? (i := 158) (by decide +kernel))⟩
theorem lw_p6 : lw_okq (⟨"PuzzleWed$LawReader", "readEither", "(I)Z"⟩, 5) := ⟨⟨by decide +kernel, by decide +kernel⟩, lw_in1 _ (List.mem_of_getElem? (i := 175) (by decide +kernel)), lw_in3 _ (List.mem_of_getElem? (i := 166) (by decide +kernel)), lw_in3 _ (List.mem_of_getElem? (i := 167) (by decide +kernel))⟩
theorem lw_p7 : lw_okq (⟨"PuzzleWed$LawReader", "readBoth", "(I)Z"⟩, 5) := ⟨⟨by decide +kernel, by decide +kernel⟩, lw_in1 _ (List.mem_of_getElem? (i := 175) (by decide +kernel)), lw_in3 _ (List.mem_of_getElem? (i := 170) (by decide +kernel)), lw_in3 _ (List.mem_of_getElem? (i := 171) (by decide +kernel))⟩
theorem lw_p8 : lw_okq (⟨"PuzzleWed$LawReader", "readTest", "(I)Z"⟩, 5) := ⟨⟨by decide +kernel, by decide +kernel⟩, lw_in1 _ (List.mem_of_getElem? (i := 175) (by decide +kernel)), lw_in3 _ (List.mem_of_getElem? (i := 174) (by decide +kernel)), lw_in3 _ (List.mem_of_getElem? (i := 175) (by decide +kernel))⟩
theorem lw_p9 : lw_okq (⟨"PuzzleWed$LawReader", "readInner", "(II)Z"⟩, 5) := ⟨⟨by decide +kernel, by decide +kernel⟩, lw_in1 _ (List.mem_of_getElem? (i := 175) (by decide +kernel)), lw_in3 _ (List.mem_of_getElem? (i := 178) (by decide +kernel)), lw_in3 _ (List.mem_of_getElem? (i := 179) (by decide +kernel))⟩
theorem lw_p10 : lw_okq (⟨"PuzzleWed$LawReader", "emitJump", "(II)I"⟩, 5) := ⟨⟨by decide +kernel, by decide +kernel⟩, lw_in1 _ (List.mem_of_getElem? (i := 175) (by decide +kernel)), lw_in3 _ (List.mem_of_getElem? (i := 182) (by decide +kernel)), lw_in3 _ (List.mem_of_getElem? (i := 183) (by decide +kernel))⟩
theorem lw_p11 : lw_okq (⟨"PuzzleWed$LawReader", "land", "(I)V"⟩, 5) := ⟨⟨by decide +kernel, by decide +kernel⟩, lw_in1 _ (List.mem_of_getElem? (i := 175) (by decide +kernel)), lw_in3 _ (List.mem_of_getElem? (i := 186) (by decide +kernel)), lw_in3 _ (List.mem_of_getElem? (i := 187) (by decide +kernel))⟩
theorem lw_p12 : lw_okq (⟨"PuzzleWed$ListReader", "readHeight", "()Z"⟩, 8) := ⟨⟨by decide +kernel, by decide +kernel⟩, lw_in1 _ (List.mem_of_getElem? (i := 210) (by decide +kernel)), lw_in3 _ (List.mem_of_getElem? (i := 209) (by decide +kernel)), lw_in3 _ (List.mem_of_getElem? (i := 210) (by decide +kernel))⟩
theorem lw_p13 : lw_okq (⟨"PuzzleWed$ListReader", "readTimes", "(I)Z"⟩, 8) := ⟨⟨by decide +kernel, by decide +kernel⟩, lw_in1 _ (List.mem_of_getElem? (i := 210) (by decide +kernel)), lw_in3 _ (List.mem_of_getElem? (i := 219) (by decide +kernel)), lw_in3 _ (List.mem_of_getElem? (i := 220) (by decide +kernel))⟩
theorem lw_p14 : lw_okq (⟨"PuzzleWed$ListReader", "put", "()V"⟩, 8) := ⟨⟨by decide +kernel, by decide +kernel⟩, lw_in1 _ (List.mem_of_getElem? (i := 210) (by decide +kernel)), lw_in3 _ (List.mem_of_getElem? (i := 227) (by decide +kernel)), lw_in3 _ (List.mem_of_getElem? (i := 228) (by decide +kernel))⟩
theorem lw_p15 : lw_okq (⟨"PuzzleWed$Course", "travel", "(LPuzzleWed$Land;)V"⟩, 4) := ⟨⟨by decide +kernel, by decide +kernel⟩, lw_in2 _ (List.mem_of_getElem? (i := 8) (by decide +kernel)), lw_in4 _ (List.mem_of_getElem? (i := 14) (by decide +kernel)), lw_in4 _ (List.mem_of_getElem? (i := 15) (by decide +kernel))⟩
def lw_privs_1 : List (MethodName × Nat) := [(⟨"PuzzleWed$LawReader", "readClause", "()Z"⟩, 5), (⟨"PuzzleWed$LawReader", "readSum", "(I)Z"⟩, 5), (⟨"PuzzleWed$LawReader", "readProduct", "(I)Z"⟩, 5), (⟨"PuzzleWed$LawReader", "readFactor", "(I)Z"⟩, 5), (⟨"PuzzleWed$LawReader", "pass", "(I)Z"⟩, 5), (⟨"PuzzleWed$LawReader", "readNumber", "()Z"⟩, 5), (⟨"PuzzleWed$LawReader", "readEither", "(I)Z"⟩, 5), (⟨"PuzzleWed$LawReader", "readBoth", "(I)Z"⟩, 5), (⟨"PuzzleWed$LawReader", "readTest", "(I)Z"⟩, 5), (⟨"PuzzleWed$LawReader", "readInner", "(II)Z"⟩, 5), (⟨"PuzzleWed$LawReader", "emitJump", "(II)I"⟩, 5), (⟨"PuzzleWed$LawReader", "land", "(I)V"⟩, 5), (⟨"PuzzleWed$ListReader", "readHeight", "()Z"⟩, 8), (⟨"PuzzleWed$ListReader", "readTimes", "(I)Z"⟩, 8), (⟨"PuzzleWed$ListReader", "put", "()V"⟩, 8), (⟨"PuzzleWed$Course", "travel", "(LPuzzleWed$Land;)V"⟩, 4)]
theorem lw_r1 : ∀ q ∈ lw_privs_1, lw_okq q := List.forall_mem_cons.mpr ⟨lw_p0, List.forall_mem_cons.mpr ⟨lw_p1, List.forall_mem_cons.mpr ⟨lw_p2, List.forall_mem_cons.mpr ⟨lw_p3, List.forall_mem_cons.mpr ⟨lw_p4, List.forall_mem_cons.mpr ⟨lw_p5, List.forall_mem_cons.mpr ⟨lw_p6, List.forall_mem_cons.mpr ⟨lw_p7, List.forall_mem_cons.mpr ⟨lw_p8, List.forall_mem_cons.mpr ⟨lw_p9, List.forall_mem_cons.mpr ⟨lw_p10, List.forall_mem_cons.mpr ⟨lw_p11, List.forall_mem_cons.mpr ⟨lw_p12, List.forall_mem_cons.mpr ⟨lw_p13, List.forall_mem_cons.mpr ⟨lw_p14, List.forall_mem_cons.mpr ⟨lw_p15, fun _ h => absurd h List.not_mem_nil⟩⟩⟩⟩⟩⟩⟩⟩⟩⟩⟩⟩⟩⟩⟩⟩
theorem lw_p16 : lw_okq (⟨"PuzzleWed$Course", "meet", "(LPuzzleWed$Land;)V"⟩, 4) := ⟨⟨by decide +kernel, by decide +kernel⟩, lw_in2 _ (List.mem_of_getElem? (i := 8) (by decide +kernel)), lw_in4 _ (List.mem_of_getElem? (i := 19) (by decide +kernel)), lw_in4 _ (List.mem_of_getElem? (i := 20) (by decide +kernel))⟩
theorem lw_p17 : lw_okq (⟨"PuzzleWed$Judge", "fill", "(LPuzzleWed$Land;III)V"⟩, 2) := ⟨⟨by decide +kernel, by decide +kernel⟩, lw_in1 _ (List.mem_of_getElem? (i := 235) (by decide +kernel)), lw_in4 _ (List.mem_of_getElem? (i := 60) (by decide +kernel)), lw_in4 _ (List.mem_of_getElem? (i := 61) (by decide +kernel))⟩
theorem lw_p18 : lw_okq (⟨"PuzzleWed$Course", "strain", "(LPuzzleWed$Land;)V"⟩, 4) := ⟨⟨by decide +kernel, by decide +kernel⟩, lw_in2 _ (List.mem_of_getElem? (i := 8) (by decide +kernel)), lw_in4 _ (List.mem_of_getElem? (i := 97) (by decide +kernel)), lw_in4 _ (List.mem_of_getElem? (i := 98) (by decide +kernel))⟩
theorem lw_p19 : lw_okq (⟨"PuzzleWed", "whomItFits", "(I)I"⟩, 15) := ⟨⟨by decide +kernel, by decide +kernel⟩, lw_in1 _ (List.mem_of_getElem? (i := 24) (by decide +kernel)), lw_in4 _ (List.mem_of_getElem? (i := 129) (by decide +kernel)), lw_in4 _ (List.mem_of_getElem? (i := 130) (by decide +kernel))⟩
theorem lw_p20 : lw_okq (⟨"PuzzleWed", "fitsAbove", "(I)I"⟩, 15) := ⟨⟨by decide +kernel, by decide +kernel⟩, lw_in1 _ (List.mem_of_getElem? (i := 24) (by decide +kernel)), lw_in4 _ (List.mem_of_getElem? (i := 151) (by decide +kernel)), lw_in4 _ (List.mem_of_getElem? (i := 152) (by decide +kernel))⟩
theorem lw_p21 : lw_okq (⟨"PuzzleWed$Couples", "gather", "(LPuzzleWed$Land;)V"⟩, 11) := ⟨⟨by decide +kernel, by decide +kernel⟩, lw_in2 _ (List.mem_of_getElem? (i := 30) (by decide +kernel)), lw_in4 _ (List.mem_of_getElem? (i := 167) (by decide +kernel)), lw_in4 _ (List.mem_of_getElem? (i := 168) (by decide +kernel))⟩
theorem lw_p22 : lw_okq (⟨"PuzzleWed$Couples", "weighAll", "()V"⟩, 11) := ⟨⟨by decide +kernel, by decide +kernel⟩, lw_in2 _ (List.mem_of_getElem? (i := 30) (by decide +kernel)), lw_in4 _ (List.mem_of_getElem? (i := 174) (by decide +kernel)), lw_in4 _ (List.mem_of_getElem? (i := 175) (by decide +kernel))⟩
theorem lw_p23 : lw_okq (⟨"PuzzleWed$Couples", "setBest", "(III)V"⟩, 11) := ⟨⟨by decide +kernel, by decide +kernel⟩, lw_in2 _ (List.mem_of_getElem? (i := 30) (by decide +kernel)), lw_in4 _ (List.mem_of_getElem? (i := 178) (by decide +kernel)), lw_in4 _ (List.mem_of_getElem? (i := 179) (by decide +kernel))⟩
theorem lw_p24 : lw_okq (⟨"PuzzleWed$Couples", "bestOf", "(II)I"⟩, 11) := ⟨⟨by decide +kernel, by decide +kernel⟩, lw_in2 _ (List.mem_of_getElem? (i := 30) (by decide +kernel)), lw_in4 _ (List.mem_of_getElem? (i := 182) (by decide +kernel)), lw_in4 _ (List.mem_of_getElem? (i := 183) (by decide +kernel))⟩
theorem lw_p25 : lw_okq (⟨"PuzzleWed$Couples", "withBond", "(III)I"⟩, 11) := ⟨⟨by decide +kernel, by decide +kernel⟩, lw_in2 _ (List.mem_of_getElem? (i := 30) (by decide +kernel)), lw_in4 _ (List.mem_of_getElem? (i := 186) (by decide +kernel)), lw_in4 _ (List.mem_of_getElem? (i := 187) (by decide +kernel))⟩
theorem lw_p26 : lw_okq (⟨"PuzzleWed$Couples", "choose", "(II)I"⟩, 11) := ⟨⟨by decide +kernel, by decide +kernel⟩, lw_in2 _ (List.mem_of_getElem? (i := 30) (by decide +kernel)), lw_in4 _ (List.mem_of_getElem? (i := 191) (by decide +kernel)), lw_in4 _ (List.mem_of_getElem? (i := 192) (by decide +kernel))⟩
theorem lw_p27 : lw_okq (⟨"PuzzleWed$Couples", "askNext", "(I)Z"⟩, 11) := ⟨⟨by decide +kernel, by decide +kernel⟩, lw_in2 _ (List.mem_of_getElem? (i := 30) (by decide +kernel)), lw_in4 _ (List.mem_of_getElem? (i := 204) (by decide +kernel)), lw_in4 _ (List.mem_of_getElem? (i := 205) (by decide +kernel))⟩
theorem lw_p28 : lw_okq (⟨"PuzzleWed$Couples", "prefers", "(III)Z"⟩, 11) := ⟨⟨by decide +kernel, by decide +kernel⟩, lw_in2 _ (List.mem_of_getElem? (i := 30) (by decide +kernel)), lw_in4 _ (List.mem_of_getElem? (i := 208) (by decide +kernel)), lw_in4 _ (List.mem_of_getElem? (i := 209) (by decide +kernel))⟩
theorem lw_p29 : lw_okq (⟨"PuzzleWed", "wouldLeave", "(II)Z"⟩, 15) := ⟨⟨by decide +kernel, by decide +kernel⟩, lw_in1 _ (List.mem_of_getElem? (i := 24) (by decide +kernel)), lw_in4 _ (List.mem_of_getElem? (i := 216) (by decide +kernel)), lw_in4 _ (List.mem_of_getElem? (i := 217) (by decide +kernel))⟩
theorem lw_p30 : lw_okq (⟨"PuzzleWed", "likingNow", "(I)I"⟩, 15) := ⟨⟨by decide +kernel, by decide +kernel⟩, lw_in1 _ (List.mem_of_getElem? (i := 24) (by decide +kernel)), lw_in4 _ (List.mem_of_getElem? (i := 220) (by decide +kernel)), lw_in4 _ (List.mem_of_getElem? (i := 221) (by decide +kernel))⟩
theorem lw_p31 : lw_okq (⟨"PuzzleWed$Search", "weigh", "()V"⟩, 8) := ⟨⟨by decide +kernel, by decide +kernel⟩, lw_in2 _ (List.mem_of_getElem? (i := 74) (by decide +kernel)), lw_in4 _ (List.mem_of_getElem? (i := 238) (by decide +kernel)), lw_in4 _ (List.mem_of_getElem? (i := 239) (by decide +kernel))⟩
def lw_privs_2 : List (MethodName × Nat) := [(⟨"PuzzleWed$Course", "meet", "(LPuzzleWed$Land;)V"⟩, 4), (⟨"PuzzleWed$Judge", "fill", "(LPuzzleWed$Land;III)V"⟩, 2), (⟨"PuzzleWed$Course", "strain", "(LPuzzleWed$Land;)V"⟩, 4), (⟨"PuzzleWed", "whomItFits", "(I)I"⟩, 15), (⟨"PuzzleWed", "fitsAbove", "(I)I"⟩, 15), (⟨"PuzzleWed$Couples", "gather", "(LPuzzleWed$Land;)V"⟩, 11), (⟨"PuzzleWed$Couples", "weighAll", "()V"⟩, 11), (⟨"PuzzleWed$Couples", "setBest", "(III)V"⟩, 11), (⟨"PuzzleWed$Couples", "bestOf", "(II)I"⟩, 11), (⟨"PuzzleWed$Couples", "withBond", "(III)I"⟩, 11), (⟨"PuzzleWed$Couples", "choose", "(II)I"⟩, 11), (⟨"PuzzleWed$Couples", "askNext", "(I)Z"⟩, 11), (⟨"PuzzleWed$Couples", "prefers", "(III)Z"⟩, 11), (⟨"PuzzleWed", "wouldLeave", "(II)Z"⟩, 15), (⟨"PuzzleWed", "likingNow", "(I)I"⟩, 15), (⟨"PuzzleWed$Search", "weigh", "()V"⟩, 8)]
theorem lw_r2 : ∀ q ∈ lw_privs_2, lw_okq q := List.forall_mem_cons.mpr ⟨lw_p16, List.forall_mem_cons.mpr ⟨lw_p17, List.forall_mem_cons.mpr ⟨lw_p18, List.forall_mem_cons.mpr ⟨lw_p19, List.forall_mem_cons.mpr ⟨lw_p20, List.forall_mem_cons.mpr ⟨lw_p21, List.forall_mem_cons.mpr ⟨lw_p22, List.forall_mem_cons.mpr ⟨lw_p23, List.forall_mem_cons.mpr ⟨lw_p24, List.forall_mem_cons.mpr ⟨lw_p25, List.forall_mem_cons.mpr ⟨lw_p26, List.forall_mem_cons.mpr ⟨lw_p27, List.forall_mem_cons.mpr ⟨lw_p28, List.forall_mem_cons.mpr ⟨lw_p29, List.forall_mem_cons.mpr ⟨lw_p30, List.forall_mem_cons.mpr ⟨lw_p31, fun _ h => absurd h List.not_mem_nil⟩⟩⟩⟩⟩⟩⟩⟩⟩⟩⟩⟩⟩⟩⟩⟩
theorem lw_p32 : lw_okq (⟨"PuzzleWed$Search", "nextOrder", "()Z"⟩, 8) := ⟨⟨by decide +kernel, by decide +kernel⟩, lw_in2 _ (List.mem_of_getElem? (i := 74) (by decide +kernel)), lw_in5 _ (List.mem_of_getElem? (i := 3) (by decide +kernel)), lw_in5 _ (List.mem_of_getElem? (i := 4) (by decide +kernel))⟩
theorem lw_p33 : lw_okq (⟨"PuzzleWed$Search", "swap", "(II)V"⟩, 8) := ⟨⟨by decide +kernel, by decide +kernel⟩, lw_in2 _ (List.mem_of_getElem? (i := 74) (by decide +kernel)), lw_in5 _ (List.mem_of_getElem? (i := 7) (by decide +kernel)), lw_in5 _ (List.mem_of_getElem? (i := 8) (by decide +kernel))⟩
theorem lw_p34 : lw_okq (⟨"PuzzleWed$Search", "commonDivisor", "()I"⟩, 8) := ⟨⟨by decide +kernel, by decide +kernel⟩, lw_in2 _ (List.mem_of_getElem? (i := 74) (by decide +kernel)), lw_in5 _ (List.mem_of_getElem? (i := 15) (by decide +kernel)), lw_in5 _ (List.mem_of_getElem? (i := 16) (by decide +kernel))⟩
theorem lw_p35 : lw_okq (⟨"PuzzleWed", "canSand", "(III)Z"⟩, 15) := ⟨⟨by decide +kernel, by decide +kernel⟩, lw_in1 _ (List.mem_of_getElem? (i := 24) (by decide +kernel)), lw_in5 _ (List.mem_of_getElem? (i := 27) (by decide +kernel)), lw_in5 _ (List.mem_of_getElem? (i := 28) (by decide +kernel))⟩
theorem lw_p36 : lw_okq (⟨"PuzzleWed$Sander", "weigh", "(IIIJ)V"⟩, 11) := ⟨⟨by decide +kernel, by decide +kernel⟩, lw_in2 _ (List.mem_of_getElem? (i := 107) (by decide +kernel)), lw_in5 _ (List.mem_of_getElem? (i := 40) (by decide +kernel)), lw_in5 _ (List.mem_of_getElem? (i := 41) (by decide +kernel))⟩
theorem lw_p37 : lw_okq (⟨"PuzzleWed$Sander", "bestHere", "(II)J"⟩, 11) := ⟨⟨by decide +kernel, by decide +kernel⟩, lw_in2 _ (List.mem_of_getElem? (i := 107) (by decide +kernel)), lw_in5 _ (List.mem_of_getElem? (i := 47) (by decide +kernel)), lw_in5 _ (List.mem_of_getElem? (i := 48) (by decide +kernel))⟩
theorem lw_p38 : lw_okq (⟨"PuzzleWed$Sander", "leastOf", "(II)J"⟩, 11) := ⟨⟨by decide +kernel, by decide +kernel⟩, lw_in2 _ (List.mem_of_getElem? (i := 107) (by decide +kernel)), lw_in5 _ (List.mem_of_getElem? (i := 52) (by decide +kernel)), lw_in5 _ (List.mem_of_getElem? (i := 53) (by decide +kernel))⟩
theorem lw_p39 : lw_okq (⟨"PuzzleWed$Sander", "read", "(J)V"⟩, 11) := ⟨⟨by decide +kernel, by decide +kernel⟩, lw_in2 _ (List.mem_of_getElem? (i := 107) (by decide +kernel)), lw_in5 _ (List.mem_of_getElem? (i := 60) (by decide +kernel)), lw_in5 _ (List.mem_of_getElem? (i := 61) (by decide +kernel))⟩
theorem lw_p40 : lw_okq (⟨"PuzzleWed", "fitOthers", "(I[II)I"⟩, 15) := ⟨⟨by decide +kernel, by decide +kernel⟩, lw_in1 _ (List.mem_of_getElem? (i := 24) (by decide +kernel)), lw_in5 _ (List.mem_of_getElem? (i := 64) (by decide +kernel)), lw_in5 _ (List.mem_of_getElem? (i := 65) (by decide +kernel))⟩
theorem lw_p41 : lw_okq (⟨"PuzzleWed", "rulesAll", "(II)Z"⟩, 15) := ⟨⟨by decide +kernel, by decide +kernel⟩, lw_in1 _ (List.mem_of_getElem? (i := 24) (by decide +kernel)), lw_in5 _ (List.mem_of_getElem? (i := 89) (by decide +kernel)), lw_in5 _ (List.mem_of_getElem? (i := 90) (by decide +kernel))⟩
theorem lw_p42 : lw_okq (⟨"PuzzleWed", "cut", "(I[I)V"⟩, 15) := ⟨⟨by decide +kernel, by decide +kernel⟩, lw_in1 _ (List.mem_of_getElem? (i := 24) (by decide +kernel)), lw_in5 _ (List.mem_of_getElem? (i := 93) (by decide +kernel)), lw_in5 _ (List.mem_of_getElem? (i := 94) (by decide +kernel))⟩
theorem lw_p43 : lw_okq (⟨"PuzzleWed", "madeBy", "(II)I"⟩, 15) := ⟨⟨by decide +kernel, by decide +kernel⟩, lw_in1 _ (List.mem_of_getElem? (i := 24) (by decide +kernel)), lw_in5 _ (List.mem_of_getElem? (i := 100) (by decide +kernel)), lw_in5 _ (List.mem_of_getElem? (i := 101) (by decide +kernel))⟩
theorem lw_p44 : lw_okq (⟨"PuzzleWedModel", "isPerson", "(I)Z"⟩, 47) := ⟨⟨by decide +kernel, by decide +kernel⟩, lw_in5 _ (List.mem_of_getElem? (i := 137) (by decide +kernel)), lw_in6 _ (List.mem_of_getElem? (i := 54) (by decide +kernel)), lw_in6 _ (List.mem_of_getElem? (i := 55) (by decide +kernel))⟩
theorem lw_p45 : lw_okq (⟨"PuzzleWedModel", "lives", "(I)Z"⟩, 47) := ⟨⟨by decide +kernel, by decide +kernel⟩, lw_in5 _ (List.mem_of_getElem? (i := 137) (by decide +kernel)), lw_in6 _ (List.mem_of_getElem? (i := 72) (by decide +kernel)), lw_in6 _ (List.mem_of_getElem? (i := 73) (by decide +kernel))⟩
theorem lw_p46 : lw_okq (⟨"PuzzleWedModel", "parts", "(I)V"⟩, 47) := ⟨⟨by decide +kernel, by decide +kernel⟩, lw_in5 _ (List.mem_of_getElem? (i := 137) (by decide +kernel)), lw_in6 _ (List.mem_of_getElem? (i := 76) (by decide +kernel)), lw_in6 _ (List.mem_of_getElem? (i := 77) (by decide +kernel))⟩
theorem lw_p47 : lw_okq (⟨"PuzzleWedModel", "isFree", "(I)Z"⟩, 47) := ⟨⟨by decide +kernel, by decide +kernel⟩, lw_in5 _ (List.mem_of_getElem? (i := 137) (by decide +kernel)), lw_in6 _ (List.mem_of_getElem? (i := 84) (by decide +kernel)), lw_in6 _ (List.mem_of_getElem? (i := 85) (by decide +kernel))⟩
def lw_privs_3 : List (MethodName × Nat) := [(⟨"PuzzleWed$Search", "nextOrder", "()Z"⟩, 8), (⟨"PuzzleWed$Search", "swap", "(II)V"⟩, 8), (⟨"PuzzleWed$Search", "commonDivisor", "()I"⟩, 8), (⟨"PuzzleWed", "canSand", "(III)Z"⟩, 15), (⟨"PuzzleWed$Sander", "weigh", "(IIIJ)V"⟩, 11), (⟨"PuzzleWed$Sander", "bestHere", "(II)J"⟩, 11), (⟨"PuzzleWed$Sander", "leastOf", "(II)J"⟩, 11), (⟨"PuzzleWed$Sander", "read", "(J)V"⟩, 11), (⟨"PuzzleWed", "fitOthers", "(I[II)I"⟩, 15), (⟨"PuzzleWed", "rulesAll", "(II)Z"⟩, 15), (⟨"PuzzleWed", "cut", "(I[I)V"⟩, 15), (⟨"PuzzleWed", "madeBy", "(II)I"⟩, 15), (⟨"PuzzleWedModel", "isPerson", "(I)Z"⟩, 47), (⟨"PuzzleWedModel", "lives", "(I)Z"⟩, 47), (⟨"PuzzleWedModel", "parts", "(I)V"⟩, 47), (⟨"PuzzleWedModel", "isFree", "(I)Z"⟩, 47)]
theorem lw_r3 : ∀ q ∈ lw_privs_3, lw_okq q := List.forall_mem_cons.mpr ⟨lw_p32, List.forall_mem_cons.mpr ⟨lw_p33, List.forall_mem_cons.mpr ⟨lw_p34, List.forall_mem_cons.mpr ⟨lw_p35, List.forall_mem_cons.mpr ⟨lw_p36, List.forall_mem_cons.mpr ⟨lw_p37, List.forall_mem_cons.mpr ⟨lw_p38, List.forall_mem_cons.mpr ⟨lw_p39, List.forall_mem_cons.mpr ⟨lw_p40, List.forall_mem_cons.mpr ⟨lw_p41, List.forall_mem_cons.mpr ⟨lw_p42, List.forall_mem_cons.mpr ⟨lw_p43, List.forall_mem_cons.mpr ⟨lw_p44, List.forall_mem_cons.mpr ⟨lw_p45, List.forall_mem_cons.mpr ⟨lw_p46, List.forall_mem_cons.mpr ⟨lw_p47, fun _ h => absurd h List.not_mem_nil⟩⟩⟩⟩⟩⟩⟩⟩⟩⟩⟩⟩⟩⟩⟩⟩
theorem lw_p48 : lw_okq (⟨"PuzzleWedModel", "wedsTwo", "(II)V"⟩, 47) := ⟨⟨by decide +kernel, by decide +kernel⟩, lw_in5 _ (List.mem_of_getElem? (i := 137) (by decide +kernel)), lw_in6 _ (List.mem_of_getElem? (i := 88) (by decide +kernel)), lw_in6 _ (List.mem_of_getElem? (i := 89) (by decide +kernel))⟩
theorem lw_p49 : lw_okq (⟨"PuzzleWedModel", "types", "(I)V"⟩, 47) := ⟨⟨by decide +kernel, by decide +kernel⟩, lw_in5 _ (List.mem_of_getElem? (i := 137) (by decide +kernel)), lw_in6 _ (List.mem_of_getElem? (i := 96) (by decide +kernel)), lw_in6 _ (List.mem_of_getElem? (i := 97) (by decide +kernel))⟩
theorem lw_p50 : lw_okq (⟨"PuzzleWedModel", "readsClause", "()Z"⟩, 47) := ⟨⟨by decide +kernel, by decide +kernel⟩, lw_in5 _ (List.mem_of_getElem? (i := 137) (by decide +kernel)), lw_in6 _ (List.mem_of_getElem? (i := 104) (by decide +kernel)), lw_in6 _ (List.mem_of_getElem? (i := 105) (by decide +kernel))⟩
theorem lw_p51 : lw_okq (⟨"PuzzleWedModel", "here", "()I"⟩, 47) := ⟨⟨by decide +kernel, by decide +kernel⟩, lw_in5 _ (List.mem_of_getElem? (i := 137) (by decide +kernel)), lw_in6 _ (List.mem_of_getElem? (i := 108) (by decide +kernel)), lw_in6 _ (List.mem_of_getElem? (i := 109) (by decide +kernel))⟩
theorem lw_p52 : lw_okq (⟨"PuzzleWedModel", "wrongAt", "(II)Z"⟩, 47) := ⟨⟨by decide +kernel, by decide +kernel⟩, lw_in5 _ (List.mem_of_getElem? (i := 137) (by decide +kernel)), lw_in6 _ (List.mem_of_getElem? (i := 115) (by decide +kernel)), lw_in6 _ (List.mem_of_getElem? (i := 116) (by decide +kernel))⟩
theorem lw_p53 : lw_okq (⟨"PuzzleWedModel", "readsSum", "()Z"⟩, 47) := ⟨⟨by decide +kernel, by decide +kernel⟩, lw_in5 _ (List.mem_of_getElem? (i := 137) (by decide +kernel)), lw_in6 _ (List.mem_of_getElem? (i := 119) (by decide +kernel)), lw_in6 _ (List.mem_of_getElem? (i := 120) (by decide +kernel))⟩
theorem lw_p54 : lw_okq (⟨"PuzzleWedModel", "readsFactor", "()Z"⟩, 47) := ⟨⟨by decide +kernel, by decide +kernel⟩, lw_in5 _ (List.mem_of_getElem? (i := 137) (by decide +kernel)), lw_in6 _ (List.mem_of_getElem? (i := 123) (by decide +kernel)), lw_in6 _ (List.mem_of_getElem? (i := 124) (by decide +kernel))⟩
theorem lw_p55 : lw_okq (⟨"PuzzleWedModel", "opens", "(I)Z"⟩, 47) := ⟨⟨by decide +kernel, by decide +kernel⟩, lw_in5 _ (List.mem_of_getElem? (i := 137) (by decide +kernel)), lw_in6 _ (List.mem_of_getElem? (i := 127) (by decide +kernel)), lw_in6 _ (List.mem_of_getElem? (i := 128) (by decide +kernel))⟩
theorem lw_p56 : lw_okq (⟨"PuzzleWedModel", "isDigit", "()Z"⟩, 47) := ⟨⟨by decide +kernel, by decide +kernel⟩, lw_in5 _ (List.mem_of_getElem? (i := 137) (by decide +kernel)), lw_in6 _ (List.mem_of_getElem? (i := 132) (by decide +kernel)), lw_in6 _ (List.mem_of_getElem? (i := 133) (by decide +kernel))⟩
theorem lw_p57 : lw_okq (⟨"PuzzleWedModel", "readsNumber", "()Z"⟩, 47) := ⟨⟨by decide +kernel, by decide +kernel⟩, lw_in5 _ (List.mem_of_getElem? (i := 137) (by decide +kernel)), lw_in6 _ (List.mem_of_getElem? (i := 136) (by decide +kernel)), lw_in6 _ (List.mem_of_getElem? (i := 137) (by decide +kernel))⟩
theorem lw_p58 : lw_okq (⟨"PuzzleWedModel", "notes", "(II)V"⟩, 47) := ⟨⟨by decide +kernel, by decide +kernel⟩, lw_in5 _ (List.mem_of_getElem? (i := 137) (by decide +kernel)), lw_in6 _ (List.mem_of_getElem? (i := 140) (by decide +kernel)), lw_in6 _ (List.mem_of_getElem? (i := 141) (by decide +kernel))⟩
theorem lw_p59 : lw_okq (⟨"PuzzleWedModel", "closesSums", "(Z)V"⟩, 47) := ⟨⟨by decide +kernel, by decide +kernel⟩, lw_in5 _ (List.mem_of_getElem? (i := 137) (by decide +kernel)), lw_in6 _ (List.mem_of_getElem? (i := 150) (by decide +kernel)), lw_in6 _ (List.mem_of_getElem? (i := 151) (by decide +kernel))⟩
theorem lw_p60 : lw_okq (⟨"PuzzleWedModel", "waitTop", "()I"⟩, 47) := ⟨⟨by decide +kernel, by decide +kernel⟩, lw_in5 _ (List.mem_of_getElem? (i := 137) (by decide +kernel)), lw_in6 _ (List.mem_of_getElem? (i := 154) (by decide +kernel)), lw_in6 _ (List.mem_of_getElem? (i := 155) (by decide +kernel))⟩
theorem lw_p61 : lw_okq (⟨"PuzzleWedModel", "hasOpenSum", "(I)Z"⟩, 47) := ⟨⟨by decide +kernel, by decide +kernel⟩, lw_in5 _ (List.mem_of_getElem? (i := 137) (by decide +kernel)), lw_in6 _ (List.mem_of_getElem? (i := 158) (by decide +kernel)), lw_in6 _ (List.mem_of_getElem? (i := 159) (by decide +kernel))⟩
theorem lw_p62 : lw_okq (⟨"PuzzleWedModel", "readsCondition", "()Z"⟩, 47) := ⟨⟨by decide +kernel, by decide +kernel⟩, lw_in5 _ (List.mem_of_getElem? (i := 137) (by decide +kernel)), lw_in6 _ (List.mem_of_getElem? (i := 162) (by decide +kernel)), lw_in6 _ (List.mem_of_getElem? (i := 163) (by decide +kernel))⟩
theorem lw_p63 : lw_okq (⟨"PuzzleWedModel", "readsCompared", "()Z"⟩, 47) := ⟨⟨by decide +kernel, by decide +kernel⟩, lw_in5 _ (List.mem_of_getElem? (i := 137) (by decide +kernel)), lw_in6 _ (List.mem_of_getElem? (i := 166) (by decide +kernel)), lw_in6 _ (List.mem_of_getElem? (i := 167) (by decide +kernel))⟩
def lw_privs_4 : List (MethodName × Nat) := [(⟨"PuzzleWedModel", "wedsTwo", "(II)V"⟩, 47), (⟨"PuzzleWedModel", "types", "(I)V"⟩, 47), (⟨"PuzzleWedModel", "readsClause", "()Z"⟩, 47), (⟨"PuzzleWedModel", "here", "()I"⟩, 47), (⟨"PuzzleWedModel", "wrongAt", "(II)Z"⟩, 47), (⟨"PuzzleWedModel", "readsSum", "()Z"⟩, 47), (⟨"PuzzleWedModel", "readsFactor", "()Z"⟩, 47), (⟨"PuzzleWedModel", "opens", "(I)Z"⟩, 47), (⟨"PuzzleWedModel", "isDigit", "()Z"⟩, 47), (⟨"PuzzleWedModel", "readsNumber", "()Z"⟩, 47), (⟨"PuzzleWedModel", "notes", "(II)V"⟩, 47), (⟨"PuzzleWedModel", "closesSums", "(Z)V"⟩, 47), (⟨"PuzzleWedModel", "waitTop", "()I"⟩, 47), (⟨"PuzzleWedModel", "hasOpenSum", "(I)Z"⟩, 47), (⟨"PuzzleWedModel", "readsCondition", "()Z"⟩, 47), (⟨"PuzzleWedModel", "readsCompared", "()Z"⟩, 47)]
theorem lw_r4 : ∀ q ∈ lw_privs_4, lw_okq q := List.forall_mem_cons.mpr ⟨lw_p48, List.forall_mem_cons.mpr ⟨lw_p49, List.forall_mem_cons.mpr ⟨lw_p50, List.forall_mem_cons.mpr ⟨lw_p51, List.forall_mem_cons.mpr ⟨lw_p52, List.forall_mem_cons.mpr ⟨lw_p53, List.forall_mem_cons.mpr ⟨lw_p54, List.forall_mem_cons.mpr ⟨lw_p55, List.forall_mem_cons.mpr ⟨lw_p56, List.forall_mem_cons.mpr ⟨lw_p57, List.forall_mem_cons.mpr ⟨lw_p58, List.forall_mem_cons.mpr ⟨lw_p59, List.forall_mem_cons.mpr ⟨lw_p60, List.forall_mem_cons.mpr ⟨lw_p61, List.forall_mem_cons.mpr ⟨lw_p62, List.forall_mem_cons.mpr ⟨lw_p63, fun _ h => absurd h List.not_mem_nil⟩⟩⟩⟩⟩⟩⟩⟩⟩⟩⟩⟩⟩⟩⟩⟩
theorem lw_p64 : lw_okq (⟨"PuzzleWedModel", "endsPiece", "()V"⟩, 47) := ⟨⟨by decide +kernel, by decide +kernel⟩, lw_in5 _ (List.mem_of_getElem? (i := 137) (by decide +kernel)), lw_in6 _ (List.mem_of_getElem? (i := 170) (by decide +kernel)), lw_in6 _ (List.mem_of_getElem? (i := 171) (by decide +kernel))⟩
theorem lw_p65 : lw_okq (⟨"PuzzleWedModel", "lands", "(Z)V"⟩, 47) := ⟨⟨by decide +kernel, by decide +kernel⟩, lw_in5 _ (List.mem_of_getElem? (i := 137) (by decide +kernel)), lw_in6 _ (List.mem_of_getElem? (i := 174) (by decide +kernel)), lw_in6 _ (List.mem_of_getElem? (i := 175) (by decide +kernel))⟩
theorem lw_p66 : lw_okq (⟨"PuzzleWedModel", "jumps", "(I)V"⟩, 47) := ⟨⟨by decide +kernel, by decide +kernel⟩, lw_in5 _ (List.mem_of_getElem? (i := 137) (by decide +kernel)), lw_in6 _ (List.mem_of_getElem? (i := 178) (by decide +kernel)), lw_in6 _ (List.mem_of_getElem? (i := 179) (by decide +kernel))⟩
theorem lw_p67 : lw_okq (⟨"PuzzleWedModel", "takes", "(I)Z"⟩, 47) := ⟨⟨by decide +kernel, by decide +kernel⟩, lw_in5 _ (List.mem_of_getElem? (i := 137) (by decide +kernel)), lw_in6 _ (List.mem_of_getElem? (i := 182) (by decide +kernel)), lw_in6 _ (List.mem_of_getElem? (i := 183) (by decide +kernel))⟩
theorem lw_p68 : lw_okq (⟨"PuzzleWedModel", "readsHeight", "()Z"⟩, 47) := ⟨⟨by decide +kernel, by decide +kernel⟩, lw_in5 _ (List.mem_of_getElem? (i := 137) (by decide +kernel)), lw_in6 _ (List.mem_of_getElem? (i := 190) (by decide +kernel)), lw_in6 _ (List.mem_of_getElem? (i := 191) (by decide +kernel))⟩
theorem lw_p69 : lw_okq (⟨"PuzzleWedModel", "readsStop", "()Z"⟩, 47) := ⟨⟨by decide +kernel, by decide +kernel⟩, lw_in5 _ (List.mem_of_getElem? (i := 137) (by decide +kernel)), lw_in6 _ (List.mem_of_getElem? (i := 201) (by decide +kernel)), lw_in6 _ (List.mem_of_getElem? (i := 202) (by decide +kernel))⟩
theorem lw_p70 : lw_okq (⟨"PuzzleWedModel", "daysGo", "(I)V"⟩, 47) := ⟨⟨by decide +kernel, by decide +kernel⟩, lw_in5 _ (List.mem_of_getElem? (i := 137) (by decide +kernel)), lw_in6 _ (List.mem_of_getElem? (i := 209) (by decide +kernel)), lw_in6 _ (List.mem_of_getElem? (i := 210) (by decide +kernel))⟩
theorem lw_p71 : lw_okq (⟨"PuzzleWedModel", "travels", "(I)V"⟩, 47) := ⟨⟨by decide +kernel, by decide +kernel⟩, lw_in5 _ (List.mem_of_getElem? (i := 137) (by decide +kernel)), lw_in6 _ (List.mem_of_getElem? (i := 213) (by decide +kernel)), lw_in6 _ (List.mem_of_getElem? (i := 214) (by decide +kernel))⟩
theorem lw_p72 : lw_okq (⟨"PuzzleWedModel", "triesIn", "(II)V"⟩, 47) := ⟨⟨by decide +kernel, by decide +kernel⟩, lw_in5 _ (List.mem_of_getElem? (i := 137) (by decide +kernel)), lw_in6 _ (List.mem_of_getElem? (i := 217) (by decide +kernel)), lw_in6 _ (List.mem_of_getElem? (i := 218) (by decide +kernel))⟩
theorem lw_p73 : lw_okq (⟨"PuzzleWedModel", "haveTried", "(II)V"⟩, 47) := ⟨⟨by decide +kernel, by decide +kernel⟩, lw_in5 _ (List.mem_of_getElem? (i := 137) (by decide +kernel)), lw_in6 _ (List.mem_of_getElem? (i := 221) (by decide +kernel)), lw_in6 _ (List.mem_of_getElem? (i := 222) (by decide +kernel))⟩
theorem lw_p74 : lw_okq (⟨"PuzzleWedModel", "fit", "(II)Z"⟩, 47) := ⟨⟨by decide +kernel, by decide +kernel⟩, lw_in5 _ (List.mem_of_getElem? (i := 137) (by decide +kernel)), lw_in6 _ (List.mem_of_getElem? (i := 225) (by decide +kernel)), lw_in6 _ (List.mem_of_getElem? (i := 226) (by decide +kernel))⟩
theorem lw_p75 : lw_okq (⟨"PuzzleWedModel", "slackBy", "(II)I"⟩, 47) := ⟨⟨by decide +kernel, by decide +kernel⟩, lw_in5 _ (List.mem_of_getElem? (i := 137) (by decide +kernel)), lw_in6 _ (List.mem_of_getElem? (i := 229) (by decide +kernel)), lw_in6 _ (List.mem_of_getElem? (i := 230) (by decide +kernel))⟩
theorem lw_p76 : lw_okq (⟨"PuzzleWedModel", "slackOf", "(II)I"⟩, 47) := ⟨⟨by decide +kernel, by decide +kernel⟩, lw_in5 _ (List.mem_of_getElem? (i := 137) (by decide +kernel)), lw_in6 _ (List.mem_of_getElem? (i := 234) (by decide +kernel)), lw_in6 _ (List.mem_of_getElem? (i := 235) (by decide +kernel))⟩
theorem lw_p77 : lw_okq (⟨"PuzzleWedModel", "heightOf", "(II)I"⟩, 47) := ⟨⟨by decide +kernel, by decide +kernel⟩, lw_in5 _ (List.mem_of_getElem? (i := 137) (by decide +kernel)), lw_in6 _ (List.mem_of_getElem? (i := 238) (by decide +kernel)), lw_in6 _ (List.mem_of_getElem? (i := 239) (by decide +kernel))⟩
theorem lw_p78 : lw_okq (⟨"PuzzleWedModel", "allowed", "(II)I"⟩, 47) := ⟨⟨by decide +kernel, by decide +kernel⟩, lw_in5 _ (List.mem_of_getElem? (i := 137) (by decide +kernel)), lw_in7 _ (List.mem_of_getElem? (i := 8) (by decide +kernel)), lw_in7 _ (List.mem_of_getElem? (i := 9) (by decide +kernel))⟩
theorem lw_p79 : lw_okq (⟨"PuzzleWedModel", "feels", "(III)V"⟩, 47) := ⟨⟨by decide +kernel, by decide +kernel⟩, lw_in5 _ (List.mem_of_getElem? (i := 137) (by decide +kernel)), lw_in7 _ (List.mem_of_getElem? (i := 12) (by decide +kernel)), lw_in7 _ (List.mem_of_getElem? (i := 13) (by decide +kernel))⟩
def lw_privs_5 : List (MethodName × Nat) := [(⟨"PuzzleWedModel", "endsPiece", "()V"⟩, 47), (⟨"PuzzleWedModel", "lands", "(Z)V"⟩, 47), (⟨"PuzzleWedModel", "jumps", "(I)V"⟩, 47), (⟨"PuzzleWedModel", "takes", "(I)Z"⟩, 47), (⟨"PuzzleWedModel", "readsHeight", "()Z"⟩, 47), (⟨"PuzzleWedModel", "readsStop", "()Z"⟩, 47), (⟨"PuzzleWedModel", "daysGo", "(I)V"⟩, 47), (⟨"PuzzleWedModel", "travels", "(I)V"⟩, 47), (⟨"PuzzleWedModel", "triesIn", "(II)V"⟩, 47), (⟨"PuzzleWedModel", "haveTried", "(II)V"⟩, 47), (⟨"PuzzleWedModel", "fit", "(II)Z"⟩, 47), (⟨"PuzzleWedModel", "slackBy", "(II)I"⟩, 47), (⟨"PuzzleWedModel", "slackOf", "(II)I"⟩, 47), (⟨"PuzzleWedModel", "heightOf", "(II)I"⟩, 47), (⟨"PuzzleWedModel", "allowed", "(II)I"⟩, 47), (⟨"PuzzleWedModel", "feels", "(III)V"⟩, 47)]
theorem lw_r5 : ∀ q ∈ lw_privs_5, lw_okq q := List.forall_mem_cons.mpr ⟨lw_p64, List.forall_mem_cons.mpr ⟨lw_p65, List.forall_mem_cons.mpr ⟨lw_p66, List.forall_mem_cons.mpr ⟨lw_p67, List.forall_mem_cons.mpr ⟨lw_p68, List.forall_mem_cons.mpr ⟨lw_p69, List.forall_mem_cons.mpr ⟨lw_p70, List.forall_mem_cons.mpr ⟨lw_p71, List.forall_mem_cons.mpr ⟨lw_p72, List.forall_mem_cons.mpr ⟨lw_p73, List.forall_mem_cons.mpr ⟨lw_p74, List.forall_mem_cons.mpr ⟨lw_p75, List.forall_mem_cons.mpr ⟨lw_p76, List.forall_mem_cons.mpr ⟨lw_p77, List.forall_mem_cons.mpr ⟨lw_p78, List.forall_mem_cons.mpr ⟨lw_p79, fun _ h => absurd h List.not_mem_nil⟩⟩⟩⟩⟩⟩⟩⟩⟩⟩⟩⟩⟩⟩⟩⟩
theorem lw_p80 : lw_okq (⟨"PuzzleWedModel", "byLaw", "(II)I"⟩, 47) := ⟨⟨by decide +kernel, by decide +kernel⟩, lw_in5 _ (List.mem_of_getElem? (i := 137) (by decide +kernel)), lw_in7 _ (List.mem_of_getElem? (i := 19) (by decide +kernel)), lw_in7 _ (List.mem_of_getElem? (i := 20) (by decide +kernel))⟩
theorem lw_p81 : lw_okq (⟨"PuzzleWedModel", "comesTo", "(II)I"⟩, 47) := ⟨⟨by decide +kernel, by decide +kernel⟩, lw_in5 _ (List.mem_of_getElem? (i := 137) (by decide +kernel)), lw_in7 _ (List.mem_of_getElem? (i := 23) (by decide +kernel)), lw_in7 _ (List.mem_of_getElem? (i := 24) (by decide +kernel))⟩
theorem lw_p82 : lw_okq (⟨"PuzzleWedModel", "wearsBy", "(II)I"⟩, 47) := ⟨⟨by decide +kernel, by decide +kernel⟩, lw_in5 _ (List.mem_of_getElem? (i := 137) (by decide +kernel)), lw_in7 _ (List.mem_of_getElem? (i := 30) (by decide +kernel)), lw_in7 _ (List.mem_of_getElem? (i := 31) (by decide +kernel))⟩
theorem lw_p83 : lw_okq (⟨"PuzzleWedModel", "wearsAll", "(II)V"⟩, 47) := ⟨⟨by decide +kernel, by decide +kernel⟩, lw_in5 _ (List.mem_of_getElem? (i := 137) (by decide +kernel)), lw_in7 _ (List.mem_of_getElem? (i := 34) (by decide +kernel)), lw_in7 _ (List.mem_of_getElem? (i := 35) (by decide +kernel))⟩
theorem lw_p84 : lw_okq (⟨"PuzzleWedModel", "creak", "(I)V"⟩, 47) := ⟨⟨by decide +kernel, by decide +kernel⟩, lw_in5 _ (List.mem_of_getElem? (i := 137) (by decide +kernel)), lw_in7 _ (List.mem_of_getElem? (i := 38) (by decide +kernel)), lw_in7 _ (List.mem_of_getElem? (i := 39) (by decide +kernel))⟩
theorem lw_p85 : lw_okq (⟨"PuzzleWedModel", "draws", "()I"⟩, 47) := ⟨⟨by decide +kernel, by decide +kernel⟩, lw_in5 _ (List.mem_of_getElem? (i := 137) (by decide +kernel)), lw_in7 _ (List.mem_of_getElem? (i := 42) (by decide +kernel)), lw_in7 _ (List.mem_of_getElem? (i := 43) (by decide +kernel))⟩
theorem lw_p86 : lw_okq (⟨"PuzzleWedModel", "wedTwos", "()I"⟩, 47) := ⟨⟨by decide +kernel, by decide +kernel⟩, lw_in5 _ (List.mem_of_getElem? (i := 137) (by decide +kernel)), lw_in7 _ (List.mem_of_getElem? (i := 54) (by decide +kernel)), lw_in7 _ (List.mem_of_getElem? (i := 55) (by decide +kernel))⟩
theorem lw_p87 : lw_okq (⟨"PuzzleWedModel", "fitting", "(I)I"⟩, 47) := ⟨⟨by decide +kernel, by decide +kernel⟩, lw_in5 _ (List.mem_of_getElem? (i := 137) (by decide +kernel)), lw_in7 _ (List.mem_of_getElem? (i := 62) (by decide +kernel)), lw_in7 _ (List.mem_of_getElem? (i := 63) (by decide +kernel))⟩
theorem lw_p88 : lw_okq (⟨"PuzzleWedModel", "likes", "(II)I"⟩, 47) := ⟨⟨by decide +kernel, by decide +kernel⟩, lw_in5 _ (List.mem_of_getElem? (i := 137) (by decide +kernel)), lw_in7 _ (List.mem_of_getElem? (i := 74) (by decide +kernel)), lw_in7 _ (List.mem_of_getElem? (i := 75) (by decide +kernel))⟩
theorem lw_p89 : lw_okq (⟨"PuzzleWedModel", "laysFits", "()V"⟩, 47) := ⟨⟨by decide +kernel, by decide +kernel⟩, lw_in5 _ (List.mem_of_getElem? (i := 137) (by decide +kernel)), lw_in7 _ (List.mem_of_getElem? (i := 82) (by decide +kernel)), lw_in7 _ (List.mem_of_getElem? (i := 83) (by decide +kernel))⟩
theorem lw_p90 : lw_okq (⟨"PuzzleWedModel", "isOne", "(II)Z"⟩, 47) := ⟨⟨by decide +kernel, by decide +kernel⟩, lw_in5 _ (List.mem_of_getElem? (i := 137) (by decide +kernel)), lw_in7 _ (List.mem_of_getElem? (i := 90) (by decide +kernel)), lw_in7 _ (List.mem_of_getElem? (i := 91) (by decide +kernel))⟩
theorem lw_p91 : lw_okq (⟨"PuzzleWedModel", "laysMost", "()V"⟩, 47) := ⟨⟨by decide +kernel, by decide +kernel⟩, lw_in5 _ (List.mem_of_getElem? (i := 137) (by decide +kernel)), lw_in7 _ (List.mem_of_getElem? (i := 94) (by decide +kernel)), lw_in7 _ (List.mem_of_getElem? (i := 95) (by decide +kernel))⟩
theorem lw_p92 : lw_okq (⟨"PuzzleWedModel", "mayGet", "(III)Z"⟩, 47) := ⟨⟨by decide +kernel, by decide +kernel⟩, lw_in5 _ (List.mem_of_getElem? (i := 137) (by decide +kernel)), lw_in7 _ (List.mem_of_getElem? (i := 99) (by decide +kernel)), lw_in7 _ (List.mem_of_getElem? (i := 100) (by decide +kernel))⟩
theorem lw_p93 : lw_okq (⟨"PuzzleWedModel", "getsBy", "(I)I"⟩, 47) := ⟨⟨by decide +kernel, by decide +kernel⟩, lw_in5 _ (List.mem_of_getElem? (i := 137) (by decide +kernel)), lw_in7 _ (List.mem_of_getElem? (i := 103) (by decide +kernel)), lw_in7 _ (List.mem_of_getElem? (i := 104) (by decide +kernel))⟩
theorem lw_p94 : lw_okq (⟨"PuzzleWedModel", "laysStable", "()V"⟩, 47) := ⟨⟨by decide +kernel, by decide +kernel⟩, lw_in5 _ (List.mem_of_getElem? (i := 137) (by decide +kernel)), lw_in7 _ (List.mem_of_getElem? (i := 111) (by decide +kernel)), lw_in7 _ (List.mem_of_getElem? (i := 112) (by decide +kernel))⟩
theorem lw_p95 : lw_okq (⟨"PuzzleWedModel", "nextAsked", "(I)I"⟩, 47) := ⟨⟨by decide +kernel, by decide +kernel⟩, lw_in5 _ (List.mem_of_getElem? (i := 137) (by decide +kernel)), lw_in7 _ (List.mem_of_getElem? (i := 115) (by decide +kernel)), lw_in7 _ (List.mem_of_getElem? (i := 116) (by decide +kernel))⟩
def lw_privs_6 : List (MethodName × Nat) := [(⟨"PuzzleWedModel", "byLaw", "(II)I"⟩, 47), (⟨"PuzzleWedModel", "comesTo", "(II)I"⟩, 47), (⟨"PuzzleWedModel", "wearsBy", "(II)I"⟩, 47), (⟨"PuzzleWedModel", "wearsAll", "(II)V"⟩, 47), (⟨"PuzzleWedModel", "creak", "(I)V"⟩, 47), (⟨"PuzzleWedModel", "draws", "()I"⟩, 47), (⟨"PuzzleWedModel", "wedTwos", "()I"⟩, 47), (⟨"PuzzleWedModel", "fitting", "(I)I"⟩, 47), (⟨"PuzzleWedModel", "likes", "(II)I"⟩, 47), (⟨"PuzzleWedModel", "laysFits", "()V"⟩, 47), (⟨"PuzzleWedModel", "isOne", "(II)Z"⟩, 47), (⟨"PuzzleWedModel", "laysMost", "()V"⟩, 47), (⟨"PuzzleWedModel", "mayGet", "(III)Z"⟩, 47), (⟨"PuzzleWedModel", "getsBy", "(I)I"⟩, 47), (⟨"PuzzleWedModel", "laysStable", "()V"⟩, 47), (⟨"PuzzleWedModel", "nextAsked", "(I)I"⟩, 47)]
theorem lw_r6 : ∀ q ∈ lw_privs_6, lw_okq q := List.forall_mem_cons.mpr ⟨lw_p80, List.forall_mem_cons.mpr ⟨lw_p81, List.forall_mem_cons.mpr ⟨lw_p82, List.forall_mem_cons.mpr ⟨lw_p83, List.forall_mem_cons.mpr ⟨lw_p84, List.forall_mem_cons.mpr ⟨lw_p85, List.forall_mem_cons.mpr ⟨lw_p86, List.forall_mem_cons.mpr ⟨lw_p87, List.forall_mem_cons.mpr ⟨lw_p88, List.forall_mem_cons.mpr ⟨lw_p89, List.forall_mem_cons.mpr ⟨lw_p90, List.forall_mem_cons.mpr ⟨lw_p91, List.forall_mem_cons.mpr ⟨lw_p92, List.forall_mem_cons.mpr ⟨lw_p93, List.forall_mem_cons.mpr ⟨lw_p94, List.forall_mem_cons.mpr ⟨lw_p95, fun _ h => absurd h List.not_mem_nil⟩⟩⟩⟩⟩⟩⟩⟩⟩⟩⟩⟩⟩⟩⟩⟩
theorem lw_p96 : lw_okq (⟨"PuzzleWedModel", "keeps", "(II)Z"⟩, 47) := ⟨⟨by decide +kernel, by decide +kernel⟩, lw_in5 _ (List.mem_of_getElem? (i := 137) (by decide +kernel)), lw_in7 _ (List.mem_of_getElem? (i := 119) (by decide +kernel)), lw_in7 _ (List.mem_of_getElem? (i := 120) (by decide +kernel))⟩
theorem lw_p97 : lw_okq (⟨"PuzzleWedModel", "likesWed", "(I)I"⟩, 47) := ⟨⟨by decide +kernel, by decide +kernel⟩, lw_in5 _ (List.mem_of_getElem? (i := 137) (by decide +kernel)), lw_in7 _ (List.mem_of_getElem? (i := 127) (by decide +kernel)), lw_in7 _ (List.mem_of_getElem? (i := 128) (by decide +kernel))⟩
theorem lw_p98 : lw_okq (⟨"PuzzleWedModel", "areBounds", "(I)Z"⟩, 47) := ⟨⟨by decide +kernel, by decide +kernel⟩, lw_in5 _ (List.mem_of_getElem? (i := 137) (by decide +kernel)), lw_in7 _ (List.mem_of_getElem? (i := 135) (by decide +kernel)), lw_in7 _ (List.mem_of_getElem? (i := 136) (by decide +kernel))⟩
theorem lw_p99 : lw_okq (⟨"PuzzleWedModel", "readsRow", "(II)Z"⟩, 47) := ⟨⟨by decide +kernel, by decide +kernel⟩, lw_in5 _ (List.mem_of_getElem? (i := 137) (by decide +kernel)), lw_in7 _ (List.mem_of_getElem? (i := 139) (by decide +kernel)), lw_in7 _ (List.mem_of_getElem? (i := 140) (by decide +kernel))⟩
theorem lw_p100 : lw_okq (⟨"PuzzleWedModel", "sumBy", "(I)I"⟩, 47) := ⟨⟨by decide +kernel, by decide +kernel⟩, lw_in5 _ (List.mem_of_getElem? (i := 137) (by decide +kernel)), lw_in7 _ (List.mem_of_getElem? (i := 143) (by decide +kernel)), lw_in7 _ (List.mem_of_getElem? (i := 144) (by decide +kernel))⟩
theorem lw_p101 : lw_okq (⟨"PuzzleWedModel", "laysWork", "(I)V"⟩, 47) := ⟨⟨by decide +kernel, by decide +kernel⟩, lw_in5 _ (List.mem_of_getElem? (i := 137) (by decide +kernel)), lw_in7 _ (List.mem_of_getElem? (i := 154) (by decide +kernel)), lw_in7 _ (List.mem_of_getElem? (i := 155) (by decide +kernel))⟩
theorem lw_p102 : lw_okq (⟨"PuzzleWedModel", "workBy", "(IIII)I"⟩, 47) := ⟨⟨by decide +kernel, by decide +kernel⟩, lw_in5 _ (List.mem_of_getElem? (i := 137) (by decide +kernel)), lw_in7 _ (List.mem_of_getElem? (i := 158) (by decide +kernel)), lw_in7 _ (List.mem_of_getElem? (i := 159) (by decide +kernel))⟩
theorem lw_p103 : lw_okq (⟨"PuzzleWedModel", "workAt", "(III)I"⟩, 47) := ⟨⟨by decide +kernel, by decide +kernel⟩, lw_in5 _ (List.mem_of_getElem? (i := 137) (by decide +kernel)), lw_in7 _ (List.mem_of_getElem? (i := 162) (by decide +kernel)), lw_in7 _ (List.mem_of_getElem? (i := 163) (by decide +kernel))⟩
theorem lw_p104 : lw_okq (⟨"PuzzleWedModel", "laysSanded", "(II)V"⟩, 47) := ⟨⟨by decide +kernel, by decide +kernel⟩, lw_in5 _ (List.mem_of_getElem? (i := 137) (by decide +kernel)), lw_in7 _ (List.mem_of_getElem? (i := 166) (by decide +kernel)), lw_in7 _ (List.mem_of_getElem? (i := 167) (by decide +kernel))⟩
theorem lw_p105 : lw_okq (⟨"PuzzleWedModel", "slackOfSanded", "(I)I"⟩, 47) := ⟨⟨by decide +kernel, by decide +kernel⟩, lw_in5 _ (List.mem_of_getElem? (i := 137) (by decide +kernel)), lw_in7 _ (List.mem_of_getElem? (i := 170) (by decide +kernel)), lw_in7 _ (List.mem_of_getElem? (i := 171) (by decide +kernel))⟩
theorem lw_p106 : lw_okq (⟨"PuzzleWedModel", "slackSteamed", "(IIII)I"⟩, 47) := ⟨⟨by decide +kernel, by decide +kernel⟩, lw_in5 _ (List.mem_of_getElem? (i := 137) (by decide +kernel)), lw_in7 _ (List.mem_of_getElem? (i := 178) (by decide +kernel)), lw_in7 _ (List.mem_of_getElem? (i := 179) (by decide +kernel))⟩
theorem lw_p107 : lw_okq (⟨"PuzzleWedModel", "makesAll", "(II)Z"⟩, 47) := ⟨⟨by decide +kernel, by decide +kernel⟩, lw_in5 _ (List.mem_of_getElem? (i := 137) (by decide +kernel)), lw_in7 _ (List.mem_of_getElem? (i := 190) (by decide +kernel)), lw_in7 _ (List.mem_of_getElem? (i := 191) (by decide +kernel))⟩
theorem lw_p108 : lw_okq (⟨"PuzzleWedModel", "makes", "(III)Z"⟩, 47) := ⟨⟨by decide +kernel, by decide +kernel⟩, lw_in5 _ (List.mem_of_getElem? (i := 137) (by decide +kernel)), lw_in7 _ (List.mem_of_getElem? (i := 194) (by decide +kernel)), lw_in7 _ (List.mem_of_getElem? (i := 195) (by decide +kernel))⟩
theorem lw_p109 : lw_okq (⟨"PuzzleWedModel", "areSame", "(II)Z"⟩, 47) := ⟨⟨by decide +kernel, by decide +kernel⟩, lw_in5 _ (List.mem_of_getElem? (i := 137) (by decide +kernel)), lw_in7 _ (List.mem_of_getElem? (i := 202) (by decide +kernel)), lw_in7 _ (List.mem_of_getElem? (i := 203) (by decide +kernel))⟩
def lw_privs_7 : List (MethodName × Nat) := [(⟨"PuzzleWedModel", "keeps", "(II)Z"⟩, 47), (⟨"PuzzleWedModel", "likesWed", "(I)I"⟩, 47), (⟨"PuzzleWedModel", "areBounds", "(I)Z"⟩, 47), (⟨"PuzzleWedModel", "readsRow", "(II)Z"⟩, 47), (⟨"PuzzleWedModel", "sumBy", "(I)I"⟩, 47), (⟨"PuzzleWedModel", "laysWork", "(I)V"⟩, 47), (⟨"PuzzleWedModel", "workBy", "(IIII)I"⟩, 47), (⟨"PuzzleWedModel", "workAt", "(III)I"⟩, 47), (⟨"PuzzleWedModel", "laysSanded", "(II)V"⟩, 47), (⟨"PuzzleWedModel", "slackOfSanded", "(I)I"⟩, 47), (⟨"PuzzleWedModel", "slackSteamed", "(IIII)I"⟩, 47), (⟨"PuzzleWedModel", "makesAll", "(II)Z"⟩, 47), (⟨"PuzzleWedModel", "makes", "(III)Z"⟩, 47), (⟨"PuzzleWedModel", "areSame", "(II)Z"⟩, 47)]
theorem lw_r7 : ∀ q ∈ lw_privs_7, lw_okq q := List.forall_mem_cons.mpr ⟨lw_p96, List.forall_mem_cons.mpr ⟨lw_p97, List.forall_mem_cons.mpr ⟨lw_p98, List.forall_mem_cons.mpr ⟨lw_p99, List.forall_mem_cons.mpr ⟨lw_p100, List.forall_mem_cons.mpr ⟨lw_p101, List.forall_mem_cons.mpr ⟨lw_p102, List.forall_mem_cons.mpr ⟨lw_p103, List.forall_mem_cons.mpr ⟨lw_p104, List.forall_mem_cons.mpr ⟨lw_p105, List.forall_mem_cons.mpr ⟨lw_p106, List.forall_mem_cons.mpr ⟨lw_p107, List.forall_mem_cons.mpr ⟨lw_p108, List.forall_mem_cons.mpr ⟨lw_p109, fun _ h => absurd h List.not_mem_nil⟩⟩⟩⟩⟩⟩⟩⟩⟩⟩⟩⟩⟩⟩
def lw_privs : List (MethodName × Nat) := lw_privs_1 ++ (lw_privs_2 ++ (lw_privs_3 ++ (lw_privs_4 ++ (lw_privs_5 ++ (lw_privs_6 ++ (lw_privs_7))))))
def lw_tbl : List Cond := k2_sels lw_privs ++ tables_1
theorem lw_privs_ok : ∀ q ∈ lw_privs, lw_okq q := by
  show ∀ q ∈ lw_privs_1 ++ (lw_privs_2 ++ (lw_privs_3 ++ (lw_privs_4 ++ (lw_privs_5 ++ (lw_privs_6 ++ (lw_privs_7)))))), lw_okq q
  exact List.forall_mem_append.mpr ⟨lw_r1, List.forall_mem_append.mpr ⟨lw_r2, List.forall_mem_append.mpr ⟨lw_r3, List.forall_mem_append.mpr ⟨lw_r4, List.forall_mem_append.mpr ⟨lw_r5, List.forall_mem_append.mpr ⟨lw_r6, lw_r7⟩⟩⟩⟩⟩⟩
/-! ===== BEGIN words of one list among another's, by their places ===== -/
theorem goodIn_r {big : List Cond} (ws : List Cond) (ps : List Nat) (hp : ws = ps.filterMap (fun i => big[i]?)) (h : ws.all goodWord = true) : GoodIn big ws := by
  intro w hw
  have h1 := List.all_eq_true.mp h w hw
  rw [hp] at hw
  obtain ⟨i, -, hi⟩ := List.mem_filterMap.mp hw
  have hm : w ∈ big := by first | exact List.mem_of_getElem? hi | exact List.getElem?_mem hi
  exact ⟨hm, good_of_word h1⟩
theorem goodIn_app {big a b : List Cond} (ha : GoodIn big a) (hb : GoodIn big b) : GoodIn big (a ++ b) := fun w h => (List.mem_append.mp h).elim (ha w) (hb w)
theorem goodIn_ca {big a b : List Cond} {c : Cond} (ha : GoodIn big (c :: a)) (hb : GoodIn big b) : GoodIn big (c :: (a ++ b)) := fun w h => (List.mem_cons.mp h).elim (fun e => ha w (List.mem_cons.mpr (Or.inl e))) (fun h => (List.mem_append.mp h).elim (fun h => ha w (List.mem_cons.mpr (Or.inr h))) (hb w))
theorem goodIn_sub {big ws : List Cond} (hm : ∀ w ∈ ws, w ∈ big) (h : ws.all goodWord = true) : GoodIn big ws := fun w hw => ⟨hm w hw, good_of_word (List.all_eq_true.mp h w hw)⟩
/-! ===== END ===== -/

/-! ===== BEGIN new T[n][m]: the outer array a place, the inner ones among the pooled ===== -/
/-- f, but v at every address of l -/
def vr_up {α : Type} (f : Nat → α) (l : List Nat) (v : α) : Nat → α := fun a => if a ∈ l then v else f a
theorem vr_up_in {α : Type} {f : Nat → α} {l : List Nat} {v : α} {a : Nat} (h : a ∈ l) : vr_up f l v a = v := if_pos h
theorem vr_up_ne {α : Type} {f : Nat → α} {l : List Nat} {v : α} {a : Nat} (h : a ∉ l) : vr_up f l v a = f a := if_neg h
theorem vr_rows {L l : List Nat} {f : Nat → va_E} {e : va_E} (h : ∀ a, a ∈ l → a ∉ L) : va_pl L f ++ l.map (fun a => (a, e)) = va_pl (L ++ l) (vr_up f l e) := by
  unfold va_pl
  rw [List.map_append]
  congr 1
  · apply List.map_congr_left
    intro a ha
    rw [vr_up_ne (fun q => h a q ha)]
  · apply List.map_congr_left
    intro a ha
    rw [vr_up_in ha]
theorem vr_lay {X rows : va_W} {x : Nat × va_E} {pl : va_W} {D : va_G} {cl : List vw_C} {H : Heap} (hP : va_P D cl (((X ++ pl) ++ [x]) ++ rows) H) : va_P D cl ((X ++ [x]) ++ (pl ++ rows)) H := by
  rw [List.append_assoc (X ++ pl)] at hP
  have h := va_P.swap hP
  rw [← List.append_assoc X] at h
  have h2 := va_P.swap h
  rw [List.append_assoc (X ++ [x])] at h2
  exact h2
theorem vr_layD {X rows : va_W} {x : Nat × va_E} {pl : va_W} {A : Nat → Prop} (hD : va_D A (((X ++ pl) ++ [x]) ++ rows)) : va_D A ((X ++ [x]) ++ (pl ++ rows)) := by
  rw [List.append_assoc (X ++ pl)] at hD
  have h := va_D.swap hD
  rw [← List.append_assoc X] at h
  have h2 := va_D.swap h
  rw [List.append_assoc (X ++ [x])] at h2
  exact h2
theorem vr_outer (c : ClassId) (N h0 : Nat) : ∀ i : Nat, Jvm.Free.Multi.outerC c N h0 i = arrV c N (fun j => va_rf (if j < i then some (h0 + 1 + j) else none))
  | 0 => by
    show ({ cls := c, slots := Array.replicate N .null, vm := .none } : Cell) = _
    rw [arrV_new]
    refine congrArg (arrV c N) (funext fun j => ?_)
    simp [va_rf]
  | i + 1 => by
    show (Jvm.Free.Multi.outerC c N h0 i).setSlot i (.ref (h0 + 1 + i)) = _
    rw [vr_outer c N h0 i, arrV_store]
    refine congrArg (arrV c N) (funext fun j => ?_)
    by_cases e : j = i
    · subst e
      simp [updV, va_rf]
    · by_cases h : j < i
      · simp [updV, e, h, Nat.lt_succ_of_lt h]
      · simp [updV, e, h, show ¬ j < i + 1 by omega]
def va_AOA (t : FieldType) (U : State) : Prop := (Cond.arrayOver (.array t)).before #[] U = true
theorem va_AOA.use {t : FieldType} {A : Array Value} {U : State} (h : va_AOA t U) : (Cond.arrayOver (.array t)).before A U = true := h
section VGM
variable {p : Program} {l : Launch} {e : Env} {R : Room} {s : State} {m : MethodId} {args : Array Value} {below : List Frame} {meth : Method} {c : Code} {H : Heap} {locs : List Loc} {cells slots : Nat} {Q : State → Prop}
variable {cc : ByteArray} {pc : Nat} {ls : Array Slot} {rest : List Value} {D : va_G} {cl : List vw_C} {A : Nat → Prop} {a : Nat} {tys : List (ClassId × FieldType)} {ws : va_W} {H0 : Heap}
theorem va_mna {X : va_W} {L : List Nat} {f : Nat → va_E} {cc : ByteArray} (hexec : p.tables.exec = Jvm.exec) (hb : c.code = cc) {own : String} {index : Nat} {ty : FieldType} {cy : ClassId} (hown : s.vm.findClass own = some m.cls) (hclink : (Cond.classLink own index ("[" ++ (FieldType.array ty).toString)).before args s = true) (hover : va_AOA ty s) (harr : (Cond.arrayClass ty).before args s = true) (hcy : s.vm.findClass (FieldType.array ty).toString = some cy)
    (hK : va_K D cl tys s) (hP : va_P D cl (X ++ va_pl L f) H) (hD : va_D A (X ++ va_pl L f)) (hS : va_S A H0 H locs) (hA : ∀ q, H0.size ≤ q → A q) {n k : Int32} {N' K' : Nat} {z : vp_A} (hn : ¬ n < 0) (hk : ¬ k < 0) (hN : n.toNatClampNeg = N') (hM : k.toNatClampNeg = K')
    (hb1 : N' * 4 ≤ 536870912) (hb2 : K' * componentBytes ty ≤ 536870912) (hb3 : K' ≤ 536870912) (hdf : fits ty (defaultValue ty) = true) (hdd : (defaultValue ty).isDefault = true) (hcells : cells + (1 + N') ≤ R.cells) (hslots : slots + (N' + N' * K') ≤ R.slots) (hz : ∀ c : ClassId, Jvm.Free.Multi.innerC c K' (defaultValue ty) = vp_cell c z) (hdg : decode cc pc = .ok (.multianewarray index 2, 4))
    (kk : ∀ (q : Nat) (r : Nat → Nat) (cA : ClassId) (H1 : Heap), (∀ i j : Nat, i < N' → j < N' → r i = r j → i = j) → (∀ i : Nat, i < N' → r i ∉ L) → va_K D cl (tys ++ [(cA, .array ty)]) s →
      va_P D cl ((X ++ [(q, .inl (cA, N', .inr (.inr (.inr (.inr (fun i => if i < N' then some (r i) else none))))))]) ++ va_pl (L ++ (List.range N').map r) (vr_up f ((List.range N').map r) (.inl (cy, z)))) H1 → va_D A ((X ++ [(q, .inl (cA, N', .inr (.inr (.inr (.inr (fun i => if i < N' then some (r i) else none))))))]) ++ va_pl (L ++ (List.range N').map r) (vr_up f ((List.range N').map r) (.inl (cy, z)))) → va_S A H0 H1 locs →
      W p l e R s m args below meth c H1 locs (cells + 1 + N') (slots + N' + N' * K') Q (F0 m (pc + 4) ls (.ref q :: rest))) : W p l e R s m args below meth c H locs cells slots Q (F0 m pc ls (.int k :: .int n :: rest)) := by
  subst hN
  subst hM
  intro T hT Xs
  obtain ⟨vm₁, cA, comp, -, fA, fC, hO, -, X', step⟩ := Xs.multianewarray2F hexec hown hclink (va_AOA.use hover) harr (g := F0 m pc ls (.int k :: .int n :: rest)) rfl (by rw [hb]; exact hdg) rfl hn hk hb1 hb2 hb3 hdf hdd hcells hslots
  have ec : some cy = some comp := hcy.symm.trans fC
  cases ec
  generalize hF : Jvm.Free.Multi.fill (T.setVm vm₁) cA cy n.toNatClampNeg k.toNatClampNeg (defaultValue ty) n.toNatClampNeg = F at X' step
  have hTh : (T.setVm vm₁).heap = H := hT
  obtain ⟨f1, f2, -, -⟩ := Jvm.Free.Multi.fill_facts (T.setVm vm₁) cA cy n.toNatClampNeg k.toNatClampNeg (defaultValue ty) n.toNatClampNeg
  rw [hF, hTh] at f1 f2
  have hold : ∀ x : Nat, x < H.size → F.heap[x]? = H[x]? := fun x hx => by
    have := Jvm.Free.Multi.fill_old (T.setVm vm₁) cA cy n.toNatClampNeg k.toNatClampNeg (defaultValue ty) (a := x) (by rw [hTh]; exact hx) n.toNatClampNeg
    rw [hF, hTh] at this
    exact this
  have hrow : ∀ j : Nat, j < n.toNatClampNeg → F.heap[H.size + 1 + j]? = some (vp_cell cy z) := fun j hj => by
    have := Jvm.Free.Multi.fill_inner (T.setVm vm₁) cA cy n.toNatClampNeg k.toNatClampNeg (defaultValue ty) n.toNatClampNeg j hj
    rw [hF, hTh, hz] at this
    exact this
  have hout : Jvm.Free.Multi.outerC cA n.toNatClampNeg H.size n.toNatClampNeg = vp_cell cA (n.toNatClampNeg, .inr (.inr (.inr (.inr (fun i => if i < n.toNatClampNeg then some (H.size + 1 + i) else none))))) := by
    rw [vp_cell_q]
    exact vr_outer cA n.toNatClampNeg H.size n.toNatClampNeg
  rw [hout] at f2
  have hlt : ∀ a, a ∈ L → a < H.size := fun a ha => by
    obtain ⟨k9, hk9⟩ := va_pl_get (X := X) (f := f) ha
    exact (hP k9 _ hk9).lt
  have hnl : ∀ i : Nat, i < n.toNatClampNeg → H.size + 1 + i ∉ L := fun i _ h => by
    have := hlt _ h
    omega
  have hnm : ∀ a, a ∈ (List.range n.toNatClampNeg).map (fun i => H.size + 1 + i) → a ∉ L := fun a ha h => by
    obtain ⟨i, -, rfl⟩ := List.mem_map.mp ha
    have := hlt _ h
    omega
  have hP0 : va_P D cl (X ++ va_pl L f) F.heap := hP.kept (fun k9 x hx => hold x.1 ((hP k9 x hx).lt))
  have hP1 : va_P D cl ((X ++ va_pl L f) ++ [(H.size, .inl (cA, n.toNatClampNeg, .inr (.inr (.inr (.inr (fun i => if i < n.toNatClampNeg then some (H.size + 1 + i) else none))))))]) F.heap := hP0.app (fun k9 x hx => by
    have h0 : k9 < 1 := (List.getElem?_eq_some_iff.mp hx).1
    rw [show k9 = 0 by omega] at hx
    cases hx
    exact f2)
  have hP2 : va_P D cl (((X ++ va_pl L f) ++ [(H.size, .inl (cA, n.toNatClampNeg, .inr (.inr (.inr (.inr (fun i => if i < n.toNatClampNeg then some (H.size + 1 + i) else none))))))]) ++ ((List.range n.toNatClampNeg).map (fun i => H.size + 1 + i)).map (fun a => (a, .inl (cy, z)))) F.heap := hP1.app (fun k9 x hx => by
    obtain ⟨a, ha, rfl⟩ := List.mem_map.mp (List.mem_of_getElem? hx)
    obtain ⟨i, hi, rfl⟩ := List.mem_map.mp ha
    exact hrow i (List.mem_range.mp hi))
  have hD2 : va_D A (((X ++ va_pl L f) ++ [(H.size, .inl (cA, n.toNatClampNeg, .inr (.inr (.inr (.inr (fun i => if i < n.toNatClampNeg then some (H.size + 1 + i) else none))))))]) ++ ((List.range n.toNatClampNeg).map (fun i => H.size + 1 + i)).map (fun a => (a, .inl (cy, z)))) := by
    have hD1 := hD.push (e := .inl (cA, n.toNatClampNeg, .inr (.inr (.inr (.inr (fun i => if i < n.toNatClampNeg then some (H.size + 1 + i) else none)))))) hP rfl (hA _ hS.1)
    generalize hW1 : (X ++ va_pl L f) ++ [(H.size, .inl (cA, n.toNatClampNeg, .inr (.inr (.inr (.inr (fun i => if i < n.toNatClampNeg then some (H.size + 1 + i) else none))))))] = W1 at hD1 hP1 ⊢
    have hle : ∀ (k9 : Nat) (x : Nat × va_E), W1[k9]? = some x → x.1 ≤ H.size := fun k9 x hx => by
      rw [← hW1] at hx
      by_cases hl : k9 < (X ++ va_pl L f).length
      · rw [List.getElem?_append_left hl] at hx
        exact Nat.le_of_lt ((hP k9 x hx).lt)
      · rw [List.getElem?_append_right (by omega)] at hx
        have h0 : k9 - (X ++ va_pl L f).length < 1 := (List.getElem?_eq_some_iff.mp hx).1
        rw [show k9 - (X ++ va_pl L f).length = 0 by omega] at hx
        cases hx
        exact Nat.le_refl _
    have hr : ∀ (k9 : Nat) (x : Nat × va_E), (((List.range n.toNatClampNeg).map (fun i => H.size + 1 + i)).map (fun a => ((a, .inl (cy, z)) : Nat × va_E)))[k9]? = some x → x.1 = H.size + 1 + k9 := fun k9 x hx => by
      rw [List.getElem?_map, List.getElem?_map] at hx
      by_cases h9 : k9 < n.toNatClampNeg
      · rw [List.getElem?_range h9] at hx
        cases hx
        rfl
      · have hn0 : (List.range n.toNatClampNeg)[k9]? = none := List.getElem?_eq_none (by rw [List.length_range]; omega)
        rw [hn0] at hx
        cases hx
    refine ⟨fun i j x y hi hj hxy => ?_, fun k9 x hx => ?_⟩
    · by_cases h1 : i < W1.length <;> by_cases h2 : j < W1.length
      · rw [List.getElem?_append_left h1] at hi
        rw [List.getElem?_append_left h2] at hj
        exact hD1.1 i j x y hi hj hxy
      · rw [List.getElem?_append_left h1] at hi
        rw [List.getElem?_append_right (by omega)] at hj
        have := hle _ _ hi
        have := hr _ _ hj
        omega
      · rw [List.getElem?_append_right (by omega)] at hi
        rw [List.getElem?_append_left h2] at hj
        have := hle _ _ hj
        have := hr _ _ hi
        omega
      · rw [List.getElem?_append_right (by omega)] at hi hj
        have := hr _ _ hi
        have := hr _ _ hj
        omega
    · by_cases h1 : k9 < W1.length
      · rw [List.getElem?_append_left h1] at hx
        exact hD1.2 k9 x hx
      · rw [List.getElem?_append_right (by omega)] at hx
        have := hr _ _ hx
        exact hA _ (by have := hS.1; omega)
  have hAr : ArrOfT s cA (.array ty) := fun N9 z9 => by
    obtain ⟨-, k9, hk9, cm9, hkk9⟩ := (hO 0 0 0).1
    exact ⟨(fun q hq => by cases hq), k9, hk9, cm9, hkk9⟩
  have hK2 : va_K D cl (tys ++ [(cA, .array ty)]) s := ⟨hK.1, fun k9 x hx => by
    by_cases hl : k9 < tys.length
    · rw [List.getElem?_append_left hl] at hx
      exact hK.2 k9 x hx
    · rw [List.getElem?_append_right (by omega)] at hx
      have h0 : k9 - tys.length < 1 := (List.getElem?_eq_some_iff.mp hx).1
      rw [show k9 - tys.length = 0 by omega] at hx
      cases hx
      exact ⟨hAr, fA⟩⟩
  obtain ⟨t, a1, b1⟩ := kk H.size (fun i => H.size + 1 + i) cA F.heap (fun i j _ _ h => by have h9 : H.size + 1 + i = H.size + 1 + j := h; omega) hnl hK2 (by rw [← vr_rows hnm]; exact vr_lay hP2) (by rw [← vr_rows hnm]; exact vr_layD hD2) ⟨by rw [f1]; have := hS.1; omega, fun x h1 h2 => (hold x (Nat.lt_of_lt_of_le h1 hS.1)).trans (hS.2.1 x h1 h2), hS.2.2⟩ F rfl X'
  refine ⟨t, step t ?_, b1⟩
  have e : T.heap.size = H.size := by rw [hT]
  rw [e]
  exact a1
end VGM
/-! ===== END ===== -/

/-! ===== BEGIN printed: names, fields, word lists, decode rows ===== -/
def RX0 : String := "PuzzleWed$Couples"
def TX0 : u_T := fun k => match k with
  | 0 => ("PuzzleWed$Couples", "judge", "LPuzzleWed$Judge;", true)
  | 1 => ("PuzzleWed$Couples", "partner", "[I", true)
  | 2 => ("PuzzleWed$Couples", "twos", "I", false)
  | 3 => ("PuzzleWed$Couples", "slackSum", "I", false)
  | 4 => ("PuzzleWed$Couples", "ones", "[I", true)
  | 5 => ("PuzzleWed$Couples", "others", "[I", true)
  | 6 => ("PuzzleWed$Couples", "oneCount", "I", false)
  | 7 => ("PuzzleWed$Couples", "otherCount", "I", false)
  | 8 => ("PuzzleWed$Couples", "bond", "[[I", true)
  | 9 => ("PuzzleWed$Couples", "best", "[I", true)
  | _ => ("PuzzleWed$Couples", "asked", "[I", true)
def tyX0 : Nat → FieldType := fun k => match k with
  | 0 => .object "PuzzleWed$Judge"
  | 1 => .array .int
  | 2 => .int
  | 3 => .int
  | 4 => .array .int
  | 5 => .array .int
  | 6 => .int
  | 7 => .int
  | 8 => .array (.array .int)
  | 9 => .array .int
  | _ => .array .int
abbrev wsX00 : List Cond := u_ws RX0 TX0 11
theorem nmX0 : ∀ a, a < 11 → ∀ b, b < 11 → a ≠ b → (TX0 a).2.1 ≠ (TX0 b).2.1 := by decide +kernel
theorem tyX0_ok : ∀ k, k < 11 → parseFieldDescriptor (TX0 k).2.2.1 = some (tyX0 k) := by decide +kernel
abbrev cX0_init : ByteArray := prog_2_method_1_code
def yX0_init : MethodName := ⟨RX0, "<init>", "(LPuzzleWed$Judge;)V"⟩
abbrev cX0_gather : ByteArray := prog_2_method_2_code
def yX0_gather : MethodName := ⟨RX0, "gather", "(LPuzzleWed$Land;)V"⟩
abbrev cX0_findMost : ByteArray := prog_2_method_3_code
def yX0_findMost : MethodName := ⟨RX0, "findMost", "(LPuzzleWed$Land;)V"⟩
abbrev cX0_weighAll : ByteArray := prog_2_method_4_code
def yX0_weighAll : MethodName := ⟨RX0, "weighAll", "()V"⟩
abbrev cX0_choose : ByteArray := prog_2_method_5_code
def yX0_choose : MethodName := ⟨RX0, "choose", "(II)I"⟩
abbrev cX0_withBond : ByteArray := prog_2_method_6_code
def yX0_withBond : MethodName := ⟨RX0, "withBond", "(III)I"⟩
abbrev cX0_bestOf : ByteArray := prog_2_method_7_code
def yX0_bestOf : MethodName := ⟨RX0, "bestOf", "(II)I"⟩
abbrev cX0_setBest : ByteArray := prog_2_method_8_code
def yX0_setBest : MethodName := ⟨RX0, "setBest", "(III)V"⟩
abbrev cX0_findStable : ByteArray := prog_2_method_9_code
def yX0_findStable : MethodName := ⟨RX0, "findStable", "(LPuzzleWed$Land;)V"⟩
abbrev cX0_askNext : ByteArray := prog_2_method_10_code
def yX0_askNext : MethodName := ⟨RX0, "askNext", "(I)Z"⟩
abbrev cX0_prefers : ByteArray := prog_2_method_11_code
def yX0_prefers : MethodName := ⟨RX0, "prefers", "(III)Z"⟩
def RX1 : String := "PuzzleWed$Course"
def TX1 : u_T := fun k => match k with
  | 0 => ("PuzzleWed$Course", "judge", "LPuzzleWed$Judge;", true)
  | 1 => ("PuzzleWed$Course", "wed", "I", false)
  | 2 => ("PuzzleWed$Course", "tries", "I", false)
  | _ => ("PuzzleWed$Course", "parted", "I", false)
def tyX1 : Nat → FieldType := fun k => match k with
  | 0 => .object "PuzzleWed$Judge"
  | 1 => .int
  | 2 => .int
  | _ => .int
abbrev wsX10 : List Cond := u_ws RX1 TX1 4
theorem nmX1 : ∀ a, a < 4 → ∀ b, b < 4 → a ≠ b → (TX1 a).2.1 ≠ (TX1 b).2.1 := by decide +kernel
theorem tyX1_ok : ∀ k, k < 4 → parseFieldDescriptor (TX1 k).2.2.1 = some (tyX1 k) := by decide +kernel
abbrev cX1_init : ByteArray := prog_3_method_1_code
def yX1_init : MethodName := ⟨RX1, "<init>", "(LPuzzleWed$Judge;)V"⟩
abbrev cX1_pass : ByteArray := prog_3_method_2_code
def yX1_pass : MethodName := ⟨RX1, "pass", "(LPuzzleWed$Land;I)V"⟩
abbrev cX1_travel : ByteArray := prog_3_method_3_code
def yX1_travel : MethodName := ⟨RX1, "travel", "(LPuzzleWed$Land;)V"⟩
abbrev cX1_meet : ByteArray := prog_3_method_4_code
def yX1_meet : MethodName := ⟨RX1, "meet", "(LPuzzleWed$Land;)V"⟩
abbrev cX1_nextFor : ByteArray := prog_3_method_5_code
def yX1_nextFor : MethodName := ⟨RX1, "nextFor", "(LPuzzleWed$Land;II)I"⟩
abbrev cX1_strain : ByteArray := prog_3_method_6_code
def yX1_strain : MethodName := ⟨RX1, "strain", "(LPuzzleWed$Land;)V"⟩
def RX2 : String := "PuzzleWed$Judge"
def TX2 : u_T := fun k => match k with
  | 0 => ("PuzzleWed$Judge", "law", "LPuzzleWed$Law;", true)
  | _ => ("PuzzleWed$Judge", "letters", "[I", true)
def tyX2 : Nat → FieldType := fun k => match k with
  | 0 => .object "PuzzleWed$Law"
  | _ => .array .int
abbrev wsX20 : List Cond := u_ws RX2 TX2 2
theorem nmX2 : ∀ a, a < 2 → ∀ b, b < 2 → a ≠ b → (TX2 a).2.1 ≠ (TX2 b).2.1 := by decide +kernel
theorem tyX2_ok : ∀ k, k < 2 → parseFieldDescriptor (TX2 k).2.2.1 = some (tyX2 k) := by decide +kernel
abbrev cX2_init : ByteArray := prog_4_method_1_code
def yX2_init : MethodName := ⟨RX2, "<init>", "(LPuzzleWed$Law;)V"⟩
abbrev cX2_gap : ByteArray := prog_4_method_2_code
def yX2_gap : MethodName := ⟨RX2, "gap", "([I[I)I"⟩
abbrev cX2_slackOf : ByteArray := prog_4_method_3_code
def yX2_slackOf : MethodName := ⟨RX2, "slackOf", "(LPuzzleWed$Land;II)I"⟩
abbrev cX2_fit : ByteArray := prog_4_method_4_code
def yX2_fit : MethodName := ⟨RX2, "fit", "(LPuzzleWed$Land;II)Z"⟩
abbrev cX2_allowance : ByteArray := prog_4_method_5_code
def yX2_allowance : MethodName := ⟨RX2, "allowance", "(LPuzzleWed$Land;II)I"⟩
abbrev cX2_liking : ByteArray := prog_4_method_6_code
def yX2_liking : MethodName := ⟨RX2, "liking", "(LPuzzleWed$Land;II)I"⟩
abbrev cX2_wearOf : ByteArray := prog_4_method_7_code
def yX2_wearOf : MethodName := ⟨RX2, "wearOf", "(LPuzzleWed$Land;II)I"⟩
abbrev cX2_isFirst : ByteArray := prog_4_method_8_code
def yX2_isFirst : MethodName := ⟨RX2, "isFirst", "(LPuzzleWed$Land;II)Z"⟩
abbrev cX2_rule : ByteArray := prog_4_method_9_code
def yX2_rule : MethodName := ⟨RX2, "rule", "(IILPuzzleWed$Land;III)I"⟩
abbrev cX2_fill : ByteArray := prog_4_method_10_code
def yX2_fill : MethodName := ⟨RX2, "fill", "(LPuzzleWed$Land;III)V"⟩
def RX3 : String := "PuzzleWed$Land"
def TX3 : u_T := fun k => match k with
  | 0 => ("PuzzleWed$Land", "told", "I", false)
  | 1 => ("PuzzleWed$Land", "living", "I", false)
  | 2 => ("PuzzleWed$Land", "side", "[I", true)
  | 3 => ("PuzzleWed$Land", "town", "[I", true)
  | 4 => ("PuzzleWed$Land", "wedTo", "[I", true)
  | 5 => ("PuzzleWed$Land", "creaks", "[I", true)
  | 6 => ("PuzzleWed$Land", "triedBits", "[I", true)
  | 7 => ("PuzzleWed$Land", "holder", "[I", true)
  | 8 => ("PuzzleWed$Land", "wear", "[I", true)
  | 9 => ("PuzzleWed$Land", "height", "[[I", true)
  | 10 => ("PuzzleWed$Land", "way", "[[I", true)
  | 11 => ("PuzzleWed$Land", "wayLength", "[I", true)
  | 12 => ("PuzzleWed$Land", "wayGone", "[I", true)
  | 13 => ("PuzzleWed$Land", "day", "I", false)
  | _ => ("PuzzleWed$Land", "x", "I", false)
def tyX3 : Nat → FieldType := fun k => match k with
  | 0 => .int
  | 1 => .int
  | 2 => .array .int
  | 3 => .array .int
  | 4 => .array .int
  | 5 => .array .int
  | 6 => .array .int
  | 7 => .array .int
  | 8 => .array .int
  | 9 => .array (.array .int)
  | 10 => .array (.array .int)
  | 11 => .array .int
  | 12 => .array .int
  | 13 => .int
  | _ => .int
abbrev wsX30 : List Cond := u_ws RX3 TX3 15
theorem nmX3 : ∀ a, a < 15 → ∀ b, b < 15 → a ≠ b → (TX3 a).2.1 ≠ (TX3 b).2.1 := by decide +kernel
theorem tyX3_ok : ∀ k, k < 15 → parseFieldDescriptor (TX3 k).2.2.1 = some (tyX3 k) := by decide +kernel
abbrev cX3_init : ByteArray := prog_5_method_1_code
def yX3_init : MethodName := ⟨RX3, "<init>", "()V"⟩
abbrev cX3_isTold : ByteArray := prog_5_method_2_code
def yX3_isTold : MethodName := ⟨RX3, "isTold", "(I)Z"⟩
abbrev cX3_isAlive : ByteArray := prog_5_method_3_code
def yX3_isAlive : MethodName := ⟨RX3, "isAlive", "(I)Z"⟩
abbrev cX3_isFree : ByteArray := prog_5_method_4_code
def yX3_isFree : MethodName := ⟨RX3, "isFree", "(I)Z"⟩
abbrev cX3_join : ByteArray := prog_5_method_5_code
def yX3_join : MethodName := ⟨RX3, "join", "(II)V"⟩
abbrev cX3_separate : ByteArray := prog_5_method_6_code
def yX3_separate : MethodName := ⟨RX3, "separate", "(II)V"⟩
abbrev cX3_hasTried : ByteArray := prog_5_method_7_code
def yX3_hasTried : MethodName := ⟨RX3, "hasTried", "(II)Z"⟩
abbrev cX3_markTried : ByteArray := prog_5_method_8_code
def yX3_markTried : MethodName := ⟨RX3, "markTried", "(II)V"⟩
abbrev cX3_bury : ByteArray := prog_5_method_9_code
def yX3_bury : MethodName := ⟨RX3, "bury", "(I)V"⟩
abbrev cX3_piecesOf : ByteArray := prog_5_method_10_code
def yX3_piecesOf : MethodName := ⟨RX3, "piecesOf", "(I)I"⟩
abbrev cX3_wearDown : ByteArray := prog_5_method_11_code
def yX3_wearDown : MethodName := ⟨RX3, "wearDown", "(II)V"⟩
abbrev cX3_countTwos : ByteArray := prog_5_method_12_code
def yX3_countTwos : MethodName := ⟨RX3, "countTwos", "()I"⟩
abbrev cX3_whoIsIn : ByteArray := prog_5_method_13_code
def yX3_whoIsIn : MethodName := ⟨RX3, "whoIsIn", "(I)I"⟩
abbrev cX3_draw : ByteArray := prog_5_method_14_code
def yX3_draw : MethodName := ⟨RX3, "draw", "()I"⟩
abbrev cX3_copyFrom : ByteArray := prog_5_method_15_code
def yX3_copyFrom : MethodName := ⟨RX3, "copyFrom", "(LPuzzleWed$Land;)V"⟩
def RX4 : String := "PuzzleWed$Law"
def TX4 : u_T := fun k => match k with
  | 0 => ("PuzzleWed$Law", "code", "[I", true)
  | 1 => ("PuzzleWed$Law", "letter", "[I", true)
  | 2 => ("PuzzleWed$Law", "worthAt", "[I", true)
  | 3 => ("PuzzleWed$Law", "whenAt", "[I", true)
  | 4 => ("PuzzleWed$Law", "stack", "[I", true)
  | 5 => ("PuzzleWed$Law", "used", "I", false)
  | _ => ("PuzzleWed$Law", "clauses", "I", false)
def tyX4 : Nat → FieldType := fun k => match k with
  | 0 => .array .int
  | 1 => .array .int
  | 2 => .array .int
  | 3 => .array .int
  | 4 => .array .int
  | 5 => .int
  | _ => .int
abbrev wsX40 : List Cond := u_ws RX4 TX4 7
theorem nmX4 : ∀ a, a < 7 → ∀ b, b < 7 → a ≠ b → (TX4 a).2.1 ≠ (TX4 b).2.1 := by decide +kernel
theorem tyX4_ok : ∀ k, k < 7 → parseFieldDescriptor (TX4 k).2.2.1 = some (tyX4 k) := by decide +kernel
abbrev cX4_init : ByteArray := prog_6_method_1_code
def yX4_init : MethodName := ⟨RX4, "<init>", "()V"⟩
abbrev cX4_emit : ByteArray := prog_6_method_2_code
def yX4_emit : MethodName := ⟨RX4, "emit", "(I)V"⟩
abbrev cX4_copyFrom : ByteArray := prog_6_method_3_code
def yX4_copyFrom : MethodName := ⟨RX4, "copyFrom", "(LPuzzleWed$Law;)V"⟩
abbrev cX4_run : ByteArray := prog_6_method_4_code
def yX4_run : MethodName := ⟨RX4, "run", "(I[I)I"⟩
abbrev cX4_valueOf : ByteArray := prog_6_method_5_code
def yX4_valueOf : MethodName := ⟨RX4, "valueOf", "(I[I)I"⟩
abbrev cX4_reckon : ByteArray := prog_6_method_6_code
def yX4_reckon : MethodName := ⟨RX4, "reckon", "(III)I"⟩
def RX5 : String := "PuzzleWed$LawReader"
def TX5 : u_T := fun k => match k with
  | 0 => ("PuzzleWed$Reader", "tape", "LPuzzleWed$Tape;", true)
  | 1 => ("PuzzleWed$Reader", "length", "I", false)
  | 2 => ("PuzzleWed$Reader", "at", "I", false)
  | 3 => ("PuzzleWed$Reader", "fault", "I", false)
  | _ => ("PuzzleWed$LawReader", "draft", "LPuzzleWed$Law;", true)
def tyX5 : Nat → FieldType := fun k => match k with
  | 0 => .object "PuzzleWed$Tape"
  | 1 => .int
  | 2 => .int
  | 3 => .int
  | _ => .object "PuzzleWed$Law"
abbrev wsX50 : List Cond := u_ws RX5 TX5 5
theorem nmX5 : ∀ a, a < 5 → ∀ b, b < 5 → a ≠ b → (TX5 a).2.1 ≠ (TX5 b).2.1 := by decide +kernel
theorem tyX5_ok : ∀ k, k < 5 → parseFieldDescriptor (TX5 k).2.2.1 = some (tyX5 k) := by decide +kernel
abbrev cX5_init : ByteArray := prog_7_method_1_code
def yX5_init : MethodName := ⟨RX5, "<init>", "(LPuzzleWed$Tape;LPuzzleWed$Law;)V"⟩
abbrev cX5_readLaw : ByteArray := prog_7_method_2_code
def yX5_readLaw : MethodName := ⟨RX5, "readLaw", "(I)Z"⟩
abbrev cX5_readClause : ByteArray := prog_7_method_3_code
def yX5_readClause : MethodName := ⟨RX5, "readClause", "()Z"⟩
abbrev cX5_pass : ByteArray := prog_7_method_4_code
def yX5_pass : MethodName := ⟨RX5, "pass", "(I)Z"⟩
abbrev cX5_readEither : ByteArray := prog_7_method_5_code
def yX5_readEither : MethodName := ⟨RX5, "readEither", "(I)Z"⟩
abbrev cX5_readBoth : ByteArray := prog_7_method_6_code
def yX5_readBoth : MethodName := ⟨RX5, "readBoth", "(I)Z"⟩
abbrev cX5_emitJump : ByteArray := prog_7_method_7_code
def yX5_emitJump : MethodName := ⟨RX5, "emitJump", "(II)I"⟩
abbrev cX5_land : ByteArray := prog_7_method_8_code
def yX5_land : MethodName := ⟨RX5, "land", "(I)V"⟩
abbrev cX5_readTest : ByteArray := prog_7_method_9_code
def yX5_readTest : MethodName := ⟨RX5, "readTest", "(I)Z"⟩
abbrev cX5_readInner : ByteArray := prog_7_method_10_code
def yX5_readInner : MethodName := ⟨RX5, "readInner", "(II)Z"⟩
abbrev cX5_readSum : ByteArray := prog_7_method_11_code
def yX5_readSum : MethodName := ⟨RX5, "readSum", "(I)Z"⟩
abbrev cX5_readProduct : ByteArray := prog_7_method_12_code
def yX5_readProduct : MethodName := ⟨RX5, "readProduct", "(I)Z"⟩
abbrev cX5_readFactor : ByteArray := prog_7_method_13_code
def yX5_readFactor : MethodName := ⟨RX5, "readFactor", "(I)Z"⟩
abbrev cX5_readNumber : ByteArray := prog_7_method_14_code
def yX5_readNumber : MethodName := ⟨RX5, "readNumber", "()Z"⟩
def RX6 : String := "PuzzleWed$ListReader"
def TX6 : u_T := fun k => match k with
  | 0 => ("PuzzleWed$Reader", "tape", "LPuzzleWed$Tape;", true)
  | 1 => ("PuzzleWed$Reader", "length", "I", false)
  | 2 => ("PuzzleWed$Reader", "at", "I", false)
  | 3 => ("PuzzleWed$Reader", "fault", "I", false)
  | 4 => ("PuzzleWed$ListReader", "list", "[I", true)
  | 5 => ("PuzzleWed$ListReader", "filled", "I", false)
  | 6 => ("PuzzleWed$ListReader", "value", "I", false)
  | _ => ("PuzzleWed$ListReader", "times", "I", false)
def tyX6 : Nat → FieldType := fun k => match k with
  | 0 => .object "PuzzleWed$Tape"
  | 1 => .int
  | 2 => .int
  | 3 => .int
  | 4 => .array .int
  | 5 => .int
  | 6 => .int
  | _ => .int
abbrev wsX60 : List Cond := u_ws RX6 TX6 8
theorem nmX6 : ∀ a, a < 8 → ∀ b, b < 8 → a ≠ b → (TX6 a).2.1 ≠ (TX6 b).2.1 := by decide +kernel
theorem tyX6_ok : ∀ k, k < 8 → parseFieldDescriptor (TX6 k).2.2.1 = some (tyX6 k) := by decide +kernel
abbrev cX6_init : ByteArray := prog_8_method_1_code
def yX6_init : MethodName := ⟨RX6, "<init>", "(LPuzzleWed$Tape;)V"⟩
abbrev cX6_readEdge : ByteArray := prog_8_method_2_code
def yX6_readEdge : MethodName := ⟨RX6, "readEdge", "(I)Z"⟩
abbrev cX6_readWay : ByteArray := prog_8_method_3_code
def yX6_readWay : MethodName := ⟨RX6, "readWay", "(I)Z"⟩
abbrev cX6_readHeight : ByteArray := prog_8_method_4_code
def yX6_readHeight : MethodName := ⟨RX6, "readHeight", "()Z"⟩
abbrev cX6_readTimes : ByteArray := prog_8_method_5_code
def yX6_readTimes : MethodName := ⟨RX6, "readTimes", "(I)Z"⟩
abbrev cX6_put : ByteArray := prog_8_method_6_code
def yX6_put : MethodName := ⟨RX6, "put", "()V"⟩
def RX7 : String := "PuzzleWed$Reader"
def TX7 : u_T := fun k => match k with
  | _ => ("", "", "", false)
def tyX7 : Nat → FieldType := fun k => match k with
  | _ => .int
abbrev wsX70 : List Cond := u_ws RX7 TX7 0
theorem nmX7 : ∀ a, a < 0 → ∀ b, b < 0 → a ≠ b → (TX7 a).2.1 ≠ (TX7 b).2.1 := by decide +kernel
theorem tyX7_ok : ∀ k, k < 0 → parseFieldDescriptor (TX7 k).2.2.1 = some (tyX7 k) := by decide +kernel
abbrev cX7_init : ByteArray := prog_9_method_1_code
def yX7_init : MethodName := ⟨RX7, "<init>", "(LPuzzleWed$Tape;)V"⟩
abbrev cX7_begin : ByteArray := prog_9_method_2_code
def yX7_begin : MethodName := ⟨RX7, "begin", "(I)V"⟩
abbrev cX7_sign : ByteArray := prog_9_method_3_code
def yX7_sign : MethodName := ⟨RX7, "sign", "()I"⟩
abbrev cX7_isEnd : ByteArray := prog_9_method_4_code
def yX7_isEnd : MethodName := ⟨RX7, "isEnd", "()Z"⟩
abbrev cX7_fail : ByteArray := prog_9_method_5_code
def yX7_fail : MethodName := ⟨RX7, "fail", "(I)Z"⟩
abbrev cX7_failAt : ByteArray := prog_9_method_6_code
def yX7_failAt : MethodName := ⟨RX7, "failAt", "(II)Z"⟩
def RX8 : String := "PuzzleWed$Sander"
def TX8 : u_T := fun k => match k with
  | 0 => ("PuzzleWed$Sander", "made", "[I", true)
  | 1 => ("PuzzleWed$Sander", "done", "Z", false)
  | 2 => ("PuzzleWed$Sander", "work", "I", false)
  | 3 => ("PuzzleWed$Sander", "turns", "I", false)
  | 4 => ("PuzzleWed$Sander", "raising", "I", false)
  | 5 => ("PuzzleWed$Sander", "least", "[J", true)
  | 6 => ("PuzzleWed$Sander", "cost", "[J", true)
  | 7 => ("PuzzleWed$Sander", "gapOne", "[I", true)
  | 8 => ("PuzzleWed$Sander", "gapOther", "[I", true)
  | 9 => ("PuzzleWed$Sander", "low", "I", false)
  | _ => ("PuzzleWed$Sander", "high", "I", false)
def tyX8 : Nat → FieldType := fun k => match k with
  | 0 => .array .int
  | 1 => .boolean
  | 2 => .int
  | 3 => .int
  | 4 => .int
  | 5 => .array .long
  | 6 => .array .long
  | 7 => .array .int
  | 8 => .array .int
  | 9 => .int
  | _ => .int
abbrev wsX80 : List Cond := u_ws RX8 TX8 11
theorem nmX8 : ∀ a, a < 11 → ∀ b, b < 11 → a ≠ b → (TX8 a).2.1 ≠ (TX8 b).2.1 := by decide +kernel
theorem tyX8_ok : ∀ k, k < 11 → parseFieldDescriptor (TX8 k).2.2.1 = some (tyX8 k) := by decide +kernel
abbrev cX8_init : ByteArray := prog_10_method_1_code
def yX8_init : MethodName := ⟨RX8, "<init>", "()V"⟩
abbrev cX8_sand : ByteArray := prog_10_method_2_code
def yX8_sand : MethodName := ⟨RX8, "sand", "([I[II[II)V"⟩
abbrev cX8_weigh : ByteArray := prog_10_method_3_code
def yX8_weigh : MethodName := ⟨RX8, "weigh", "(IIIJ)V"⟩
abbrev cX8_bestHere : ByteArray := prog_10_method_4_code
def yX8_bestHere : MethodName := ⟨RX8, "bestHere", "(II)J"⟩
abbrev cX8_leastOf : ByteArray := prog_10_method_5_code
def yX8_leastOf : MethodName := ⟨RX8, "leastOf", "(II)J"⟩
abbrev cX8_read : ByteArray := prog_10_method_6_code
def yX8_read : MethodName := ⟨RX8, "read", "(J)V"⟩
abbrev cX8_steam : ByteArray := prog_10_method_7_code
def yX8_steam : MethodName := ⟨RX8, "steam", "([I[II)V"⟩
def RX9 : String := "PuzzleWed$Search"
def TX9 : u_T := fun k => match k with
  | 0 => ("PuzzleWed$Search", "tape", "LPuzzleWed$Tape;", true)
  | 1 => ("PuzzleWed$Search", "towns", "I", false)
  | 2 => ("PuzzleWed$Search", "weight", "[I", true)
  | 3 => ("PuzzleWed$Search", "travel", "[[I", true)
  | 4 => ("PuzzleWed$Search", "order", "[I", true)
  | 5 => ("PuzzleWed$Search", "bestOrder", "[I", true)
  | 6 => ("PuzzleWed$Search", "bestSum", "I", false)
  | _ => ("PuzzleWed$Search", "weights", "I", false)
def tyX9 : Nat → FieldType := fun k => match k with
  | 0 => .object "PuzzleWed$Tape"
  | 1 => .int
  | 2 => .array .int
  | 3 => .array (.array .int)
  | 4 => .array .int
  | 5 => .array .int
  | 6 => .int
  | _ => .int
abbrev wsX90 : List Cond := u_ws RX9 TX9 8
theorem nmX9 : ∀ a, a < 8 → ∀ b, b < 8 → a ≠ b → (TX9 a).2.1 ≠ (TX9 b).2.1 := by decide +kernel
theorem tyX9_ok : ∀ k, k < 8 → parseFieldDescriptor (TX9 k).2.2.1 = some (tyX9 k) := by decide +kernel
abbrev cX9_init : ByteArray := prog_11_method_1_code
def yX9_init : MethodName := ⟨RX9, "<init>", "(LPuzzleWed$Tape;)V"⟩
abbrev cX9_accept : ByteArray := prog_11_method_2_code
def yX9_accept : MethodName := ⟨RX9, "accept", "(I)Z"⟩
abbrev cX9_find : ByteArray := prog_11_method_3_code
def yX9_find : MethodName := ⟨RX9, "find", "()V"⟩
abbrev cX9_weigh : ByteArray := prog_11_method_4_code
def yX9_weigh : MethodName := ⟨RX9, "weigh", "()V"⟩
abbrev cX9_nextOrder : ByteArray := prog_11_method_5_code
def yX9_nextOrder : MethodName := ⟨RX9, "nextOrder", "()Z"⟩
abbrev cX9_swap : ByteArray := prog_11_method_6_code
def yX9_swap : MethodName := ⟨RX9, "swap", "(II)V"⟩
abbrev cX9_above : ByteArray := prog_11_method_7_code
def yX9_above : MethodName := ⟨RX9, "above", "()I"⟩
abbrev cX9_below : ByteArray := prog_11_method_8_code
def yX9_below : MethodName := ⟨RX9, "below", "()I"⟩
abbrev cX9_commonDivisor : ByteArray := prog_11_method_9_code
def yX9_commonDivisor : MethodName := ⟨RX9, "commonDivisor", "()I"⟩
def RX10 : String := "PuzzleWed$Tape"
def TX10 : u_T := fun k => match k with
  | 0 => ("PuzzleWed$Tape", "bytes", "[I", true)
  | _ => ("PuzzleWed$Tape", "length", "I", false)
def tyX10 : Nat → FieldType := fun k => match k with
  | 0 => .array .int
  | _ => .int
abbrev wsX100 : List Cond := u_ws RX10 TX10 2
theorem nmX10 : ∀ a, a < 2 → ∀ b, b < 2 → a ≠ b → (TX10 a).2.1 ≠ (TX10 b).2.1 := by decide +kernel
theorem tyX10_ok : ∀ k, k < 2 → parseFieldDescriptor (TX10 k).2.2.1 = some (tyX10 k) := by decide +kernel
abbrev cX10_init : ByteArray := prog_12_method_1_code
def yX10_init : MethodName := ⟨RX10, "<init>", "()V"⟩
abbrev cX10_add : ByteArray := prog_12_method_2_code
def yX10_add : MethodName := ⟨RX10, "add", "(I)V"⟩
def RX11 : String := "PuzzleWed"
def TX11 : u_T := fun k => match k with
  | 0 => ("PuzzleWed", "land", "LPuzzleWed$Land;", true)
  | 1 => ("PuzzleWed", "kept", "LPuzzleWed$Land;", true)
  | 2 => ("PuzzleWed", "trial", "LPuzzleWed$Land;", true)
  | 3 => ("PuzzleWed", "hasKept", "Z", false)
  | 4 => ("PuzzleWed", "tape", "LPuzzleWed$Tape;", true)
  | 5 => ("PuzzleWed", "law", "LPuzzleWed$Law;", true)
  | 6 => ("PuzzleWed", "draft", "LPuzzleWed$Law;", true)
  | 7 => ("PuzzleWed", "lawReader", "LPuzzleWed$LawReader;", true)
  | 8 => ("PuzzleWed", "listReader", "LPuzzleWed$ListReader;", true)
  | 9 => ("PuzzleWed", "judge", "LPuzzleWed$Judge;", true)
  | 10 => ("PuzzleWed", "course", "LPuzzleWed$Course;", true)
  | 11 => ("PuzzleWed", "couples", "LPuzzleWed$Couples;", true)
  | 12 => ("PuzzleWed", "quest", "LPuzzleWed$Search;", true)
  | 13 => ("PuzzleWed", "sander", "LPuzzleWed$Sander;", true)
  | _ => ("PuzzleWed", "row", "[I", true)
def tyX11 : Nat → FieldType := fun k => match k with
  | 0 => .object "PuzzleWed$Land"
  | 1 => .object "PuzzleWed$Land"
  | 2 => .object "PuzzleWed$Land"
  | 3 => .boolean
  | 4 => .object "PuzzleWed$Tape"
  | 5 => .object "PuzzleWed$Law"
  | 6 => .object "PuzzleWed$Law"
  | 7 => .object "PuzzleWed$LawReader"
  | 8 => .object "PuzzleWed$ListReader"
  | 9 => .object "PuzzleWed$Judge"
  | 10 => .object "PuzzleWed$Course"
  | 11 => .object "PuzzleWed$Couples"
  | 12 => .object "PuzzleWed$Search"
  | 13 => .object "PuzzleWed$Sander"
  | _ => .array .int
abbrev wsX110 : List Cond := u_ws RX11 TX11 15
theorem nmX11 : ∀ a, a < 15 → ∀ b, b < 15 → a ≠ b → (TX11 a).2.1 ≠ (TX11 b).2.1 := by decide +kernel
theorem tyX11_ok : ∀ k, k < 15 → parseFieldDescriptor (TX11 k).2.2.1 = some (tyX11 k) := by decide +kernel
abbrev cX11_init : ByteArray := prog_1_method_1_code
def yX11_init : MethodName := ⟨RX11, "<init>", "()V"⟩
abbrev cX11_person : ByteArray := prog_1_method_2_code
def yX11_person : MethodName := ⟨RX11, "person", "(III)Z"⟩
abbrev cX11_wear : ByteArray := prog_1_method_3_code
def yX11_wear : MethodName := ⟨RX11, "wear", "(II)Z"⟩
abbrev cX11_dies : ByteArray := prog_1_method_4_code
def yX11_dies : MethodName := ⟨RX11, "dies", "(I)Z"⟩
abbrev cX11_weds : ByteArray := prog_1_method_5_code
def yX11_weds : MethodName := ⟨RX11, "weds", "(II)Z"⟩
abbrev cX11_feed : ByteArray := prog_1_method_6_code
def yX11_feed : MethodName := ⟨RX11, "feed", "(IIIII)I"⟩
abbrev cX11_law : ByteArray := prog_1_method_7_code
def yX11_law : MethodName := ⟨RX11, "law", "(I)I"⟩
abbrev cX11_edge : ByteArray := prog_1_method_8_code
def yX11_edge : MethodName := ⟨RX11, "edge", "(II)I"⟩
abbrev cX11_journey : ByteArray := prog_1_method_9_code
def yX11_journey : MethodName := ⟨RX11, "journey", "(II)I"⟩
abbrev cX11_days : ByteArray := prog_1_method_10_code
def yX11_days : MethodName := ⟨RX11, "days", "(I)I"⟩
abbrev cX11_tried : ByteArray := prog_1_method_11_code
def yX11_tried : MethodName := ⟨RX11, "tried", "(II)I"⟩
abbrev cX11_personIs : ByteArray := prog_1_method_12_code
def yX11_personIs : MethodName := ⟨RX11, "personIs", "(II)I"⟩
abbrev cX11_whomItFits : ByteArray := prog_1_method_13_code
def yX11_whomItFits : MethodName := ⟨RX11, "whomItFits", "(I)I"⟩
abbrev cX11_piece : ByteArray := prog_1_method_14_code
def yX11_piece : MethodName := ⟨RX11, "piece", "(II)I"⟩
abbrev cX11_slack : ByteArray := prog_1_method_15_code
def yX11_slack : MethodName := ⟨RX11, "slack", "(III)I"⟩
abbrev cX11_locks : ByteArray := prog_1_method_16_code
def yX11_locks : MethodName := ⟨RX11, "locks", "(I)I"⟩
abbrev cX11_lowestOf : ByteArray := prog_1_method_17_code
def yX11_lowestOf : MethodName := ⟨RX11, "lowestOf", "(I)I"⟩
abbrev cX11_fitsAbove : ByteArray := prog_1_method_18_code
def yX11_fitsAbove : MethodName := ⟨RX11, "fitsAbove", "(I)I"⟩
abbrev cX11_most : ByteArray := prog_1_method_19_code
def yX11_most : MethodName := ⟨RX11, "most", "(I)I"⟩
abbrev cX11_stable : ByteArray := prog_1_method_20_code
def yX11_stable : MethodName := ⟨RX11, "stable", "(I)I"⟩
abbrev cX11_unrest : ByteArray := prog_1_method_21_code
def yX11_unrest : MethodName := ⟨RX11, "unrest", "(I)I"⟩
abbrev cX11_wouldLeave : ByteArray := prog_1_method_22_code
def yX11_wouldLeave : MethodName := ⟨RX11, "wouldLeave", "(II)Z"⟩
abbrev cX11_likingNow : ByteArray := prog_1_method_23_code
def yX11_likingNow : MethodName := ⟨RX11, "likingNow", "(I)I"⟩
abbrev cX11_search : ByteArray := prog_1_method_24_code
def yX11_search : MethodName := ⟨RX11, "search", "(II)I"⟩
abbrev cX11_sanding : ByteArray := prog_1_method_25_code
def yX11_sanding : MethodName := ⟨RX11, "sanding", "(IIIIIII)I"⟩
abbrev cX11_canSand : ByteArray := prog_1_method_26_code
def yX11_canSand : MethodName := ⟨RX11, "canSand", "(III)Z"⟩
abbrev cX11_fitOthers : ByteArray := prog_1_method_27_code
def yX11_fitOthers : MethodName := ⟨RX11, "fitOthers", "(I[II)I"⟩
abbrev cX11_steaming : ByteArray := prog_1_method_28_code
def yX11_steaming : MethodName := ⟨RX11, "steaming", "(IIII)I"⟩
abbrev cX11_worn : ByteArray := prog_1_method_29_code
def yX11_worn : MethodName := ⟨RX11, "worn", "(II)I"⟩
abbrev cX11_cutter : ByteArray := prog_1_method_30_code
def yX11_cutter : MethodName := ⟨RX11, "cutter", "(II)I"⟩
abbrev cX11_rulesAll : ByteArray := prog_1_method_31_code
def yX11_rulesAll : MethodName := ⟨RX11, "rulesAll", "(II)Z"⟩
abbrev cX11_madeBy : ByteArray := prog_1_method_32_code
def yX11_madeBy : MethodName := ⟨RX11, "madeBy", "(II)I"⟩
abbrev cX11_cut : ByteArray := prog_1_method_33_code
def yX11_cut : MethodName := ⟨RX11, "cut", "(I[I)V"⟩
abbrev cX11_sameRow : ByteArray := prog_1_method_34_code
def yX11_sameRow : MethodName := ⟨RX11, "sameRow", "([I[I)Z"⟩
abbrev cX11_copies : ByteArray := prog_1_method_35_code
def yX11_copies : MethodName := ⟨RX11, "copies", "(I)I"⟩
abbrev cX11_mate : ByteArray := prog_1_method_36_code
def yX11_mate : MethodName := ⟨RX11, "mate", "(II)I"⟩
abbrev cX11_seed : ByteArray := prog_1_method_37_code
def yX11_seed : MethodName := ⟨RX11, "seed", "(I)Z"⟩
abbrev cX11_keep : ByteArray := prog_1_method_38_code
def yX11_keep : MethodName := ⟨RX11, "keep", "()I"⟩
abbrev cX11_undo : ByteArray := prog_1_method_39_code
def yX11_undo : MethodName := ⟨RX11, "undo", "()Z"⟩
abbrev cX11_check : ByteArray := prog_1_method_40_code
def yX11_check : MethodName := ⟨RX11, "check", "(II)I"⟩
abbrev cX11_count : ByteArray := prog_1_method_41_code
def yX11_count : MethodName := ⟨RX11, "count", "(I)I"⟩
abbrev cX11_isNumber : ByteArray := prog_1_method_42_code
def yX11_isNumber : MethodName := ⟨RX11, "isNumber", "(I)Z"⟩
def RX12 : String := "PuzzleWedModel"
def TX12 : u_T := fun k => match k with
  | 0 => ("PuzzleWedModel", "now", "[I", true)
  | 1 => ("PuzzleWedModel", "aside", "[I", true)
  | 2 => ("PuzzleWedModel", "kept", "[I", true)
  | 3 => ("PuzzleWedModel", "tape", "[B", true)
  | 4 => ("PuzzleWedModel", "taped", "I", false)
  | 5 => ("PuzzleWedModel", "place0", "I", false)
  | 6 => ("PuzzleWedModel", "length0", "I", false)
  | 7 => ("PuzzleWedModel", "fault", "I", false)
  | 8 => ("PuzzleWedModel", "number0", "I", false)
  | 9 => ("PuzzleWedModel", "open", "I", false)
  | 10 => ("PuzzleWedModel", "codeMany", "I", false)
  | 11 => ("PuzzleWedModel", "waiting", "I", false)
  | 12 => ("PuzzleWedModel", "saidMany", "I", false)
  | 13 => ("PuzzleWedModel", "clauses", "I", false)
  | 14 => ("PuzzleWedModel", "said", "[I", true)
  | 15 => ("PuzzleWedModel", "waitsAt", "[I", true)
  | 16 => ("PuzzleWedModel", "saidLetter", "[I", true)
  | 17 => ("PuzzleWedModel", "saidFrom", "[I", true)
  | 18 => ("PuzzleWedModel", "saidHalf", "[I", true)
  | 19 => ("PuzzleWedModel", "saidTo", "[I", true)
  | 20 => ("PuzzleWedModel", "codes", "[I", true)
  | 21 => ("PuzzleWedModel", "clauseOf", "[I", true)
  | 22 => ("PuzzleWedModel", "codeFrom", "[I", true)
  | 23 => ("PuzzleWedModel", "codeHalf", "[I", true)
  | 24 => ("PuzzleWedModel", "codeTo", "[I", true)
  | 25 => ("PuzzleWedModel", "stack", "[I", true)
  | 26 => ("PuzzleWedModel", "facts", "[I", true)
  | 27 => ("PuzzleWedModel", "newHeight", "[I", true)
  | 28 => ("PuzzleWedModel", "newStop", "[I", true)
  | 29 => ("PuzzleWedModel", "newMany", "I", false)
  | 30 => ("PuzzleWedModel", "stops", "I", false)
  | 31 => ("PuzzleWedModel", "wedNow", "I", false)
  | 32 => ("PuzzleWedModel", "triesNow", "I", false)
  | 33 => ("PuzzleWedModel", "partsNow", "I", false)
  | 34 => ("PuzzleWedModel", "fitOf", "[I", true)
  | 35 => ("PuzzleWedModel", "slackNow", "[I", true)
  | 36 => ("PuzzleWedModel", "likeOf", "[I", true)
  | 37 => ("PuzzleWedModel", "bestOf", "[I", true)
  | 38 => ("PuzzleWedModel", "askedBy", "[I", true)
  | 39 => ("PuzzleWedModel", "getOf", "[I", true)
  | 40 => ("PuzzleWedModel", "rowNow", "[I", true)
  | 41 => ("PuzzleWedModel", "workOf", "[I", true)
  | 42 => ("PuzzleWedModel", "sanded", "[I", true)
  | 43 => ("PuzzleWedModel", "sandPiece", "I", false)
  | 44 => ("PuzzleWedModel", "sandA", "I", false)
  | 45 => ("PuzzleWedModel", "sandB", "I", false)
  | _ => ("PuzzleWedModel", "isKept", "Z", false)
def tyX12 : Nat → FieldType := fun k => match k with
  | 0 => .array .int
  | 1 => .array .int
  | 2 => .array .int
  | 3 => .array .byte
  | 4 => .int
  | 5 => .int
  | 6 => .int
  | 7 => .int
  | 8 => .int
  | 9 => .int
  | 10 => .int
  | 11 => .int
  | 12 => .int
  | 13 => .int
  | 14 => .array .int
  | 15 => .array .int
  | 16 => .array .int
  | 17 => .array .int
  | 18 => .array .int
  | 19 => .array .int
  | 20 => .array .int
  | 21 => .array .int
  | 22 => .array .int
  | 23 => .array .int
  | 24 => .array .int
  | 25 => .array .int
  | 26 => .array .int
  | 27 => .array .int
  | 28 => .array .int
  | 29 => .int
  | 30 => .int
  | 31 => .int
  | 32 => .int
  | 33 => .int
  | 34 => .array .int
  | 35 => .array .int
  | 36 => .array .int
  | 37 => .array .int
  | 38 => .array .int
  | 39 => .array .int
  | 40 => .array .int
  | 41 => .array .int
  | 42 => .array .int
  | 43 => .int
  | 44 => .int
  | 45 => .int
  | _ => .boolean
abbrev wsX120 : List Cond := u_ws RX12 TX12 47
theorem nmX12 : ∀ a, a < 47 → ∀ b, b < 47 → a ≠ b → (TX12 a).2.1 ≠ (TX12 b).2.1 := by decide +kernel
theorem tyX12_ok : ∀ k, k < 47 → parseFieldDescriptor (TX12 k).2.2.1 = some (tyX12 k) := by decide +kernel
abbrev cX12_init : ByteArray := prog_14_method_1_code
def yX12_init : MethodName := ⟨RX12, "<init>", "()V"⟩
abbrev cX12_in : ByteArray := prog_14_method_2_code
def yX12_in : MethodName := ⟨RX12, "in", "(III)Z"⟩
abbrev cX12_min : ByteArray := prog_14_method_3_code
def yX12_min : MethodName := ⟨RX12, "min", "(II)I"⟩
abbrev cX12_max : ByteArray := prog_14_method_4_code
def yX12_max : MethodName := ⟨RX12, "max", "(II)I"⟩
abbrev cX12_size : ByteArray := prog_14_method_5_code
def yX12_size : MethodName := ⟨RX12, "size", "(I)I"⟩
abbrev cX12_has : ByteArray := prog_14_method_6_code
def yX12_has : MethodName := ⟨RX12, "has", "(II)Z"⟩
abbrev cX12_bits : ByteArray := prog_14_method_7_code
def yX12_bits : MethodName := ⟨RX12, "bits", "(I)I"⟩
abbrev cX12_copiesRow : ByteArray := prog_14_method_8_code
def yX12_copiesRow : MethodName := ⟨RX12, "copiesRow", "([I[I)V"⟩
abbrev cX12_isTwelve : ByteArray := prog_14_method_9_code
def yX12_isTwelve : MethodName := ⟨RX12, "isTwelve", "(I)Z"⟩
abbrev cX12_isPerson : ByteArray := prog_14_method_10_code
def yX12_isPerson : MethodName := ⟨RX12, "isPerson", "(I)Z"⟩
abbrev cX12_lives : ByteArray := prog_14_method_11_code
def yX12_lives : MethodName := ⟨RX12, "lives", "(I)Z"⟩
abbrev cX12_isFree : ByteArray := prog_14_method_12_code
def yX12_isFree : MethodName := ⟨RX12, "isFree", "(I)Z"⟩
abbrev cX12_person : ByteArray := prog_14_method_13_code
def yX12_person : MethodName := ⟨RX12, "person", "(III)Z"⟩
abbrev cX12_wear : ByteArray := prog_14_method_14_code
def yX12_wear : MethodName := ⟨RX12, "wear", "(II)Z"⟩
abbrev cX12_parts : ByteArray := prog_14_method_15_code
def yX12_parts : MethodName := ⟨RX12, "parts", "(I)V"⟩
abbrev cX12_dies : ByteArray := prog_14_method_16_code
def yX12_dies : MethodName := ⟨RX12, "dies", "(I)Z"⟩
abbrev cX12_wedsTwo : ByteArray := prog_14_method_17_code
def yX12_wedsTwo : MethodName := ⟨RX12, "wedsTwo", "(II)V"⟩
abbrev cX12_weds : ByteArray := prog_14_method_18_code
def yX12_weds : MethodName := ⟨RX12, "weds", "(II)Z"⟩
abbrev cX12_types : ByteArray := prog_14_method_19_code
def yX12_types : MethodName := ⟨RX12, "types", "(I)V"⟩
abbrev cX12_feed : ByteArray := prog_14_method_20_code
def yX12_feed : MethodName := ⟨RX12, "feed", "(IIIII)I"⟩
abbrev cX12_here : ByteArray := prog_14_method_21_code
def yX12_here : MethodName := ⟨RX12, "here", "()I"⟩
abbrev cX12_isDigit : ByteArray := prog_14_method_22_code
def yX12_isDigit : MethodName := ⟨RX12, "isDigit", "()Z"⟩
abbrev cX12_wrongAt : ByteArray := prog_14_method_23_code
def yX12_wrongAt : MethodName := ⟨RX12, "wrongAt", "(II)Z"⟩
abbrev cX12_takes : ByteArray := prog_14_method_24_code
def yX12_takes : MethodName := ⟨RX12, "takes", "(I)Z"⟩
abbrev cX12_readsNumber : ByteArray := prog_14_method_25_code
def yX12_readsNumber : MethodName := ⟨RX12, "readsNumber", "()Z"⟩
abbrev cX12_notes : ByteArray := prog_14_method_26_code
def yX12_notes : MethodName := ⟨RX12, "notes", "(II)V"⟩
abbrev cX12_opens : ByteArray := prog_14_method_27_code
def yX12_opens : MethodName := ⟨RX12, "opens", "(I)Z"⟩
abbrev cX12_waitTop : ByteArray := prog_14_method_28_code
def yX12_waitTop : MethodName := ⟨RX12, "waitTop", "()I"⟩
abbrev cX12_factOf : ByteArray := prog_14_method_29_code
def yX12_factOf : MethodName := ⟨RX12, "factOf", "(I)I"⟩
abbrev cX12_sumSign : ByteArray := prog_14_method_30_code
def yX12_sumSign : MethodName := ⟨RX12, "sumSign", "(I)I"⟩
abbrev cX12_closesSums : ByteArray := prog_14_method_31_code
def yX12_closesSums : MethodName := ⟨RX12, "closesSums", "(Z)V"⟩
abbrev cX12_readsFactor : ByteArray := prog_14_method_32_code
def yX12_readsFactor : MethodName := ⟨RX12, "readsFactor", "()Z"⟩
abbrev cX12_hasOpenSum : ByteArray := prog_14_method_33_code
def yX12_hasOpenSum : MethodName := ⟨RX12, "hasOpenSum", "(I)Z"⟩
abbrev cX12_readsSum : ByteArray := prog_14_method_34_code
def yX12_readsSum : MethodName := ⟨RX12, "readsSum", "()Z"⟩
abbrev cX12_endsPiece : ByteArray := prog_14_method_35_code
def yX12_endsPiece : MethodName := ⟨RX12, "endsPiece", "()V"⟩
abbrev cX12_lands : ByteArray := prog_14_method_36_code
def yX12_lands : MethodName := ⟨RX12, "lands", "(Z)V"⟩
abbrev cX12_jumps : ByteArray := prog_14_method_37_code
def yX12_jumps : MethodName := ⟨RX12, "jumps", "(I)V"⟩
abbrev cX12_readsCompared : ByteArray := prog_14_method_38_code
def yX12_readsCompared : MethodName := ⟨RX12, "readsCompared", "()Z"⟩
abbrev cX12_readsCondition : ByteArray := prog_14_method_39_code
def yX12_readsCondition : MethodName := ⟨RX12, "readsCondition", "()Z"⟩
abbrev cX12_isClause : ByteArray := prog_14_method_40_code
def yX12_isClause : MethodName := ⟨RX12, "isClause", "(I)Z"⟩
abbrev cX12_readsClause : ByteArray := prog_14_method_41_code
def yX12_readsClause : MethodName := ⟨RX12, "readsClause", "()Z"⟩
abbrev cX12_law : ByteArray := prog_14_method_42_code
def yX12_law : MethodName := ⟨RX12, "law", "(I)I"⟩
abbrev cX12_reckon : ByteArray := prog_14_method_43_code
def yX12_reckon : MethodName := ⟨RX12, "reckon", "(III)I"⟩
abbrev cX12_comesTo : ByteArray := prog_14_method_44_code
def yX12_comesTo : MethodName := ⟨RX12, "comesTo", "(II)I"⟩
abbrev cX12_byLaw : ByteArray := prog_14_method_45_code
def yX12_byLaw : MethodName := ⟨RX12, "byLaw", "(II)I"⟩
abbrev cX12_heightOf : ByteArray := prog_14_method_46_code
def yX12_heightOf : MethodName := ⟨RX12, "heightOf", "(II)I"⟩
abbrev cX12_slackOf : ByteArray := prog_14_method_47_code
def yX12_slackOf : MethodName := ⟨RX12, "slackOf", "(II)I"⟩
abbrev cX12_slackBy : ByteArray := prog_14_method_48_code
def yX12_slackBy : MethodName := ⟨RX12, "slackBy", "(II)I"⟩
abbrev cX12_feels : ByteArray := prog_14_method_49_code
def yX12_feels : MethodName := ⟨RX12, "feels", "(III)V"⟩
abbrev cX12_allowed : ByteArray := prog_14_method_50_code
def yX12_allowed : MethodName := ⟨RX12, "allowed", "(II)I"⟩
abbrev cX12_fit : ByteArray := prog_14_method_51_code
def yX12_fit : MethodName := ⟨RX12, "fit", "(II)Z"⟩
abbrev cX12_likes : ByteArray := prog_14_method_52_code
def yX12_likes : MethodName := ⟨RX12, "likes", "(II)I"⟩
abbrev cX12_readsHeight : ByteArray := prog_14_method_53_code
def yX12_readsHeight : MethodName := ⟨RX12, "readsHeight", "()Z"⟩
abbrev cX12_edge : ByteArray := prog_14_method_54_code
def yX12_edge : MethodName := ⟨RX12, "edge", "(II)I"⟩
abbrev cX12_readsStop : ByteArray := prog_14_method_55_code
def yX12_readsStop : MethodName := ⟨RX12, "readsStop", "()Z"⟩
abbrev cX12_journey : ByteArray := prog_14_method_56_code
def yX12_journey : MethodName := ⟨RX12, "journey", "(II)I"⟩
abbrev cX12_travels : ByteArray := prog_14_method_57_code
def yX12_travels : MethodName := ⟨RX12, "travels", "(I)V"⟩
abbrev cX12_wearsAll : ByteArray := prog_14_method_58_code
def yX12_wearsAll : MethodName := ⟨RX12, "wearsAll", "(II)V"⟩
abbrev cX12_haveTried : ByteArray := prog_14_method_59_code
def yX12_haveTried : MethodName := ⟨RX12, "haveTried", "(II)V"⟩
abbrev cX12_wearsBy : ByteArray := prog_14_method_60_code
def yX12_wearsBy : MethodName := ⟨RX12, "wearsBy", "(II)I"⟩
abbrev cX12_triesIn : ByteArray := prog_14_method_61_code
def yX12_triesIn : MethodName := ⟨RX12, "triesIn", "(II)V"⟩
abbrev cX12_draws : ByteArray := prog_14_method_62_code
def yX12_draws : MethodName := ⟨RX12, "draws", "()I"⟩
abbrev cX12_creak : ByteArray := prog_14_method_63_code
def yX12_creak : MethodName := ⟨RX12, "creak", "(I)V"⟩
abbrev cX12_daysGo : ByteArray := prog_14_method_64_code
def yX12_daysGo : MethodName := ⟨RX12, "daysGo", "(I)V"⟩
abbrev cX12_days : ByteArray := prog_14_method_65_code
def yX12_days : MethodName := ⟨RX12, "days", "(I)I"⟩
abbrev cX12_wedTwos : ByteArray := prog_14_method_66_code
def yX12_wedTwos : MethodName := ⟨RX12, "wedTwos", "()I"⟩
abbrev cX12_tried : ByteArray := prog_14_method_67_code
def yX12_tried : MethodName := ⟨RX12, "tried", "(II)I"⟩
abbrev cX12_fitting : ByteArray := prog_14_method_68_code
def yX12_fitting : MethodName := ⟨RX12, "fitting", "(I)I"⟩
abbrev cX12_personIs : ByteArray := prog_14_method_69_code
def yX12_personIs : MethodName := ⟨RX12, "personIs", "(II)I"⟩
abbrev cX12_piece : ByteArray := prog_14_method_70_code
def yX12_piece : MethodName := ⟨RX12, "piece", "(II)I"⟩
abbrev cX12_slack : ByteArray := prog_14_method_71_code
def yX12_slack : MethodName := ⟨RX12, "slack", "(III)I"⟩
abbrev cX12_laysFits : ByteArray := prog_14_method_72_code
def yX12_laysFits : MethodName := ⟨RX12, "laysFits", "()V"⟩
abbrev cX12_locks : ByteArray := prog_14_method_73_code
def yX12_locks : MethodName := ⟨RX12, "locks", "(I)I"⟩
abbrev cX12_isOne : ByteArray := prog_14_method_74_code
def yX12_isOne : MethodName := ⟨RX12, "isOne", "(II)Z"⟩
abbrev cX12_mayGet : ByteArray := prog_14_method_75_code
def yX12_mayGet : MethodName := ⟨RX12, "mayGet", "(III)Z"⟩
abbrev cX12_laysMost : ByteArray := prog_14_method_76_code
def yX12_laysMost : MethodName := ⟨RX12, "laysMost", "()V"⟩
abbrev cX12_getsBy : ByteArray := prog_14_method_77_code
def yX12_getsBy : MethodName := ⟨RX12, "getsBy", "(I)I"⟩
abbrev cX12_most : ByteArray := prog_14_method_78_code
def yX12_most : MethodName := ⟨RX12, "most", "(I)I"⟩
abbrev cX12_nextAsked : ByteArray := prog_14_method_79_code
def yX12_nextAsked : MethodName := ⟨RX12, "nextAsked", "(I)I"⟩
abbrev cX12_keeps : ByteArray := prog_14_method_80_code
def yX12_keeps : MethodName := ⟨RX12, "keeps", "(II)Z"⟩
abbrev cX12_laysStable : ByteArray := prog_14_method_81_code
def yX12_laysStable : MethodName := ⟨RX12, "laysStable", "()V"⟩
abbrev cX12_stable : ByteArray := prog_14_method_82_code
def yX12_stable : MethodName := ⟨RX12, "stable", "(I)I"⟩
abbrev cX12_likesWed : ByteArray := prog_14_method_83_code
def yX12_likesWed : MethodName := ⟨RX12, "likesWed", "(I)I"⟩
abbrev cX12_unrest : ByteArray := prog_14_method_84_code
def yX12_unrest : MethodName := ⟨RX12, "unrest", "(I)I"⟩
abbrev cX12_areBounds : ByteArray := prog_14_method_85_code
def yX12_areBounds : MethodName := ⟨RX12, "areBounds", "(I)Z"⟩
abbrev cX12_readsRow : ByteArray := prog_14_method_86_code
def yX12_readsRow : MethodName := ⟨RX12, "readsRow", "(II)Z"⟩
abbrev cX12_sumBy : ByteArray := prog_14_method_87_code
def yX12_sumBy : MethodName := ⟨RX12, "sumBy", "(I)I"⟩
abbrev cX12_gcd : ByteArray := prog_14_method_88_code
def yX12_gcd : MethodName := ⟨RX12, "gcd", "(II)I"⟩
abbrev cX12_search : ByteArray := prog_14_method_89_code
def yX12_search : MethodName := ⟨RX12, "search", "(II)I"⟩
abbrev cX12_workAt : ByteArray := prog_14_method_90_code
def yX12_workAt : MethodName := ⟨RX12, "workAt", "(III)I"⟩
abbrev cX12_workBy : ByteArray := prog_14_method_91_code
def yX12_workBy : MethodName := ⟨RX12, "workBy", "(IIII)I"⟩
abbrev cX12_laysWork : ByteArray := prog_14_method_92_code
def yX12_laysWork : MethodName := ⟨RX12, "laysWork", "(I)V"⟩
abbrev cX12_laysSanded : ByteArray := prog_14_method_93_code
def yX12_laysSanded : MethodName := ⟨RX12, "laysSanded", "(II)V"⟩
abbrev cX12_slackOfSanded : ByteArray := prog_14_method_94_code
def yX12_slackOfSanded : MethodName := ⟨RX12, "slackOfSanded", "(I)I"⟩
abbrev cX12_sanding : ByteArray := prog_14_method_95_code
def yX12_sanding : MethodName := ⟨RX12, "sanding", "(IIIIIII)I"⟩
abbrev cX12_slackSteamed : ByteArray := prog_14_method_96_code
def yX12_slackSteamed : MethodName := ⟨RX12, "slackSteamed", "(IIII)I"⟩
abbrev cX12_steaming : ByteArray := prog_14_method_97_code
def yX12_steaming : MethodName := ⟨RX12, "steaming", "(IIII)I"⟩
abbrev cX12_worn : ByteArray := prog_14_method_98_code
def yX12_worn : MethodName := ⟨RX12, "worn", "(II)I"⟩
abbrev cX12_makes : ByteArray := prog_14_method_99_code
def yX12_makes : MethodName := ⟨RX12, "makes", "(III)Z"⟩
abbrev cX12_makesAll : ByteArray := prog_14_method_100_code
def yX12_makesAll : MethodName := ⟨RX12, "makesAll", "(II)Z"⟩
abbrev cX12_cutter : ByteArray := prog_14_method_101_code
def yX12_cutter : MethodName := ⟨RX12, "cutter", "(II)I"⟩
abbrev cX12_areSame : ByteArray := prog_14_method_102_code
def yX12_areSame : MethodName := ⟨RX12, "areSame", "(II)Z"⟩
abbrev cX12_copies : ByteArray := prog_14_method_103_code
def yX12_copies : MethodName := ⟨RX12, "copies", "(I)I"⟩
abbrev cX12_mate : ByteArray := prog_14_method_104_code
def yX12_mate : MethodName := ⟨RX12, "mate", "(II)I"⟩
abbrev cX12_seed : ByteArray := prog_14_method_105_code
def yX12_seed : MethodName := ⟨RX12, "seed", "(I)Z"⟩
abbrev cX12_keep : ByteArray := prog_14_method_106_code
def yX12_keep : MethodName := ⟨RX12, "keep", "()I"⟩
abbrev cX12_undo : ByteArray := prog_14_method_107_code
def yX12_undo : MethodName := ⟨RX12, "undo", "()Z"⟩
abbrev cX12_check : ByteArray := prog_14_method_108_code
def yX12_check : MethodName := ⟨RX12, "check", "(II)I"⟩
abbrev cX12_count : ByteArray := prog_14_method_109_code
def yX12_count : MethodName := ⟨RX12, "count", "(I)I"⟩
def RJx145de : String := "java/io/Serializable"
def TJx145de : u_T := fun k => match k with
  | _ => ("", "", "", false)
def tyJx145de : Nat → FieldType := fun k => match k with
  | _ => .int
abbrev wsJx145de0 : List Cond := u_ws RJx145de TJx145de 0
theorem nmJx145de : ∀ a, a < 0 → ∀ b, b < 0 → a ≠ b → (TJx145de a).2.1 ≠ (TJx145de b).2.1 := by decide +kernel
theorem tyJx145de_ok : ∀ k, k < 0 → parseFieldDescriptor (TJx145de k).2.2.1 = some (tyJx145de k) := by decide +kernel
def RJx9f9b0 : String := "java/lang/CharSequence"
def TJx9f9b0 : u_T := fun k => match k with
  | _ => ("", "", "", false)
def tyJx9f9b0 : Nat → FieldType := fun k => match k with
  | _ => .int
abbrev wsJx9f9b00 : List Cond := u_ws RJx9f9b0 TJx9f9b0 0
theorem nmJx9f9b0 : ∀ a, a < 0 → ∀ b, b < 0 → a ≠ b → (TJx9f9b0 a).2.1 ≠ (TJx9f9b0 b).2.1 := by decide +kernel
theorem tyJx9f9b0_ok : ∀ k, k < 0 → parseFieldDescriptor (TJx9f9b0 k).2.2.1 = some (tyJx9f9b0 k) := by decide +kernel
def RJ11 : String := "java/lang/Character"
def TJ11 : u_T := fun k => match k with
  | _ => ("", "", "", false)
def tyJ11 : Nat → FieldType := fun k => match k with
  | _ => .int
abbrev wsJ110 : List Cond := u_ws RJ11 TJ11 0
theorem nmJ11 : ∀ a, a < 0 → ∀ b, b < 0 → a ≠ b → (TJ11 a).2.1 ≠ (TJ11 b).2.1 := by decide +kernel
theorem tyJ11_ok : ∀ k, k < 0 → parseFieldDescriptor (TJ11 k).2.2.1 = some (tyJ11 k) := by decide +kernel
abbrev cJ11_isValidCodePoint_9a6ad : ByteArray := prog_15_method_11_code
def yJ11_isValidCodePoint_9a6ad : MethodName := ⟨RJ11, "isValidCodePoint", "(I)Z"⟩
abbrev cJ11_highSurrogate_5068e : ByteArray := prog_15_method_28_code
def yJ11_highSurrogate_5068e : MethodName := ⟨RJ11, "highSurrogate", "(I)C"⟩
abbrev cJ11_lowSurrogate_5068e : ByteArray := prog_15_method_29_code
def yJ11_lowSurrogate_5068e : MethodName := ⟨RJ11, "lowSurrogate", "(I)C"⟩
def RJxb160c : String := "java/lang/Comparable"
def TJxb160c : u_T := fun k => match k with
  | _ => ("", "", "", false)
def tyJxb160c : Nat → FieldType := fun k => match k with
  | _ => .int
abbrev wsJxb160c0 : List Cond := u_ws RJxb160c TJxb160c 0
theorem nmJxb160c : ∀ a, a < 0 → ∀ b, b < 0 → a ≠ b → (TJxb160c a).2.1 ≠ (TJxb160c b).2.1 := by decide +kernel
theorem tyJxb160c_ok : ∀ k, k < 0 → parseFieldDescriptor (TJxb160c k).2.2.1 = some (tyJxb160c k) := by decide +kernel
def RJ6 : String := "java/lang/Integer"
def TJ6 : u_T := fun k => match k with
  | _ => ("", "", "", false)
def tyJ6 : Nat → FieldType := fun k => match k with
  | _ => .int
abbrev wsJ60 : List Cond := u_ws RJ6 TJ6 0
theorem nmJ6 : ∀ a, a < 0 → ∀ b, b < 0 → a ≠ b → (TJ6 a).2.1 ≠ (TJ6 b).2.1 := by decide +kernel
theorem tyJ6_ok : ∀ k, k < 0 → parseFieldDescriptor (TJ6 k).2.2.1 = some (tyJ6 k) := by decide +kernel
abbrev cJ6_bitCount_0f7a4 : ByteArray := prog_16_method_49_code
def yJ6_bitCount_0f7a4 : MethodName := ⟨RJ6, "bitCount", "(I)I"⟩
def RJ9 : String := "java/lang/Math"
def TJ9 : u_T := fun k => match k with
  | _ => ("", "", "", false)
def tyJ9 : Nat → FieldType := fun k => match k with
  | _ => .int
abbrev wsJ90 : List Cond := u_ws RJ9 TJ9 0
theorem nmJ9 : ∀ a, a < 0 → ∀ b, b < 0 → a ≠ b → (TJ9 a).2.1 ≠ (TJ9 b).2.1 := by decide +kernel
theorem tyJ9_ok : ∀ k, k < 0 → parseFieldDescriptor (TJ9 k).2.2.1 = some (tyJ9 k) := by decide +kernel
abbrev cJ9_abs_0f7a4 : ByteArray := prog_17_method_59_code
def yJ9_abs_0f7a4 : MethodName := ⟨RJ9, "abs", "(I)I"⟩
abbrev cJ9_max_7cf53 : ByteArray := prog_17_method_65_code
def yJ9_max_7cf53 : MethodName := ⟨RJ9, "max", "(II)I"⟩
abbrev cJ9_min_7cf53 : ByteArray := prog_17_method_69_code
def yJ9_min_7cf53 : MethodName := ⟨RJ9, "min", "(II)I"⟩
abbrev cJ9_min_f86c9 : ByteArray := prog_17_method_70_code
def yJ9_min_f86c9 : MethodName := ⟨RJ9, "min", "(JJ)J"⟩
def RJ0 : String := "java/lang/String"
def TJ0 : u_T := fun k => match k with
  | _ => ("", "", "", false)
def tyJ0 : Nat → FieldType := fun k => match k with
  | _ => .int
abbrev wsJ00 : List Cond := u_ws RJ0 TJ0 0
theorem nmJ0 : ∀ a, a < 0 → ∀ b, b < 0 → a ≠ b → (TJ0 a).2.1 ≠ (TJ0 b).2.1 := by decide +kernel
theorem tyJ0_ok : ∀ k, k < 0 → parseFieldDescriptor (TJ0 k).2.2.1 = some (tyJ0 k) := by decide +kernel
abbrev cJ0_length_8abf5 : ByteArray := prog_18_method_54_code
def yJ0_length_8abf5 : MethodName := ⟨RJ0, "length", "()I"⟩
abbrev cJ0_indexOf_0f7a4 : ByteArray := prog_18_method_79_code
def yJ0_indexOf_0f7a4 : MethodName := ⟨RJ0, "indexOf", "(I)I"⟩
abbrev cJ0_indexOf_7cf53 : ByteArray := prog_18_method_80_code
def yJ0_indexOf_7cf53 : MethodName := ⟨RJ0, "indexOf", "(II)I"⟩
abbrev cJ0_coder_7d493 : ByteArray := prog_18_method_152_code
def yJ0_coder_7d493 : MethodName := ⟨RJ0, "coder", "()B"⟩
abbrev cJ0_isLatin1_aae02 : ByteArray := prog_18_method_154_code
def yJ0_isLatin1_aae02 : MethodName := ⟨RJ0, "isLatin1", "()Z"⟩
abbrev cJ0_checkBoundsBeginEnd_23922 : ByteArray := prog_18_method_158_code
def yJ0_checkBoundsBeginEnd_23922 : MethodName := ⟨RJ0, "checkBoundsBeginEnd", "(III)V"⟩
def RJ1 : String := "java/lang/StringLatin1"
def TJ1 : u_T := fun k => match k with
  | _ => ("", "", "", false)
def tyJ1 : Nat → FieldType := fun k => match k with
  | _ => .int
abbrev wsJ10 : List Cond := u_ws RJ1 TJ1 0
theorem nmJ1 : ∀ a, a < 0 → ∀ b, b < 0 → a ≠ b → (TJ1 a).2.1 ≠ (TJ1 b).2.1 := by decide +kernel
theorem tyJ1_ok : ∀ k, k < 0 → parseFieldDescriptor (TJ1 k).2.2.1 = some (tyJ1 k) := by decide +kernel
abbrev cJ1_canEncode_9a6ad : ByteArray := prog_19_method_4_code
def yJ1_canEncode_9a6ad : MethodName := ⟨RJ1, "canEncode", "(I)Z"⟩
abbrev cJ1_indexOf_4cfef : ByteArray := prog_19_method_22_code
def yJ1_indexOf_4cfef : MethodName := ⟨RJ1, "indexOf", "([BIII)I"⟩
abbrev cJ1_indexOfChar_4cfef : ByteArray := prog_19_method_23_code
def yJ1_indexOfChar_4cfef : MethodName := ⟨RJ1, "indexOfChar", "([BIII)I"⟩
def RJ2 : String := "java/lang/StringUTF16"
def TJ2 : u_T := fun k => match k with
  | _ => ("", "", "", false)
def tyJ2 : Nat → FieldType := fun k => match k with
  | _ => .int
abbrev wsJ20 : List Cond := u_ws RJ2 TJ2 0
theorem nmJ2 : ∀ a, a < 0 → ∀ b, b < 0 → a ≠ b → (TJ2 a).2.1 ≠ (TJ2 b).2.1 := by decide +kernel
theorem tyJ2_ok : ∀ k, k < 0 → parseFieldDescriptor (TJ2 k).2.2.1 = some (tyJ2 k) := by decide +kernel
abbrev cJ2_getChar_3b067 : ByteArray := prog_20_method_5_code
def yJ2_getChar_3b067 : MethodName := ⟨RJ2, "getChar", "([BI)C"⟩
abbrev cJ2_length_9d52b : ByteArray := prog_20_method_6_code
def yJ2_length_9d52b : MethodName := ⟨RJ2, "length", "([B)I"⟩
abbrev cJ2_indexOf_4cfef : ByteArray := prog_20_method_40_code
def yJ2_indexOf_4cfef : MethodName := ⟨RJ2, "indexOf", "([BIII)I"⟩
abbrev cJ2_indexOfChar_4cfef : ByteArray := prog_20_method_47_code
def yJ2_indexOfChar_4cfef : MethodName := ⟨RJ2, "indexOfChar", "([BIII)I"⟩
abbrev cJ2_indexOfCharUnsafe_4cfef : ByteArray := prog_20_method_48_code
def yJ2_indexOfCharUnsafe_4cfef : MethodName := ⟨RJ2, "indexOfCharUnsafe", "([BIII)I"⟩
abbrev cJ2_indexOfSupplementary_4cfef : ByteArray := prog_20_method_49_code
def yJ2_indexOfSupplementary_4cfef : MethodName := ⟨RJ2, "indexOfSupplementary", "([BIII)I"⟩
abbrev cJ2_checkBoundsBeginEnd_d044e : ByteArray := prog_20_method_93_code
def yJ2_checkBoundsBeginEnd_d044e : MethodName := ⟨RJ2, "checkBoundsBeginEnd", "(II[B)V"⟩
def RJ10 : String := "java/lang/System"
def TJ10 : u_T := fun k => match k with
  | _ => ("", "", "", false)
def tyJ10 : Nat → FieldType := fun k => match k with
  | _ => .int
abbrev wsJ100 : List Cond := u_ws RJ10 TJ10 0
theorem nmJ10 : ∀ a, a < 0 → ∀ b, b < 0 → a ≠ b → (TJ10 a).2.1 ≠ (TJ10 b).2.1 := by decide +kernel
theorem tyJ10_ok : ∀ k, k < 0 → parseFieldDescriptor (TJ10 k).2.2.1 = some (tyJ10 k) := by decide +kernel
def RJxfd54e : String := "java/lang/constant/Constable"
def TJxfd54e : u_T := fun k => match k with
  | _ => ("", "", "", false)
def tyJxfd54e : Nat → FieldType := fun k => match k with
  | _ => .int
abbrev wsJxfd54e0 : List Cond := u_ws RJxfd54e TJxfd54e 0
theorem nmJxfd54e : ∀ a, a < 0 → ∀ b, b < 0 → a ≠ b → (TJxfd54e a).2.1 ≠ (TJxfd54e b).2.1 := by decide +kernel
theorem tyJxfd54e_ok : ∀ k, k < 0 → parseFieldDescriptor (TJxfd54e k).2.2.1 = some (tyJxfd54e k) := by decide +kernel
def RJx3cf43 : String := "java/lang/constant/ConstantDesc"
def TJx3cf43 : u_T := fun k => match k with
  | _ => ("", "", "", false)
def tyJx3cf43 : Nat → FieldType := fun k => match k with
  | _ => .int
abbrev wsJx3cf430 : List Cond := u_ws RJx3cf43 TJx3cf43 0
theorem nmJx3cf43 : ∀ a, a < 0 → ∀ b, b < 0 → a ≠ b → (TJx3cf43 a).2.1 ≠ (TJx3cf43 b).2.1 := by decide +kernel
theorem tyJx3cf43_ok : ∀ k, k < 0 → parseFieldDescriptor (TJx3cf43 k).2.2.1 = some (tyJx3cf43 k) := by decide +kernel
def RJ7 : String := "java/util/Arrays"
def TJ7 : u_T := fun k => match k with
  | _ => ("", "", "", false)
def tyJ7 : Nat → FieldType := fun k => match k with
  | _ => .int
abbrev wsJ70 : List Cond := u_ws RJ7 TJ7 0
theorem nmJ7 : ∀ a, a < 0 → ∀ b, b < 0 → a ≠ b → (TJ7 a).2.1 ≠ (TJ7 b).2.1 := by decide +kernel
theorem tyJ7_ok : ∀ k, k < 0 → parseFieldDescriptor (TJ7 k).2.2.1 = some (tyJ7 k) := by decide +kernel
abbrev cJ7_fill_d0a16 : ByteArray := prog_22_method_101_code
def yJ7_fill_d0a16 : MethodName := ⟨RJ7, "fill", "([JJ)V"⟩
abbrev cJ7_fill_53178 : ByteArray := prog_22_method_103_code
def yJ7_fill_53178 : MethodName := ⟨RJ7, "fill", "([II)V"⟩
def RJ3 : String := "jdk/internal/util/Preconditions"
def TJ3 : u_T := fun k => match k with
  | _ => ("", "", "", false)
def tyJ3 : Nat → FieldType := fun k => match k with
  | _ => .int
abbrev wsJ30 : List Cond := u_ws RJ3 TJ3 0
theorem nmJ3 : ∀ a, a < 0 → ∀ b, b < 0 → a ≠ b → (TJ3 a).2.1 ≠ (TJ3 b).2.1 := by decide +kernel
theorem tyJ3_ok : ∀ k, k < 0 → parseFieldDescriptor (TJ3 k).2.2.1 = some (tyJ3 k) := by decide +kernel
abbrev cJ3_checkFromToIndex_8c36e : ByteArray := prog_23_method_12_code
def yJ3_checkFromToIndex_8c36e : MethodName := ⟨RJ3, "checkFromToIndex", "(IIILjava/util/function/BiFunction;)I"⟩
def RL : String := "PuzzleWedLaw"
abbrev cL_law : ByteArray := code
def yL_law : MethodName := ⟨RL, "law", "([I)Z"⟩
abbrev vwCl : List vw_C := [(RX0, TX0, 11), (RX1, TX1, 4), (RX2, TX2, 2), (RX3, TX3, 15), (RX4, TX4, 7), (RX5, TX5, 5), (RX6, TX6, 8), (RX8, TX8, 11), (RX9, TX9, 8), (RX10, TX10, 2), (RX11, TX11, 15), (RX12, TX12, 47)]
