section
-- ===== PART A: goes FIRST, ahead of the names: the tables' words, and 'selects' of the private methods out of them =====
/-- a private method of a class that the tables say can be made, by its rows of tables_1 -/
def lw_okq (q : MethodName × Nat) : Prop := (q.1.cls ≠ "java/lang/invoke/MethodHandle" ∧ q.1.cls ≠ "java/lang/invoke/VarHandle") ∧ Cond.instantiable q.1.cls q.2 ∈ tables_1 ∧ Cond.privateMethod q.1 ∈ tables_1 ∧ Cond.instanceMethod q.1 ∈ tables_1
theorem lw_p0 : lw_okq (⟨"PuzzleWed$LawReader", "readClause", "()Z"⟩, 5) := ⟨⟨by decide +kernel, by decide +kernel⟩, List.mem_of_getElem? (i := 175) (by decide +kernel), List.mem_of_getElem? (i := 506) (by decide +kernel), List.mem_of_getElem? (i := 507) (by decide +kernel)⟩
theorem lw_p1 : lw_okq (⟨"PuzzleWed$LawReader", "readSum", "(I)Z"⟩, 5) := ⟨⟨by decide +kernel, by decide +kernel⟩, List.mem_of_getElem? (i := 175) (by decide +kernel), List.mem_of_getElem? (i := 621) (by decide +kernel), List.mem_of_getElem? (i := 622) (by decide +kernel)⟩
theorem lw_p2 : lw_okq (⟨"PuzzleWed$LawReader", "readProduct", "(I)Z"⟩, 5) := ⟨⟨by decide +kernel, by decide +kernel⟩, List.mem_of_getElem? (i := 175) (by decide +kernel), List.mem_of_getElem? (i := 625) (by decide +kernel), List.mem_of_getElem? (i := 626) (by decide +kernel)⟩
theorem lw_p3 : lw_okq (⟨"PuzzleWed$LawReader", "readFactor", "(I)Z"⟩, 5) := ⟨⟨by decide +kernel, by decide +kernel⟩, List.mem_of_getElem? (i := 175) (by decide +kernel), List.mem_of_getElem? (i := 629) (by decide +kernel), List.mem_of_getElem? (i := 630) (by decide +kernel)⟩
theorem lw_p4 : lw_okq (⟨"PuzzleWed$LawReader", "pass", "(I)Z"⟩, 5) := ⟨⟨by decide +kernel, by decide +kernel⟩, List.mem_of_getElem? (i := 175) (by decide +kernel), List.mem_of_getElem? (i := 633) (by decide +kernel), List.mem_of_getElem? (i := 634) (by decide +kernel)⟩
theorem lw_p5 : lw_okq (⟨"PuzzleWed$LawReader", "readNumber", "()Z"⟩, 5) := ⟨⟨by decide +kernel, by decide +kernel⟩, List.mem_of_getElem? (i := 175) (by decide +kernel), List.mem_of_getElem? (i := 637) (by decide +kernel), List.mem_of_getElem? (i := 638) (by decide +kernel)⟩
theorem lw_p6 : lw_okq (⟨"PuzzleWed$LawReader", "readEither", "(I)Z"⟩, 5) := ⟨⟨by decide +kernel, by decide +kernel⟩, List.mem_of_getElem? (i := 175) (by decide +kernel), List.mem_of_getElem? (i := 646) (by decide +kernel), List.mem_of_getElem? (i := 647) (by decide +kernel)⟩
theorem lw_p7 : lw_okq (⟨"PuzzleWed$LawReader", "readBoth", "(I)Z"⟩, 5) := ⟨⟨by decide +kernel, by decide +kernel⟩, List.mem_of_getElem? (i := 175) (by decide +kernel), List.mem_of_getElem? (i := 650) (by decide +kernel), List.mem_of_getElem? (i := 651) (by decide +kernel)⟩
theorem lw_p8 : lw_okq (⟨"PuzzleWed$LawReader", "readTest", "(I)Z"⟩, 5) := ⟨⟨by decide +kernel, by decide +kernel⟩, List.mem_of_getElem? (i := 175) (by decide +kernel), List.mem_of_getElem? (i := 654) (by decide +kernel), List.mem_of_getElem? (i := 655) (by decide +kernel)⟩
theorem lw_p9 : lw_okq (⟨"PuzzleWed$LawReader", "readInner", "(II)Z"⟩, 5) := ⟨⟨by decide +kernel, by decide +kernel⟩, List.mem_of_getElem? (i := 175) (by decide +kernel), List.mem_of_getElem? (i := 658) (by decide +kernel), List.mem_of_getElem? (i := 659) (by decide +kernel)⟩
theorem lw_p10 : lw_okq (⟨"PuzzleWed$LawReader", "emitJump", "(II)I"⟩, 5) := ⟨⟨by decide +kernel, by decide +kernel⟩, List.mem_of_getElem? (i := 175) (by decide +kernel), List.mem_of_getElem? (i := 662) (by decide +kernel), List.mem_of_getElem? (i := 663) (by decide +kernel)⟩
theorem lw_p11 : lw_okq (⟨"PuzzleWed$LawReader", "land", "(I)V"⟩, 5) := ⟨⟨by decide +kernel, by decide +kernel⟩, List.mem_of_getElem? (i := 175) (by decide +kernel), List.mem_of_getElem? (i := 666) (by decide +kernel), List.mem_of_getElem? (i := 667) (by decide +kernel)⟩
theorem lw_p12 : lw_okq (⟨"PuzzleWed$ListReader", "readHeight", "()Z"⟩, 8) := ⟨⟨by decide +kernel, by decide +kernel⟩, List.mem_of_getElem? (i := 210) (by decide +kernel), List.mem_of_getElem? (i := 689) (by decide +kernel), List.mem_of_getElem? (i := 690) (by decide +kernel)⟩
theorem lw_p13 : lw_okq (⟨"PuzzleWed$ListReader", "readTimes", "(I)Z"⟩, 8) := ⟨⟨by decide +kernel, by decide +kernel⟩, List.mem_of_getElem? (i := 210) (by decide +kernel), List.mem_of_getElem? (i := 699) (by decide +kernel), List.mem_of_getElem? (i := 700) (by decide +kernel)⟩
theorem lw_p14 : lw_okq (⟨"PuzzleWed$ListReader", "put", "()V"⟩, 8) := ⟨⟨by decide +kernel, by decide +kernel⟩, List.mem_of_getElem? (i := 210) (by decide +kernel), List.mem_of_getElem? (i := 707) (by decide +kernel), List.mem_of_getElem? (i := 708) (by decide +kernel)⟩
theorem lw_p15 : lw_okq (⟨"PuzzleWed$Course", "travel", "(LPuzzleWed$Land;)V"⟩, 4) := ⟨⟨by decide +kernel, by decide +kernel⟩, List.mem_of_getElem? (i := 248) (by decide +kernel), List.mem_of_getElem? (i := 734) (by decide +kernel), List.mem_of_getElem? (i := 735) (by decide +kernel)⟩
def lw_privs_1 : List (MethodName × Nat) := [(⟨"PuzzleWed$LawReader", "readClause", "()Z"⟩, 5), (⟨"PuzzleWed$LawReader", "readSum", "(I)Z"⟩, 5), (⟨"PuzzleWed$LawReader", "readProduct", "(I)Z"⟩, 5), (⟨"PuzzleWed$LawReader", "readFactor", "(I)Z"⟩, 5), (⟨"PuzzleWed$LawReader", "pass", "(I)Z"⟩, 5), (⟨"PuzzleWed$LawReader", "readNumber", "()Z"⟩, 5), (⟨"PuzzleWed$LawReader", "readEither", "(I)Z"⟩, 5), (⟨"PuzzleWed$LawReader", "readBoth", "(I)Z"⟩, 5), (⟨"PuzzleWed$LawReader", "readTest", "(I)Z"⟩, 5), (⟨"PuzzleWed$LawReader", "readInner", "(II)Z"⟩, 5), (⟨"PuzzleWed$LawReader", "emitJump", "(II)I"⟩, 5), (⟨"PuzzleWed$LawReader", "land", "(I)V"⟩, 5), (⟨"PuzzleWed$ListReader", "readHeight", "()Z"⟩, 8), (⟨"PuzzleWed$ListReader", "readTimes", "(I)Z"⟩, 8), (⟨"PuzzleWed$ListReader", "put", "()V"⟩, 8), (⟨"PuzzleWed$Course", "travel", "(LPuzzleWed$Land;)V"⟩, 4)]
theorem lw_r1 : ∀ q ∈ lw_privs_1, lw_okq q := List.forall_mem_cons.mpr ⟨lw_p0, List.forall_mem_cons.mpr ⟨lw_p1, List.forall_mem_cons.mpr ⟨lw_p2, List.forall_mem_cons.mpr ⟨lw_p3, List.forall_mem_cons.mpr ⟨lw_p4, List.forall_mem_cons.mpr ⟨lw_p5, List.forall_mem_cons.mpr ⟨lw_p6, List.forall_mem_cons.mpr ⟨lw_p7, List.forall_mem_cons.mpr ⟨lw_p8, List.forall_mem_cons.mpr ⟨lw_p9, List.forall_mem_cons.mpr ⟨lw_p10, List.forall_mem_cons.mpr ⟨lw_p11, List.forall_mem_cons.mpr ⟨lw_p12, List.forall_mem_cons.mpr ⟨lw_p13, List.forall_mem_cons.mpr ⟨lw_p14, List.forall_mem_cons.mpr ⟨lw_p15, fun _ h => absurd h List.not_mem_nil⟩⟩⟩⟩⟩⟩⟩⟩⟩⟩⟩⟩⟩⟩⟩⟩
theorem lw_p16 : lw_okq (⟨"PuzzleWed$Course", "meet", "(LPuzzleWed$Land;)V"⟩, 4) := ⟨⟨by decide +kernel, by decide +kernel⟩, List.mem_of_getElem? (i := 248) (by decide +kernel), List.mem_of_getElem? (i := 739) (by decide +kernel), List.mem_of_getElem? (i := 740) (by decide +kernel)⟩
theorem lw_p17 : lw_okq (⟨"PuzzleWed$Judge", "fill", "(LPuzzleWed$Land;III)V"⟩, 2) := ⟨⟨by decide +kernel, by decide +kernel⟩, List.mem_of_getElem? (i := 235) (by decide +kernel), List.mem_of_getElem? (i := 780) (by decide +kernel), List.mem_of_getElem? (i := 781) (by decide +kernel)⟩
theorem lw_p18 : lw_okq (⟨"PuzzleWed$Course", "strain", "(LPuzzleWed$Land;)V"⟩, 4) := ⟨⟨by decide +kernel, by decide +kernel⟩, List.mem_of_getElem? (i := 248) (by decide +kernel), List.mem_of_getElem? (i := 817) (by decide +kernel), List.mem_of_getElem? (i := 818) (by decide +kernel)⟩
theorem lw_p19 : lw_okq (⟨"PuzzleWed", "whomItFits", "(I)I"⟩, 15) := ⟨⟨by decide +kernel, by decide +kernel⟩, List.mem_of_getElem? (i := 24) (by decide +kernel), List.mem_of_getElem? (i := 849) (by decide +kernel), List.mem_of_getElem? (i := 850) (by decide +kernel)⟩
theorem lw_p20 : lw_okq (⟨"PuzzleWed", "fitsAbove", "(I)I"⟩, 15) := ⟨⟨by decide +kernel, by decide +kernel⟩, List.mem_of_getElem? (i := 24) (by decide +kernel), List.mem_of_getElem? (i := 871) (by decide +kernel), List.mem_of_getElem? (i := 872) (by decide +kernel)⟩
theorem lw_p21 : lw_okq (⟨"PuzzleWed$Couples", "gather", "(LPuzzleWed$Land;)V"⟩, 11) := ⟨⟨by decide +kernel, by decide +kernel⟩, List.mem_of_getElem? (i := 270) (by decide +kernel), List.mem_of_getElem? (i := 887) (by decide +kernel), List.mem_of_getElem? (i := 888) (by decide +kernel)⟩
theorem lw_p22 : lw_okq (⟨"PuzzleWed$Couples", "weighAll", "()V"⟩, 11) := ⟨⟨by decide +kernel, by decide +kernel⟩, List.mem_of_getElem? (i := 270) (by decide +kernel), List.mem_of_getElem? (i := 894) (by decide +kernel), List.mem_of_getElem? (i := 895) (by decide +kernel)⟩
theorem lw_p23 : lw_okq (⟨"PuzzleWed$Couples", "setBest", "(III)V"⟩, 11) := ⟨⟨by decide +kernel, by decide +kernel⟩, List.mem_of_getElem? (i := 270) (by decide +kernel), List.mem_of_getElem? (i := 898) (by decide +kernel), List.mem_of_getElem? (i := 899) (by decide +kernel)⟩
theorem lw_p24 : lw_okq (⟨"PuzzleWed$Couples", "bestOf", "(II)I"⟩, 11) := ⟨⟨by decide +kernel, by decide +kernel⟩, List.mem_of_getElem? (i := 270) (by decide +kernel), List.mem_of_getElem? (i := 902) (by decide +kernel), List.mem_of_getElem? (i := 903) (by decide +kernel)⟩
theorem lw_p25 : lw_okq (⟨"PuzzleWed$Couples", "withBond", "(III)I"⟩, 11) := ⟨⟨by decide +kernel, by decide +kernel⟩, List.mem_of_getElem? (i := 270) (by decide +kernel), List.mem_of_getElem? (i := 906) (by decide +kernel), List.mem_of_getElem? (i := 907) (by decide +kernel)⟩
theorem lw_p26 : lw_okq (⟨"PuzzleWed$Couples", "choose", "(II)I"⟩, 11) := ⟨⟨by decide +kernel, by decide +kernel⟩, List.mem_of_getElem? (i := 270) (by decide +kernel), List.mem_of_getElem? (i := 911) (by decide +kernel), List.mem_of_getElem? (i := 912) (by decide +kernel)⟩
theorem lw_p27 : lw_okq (⟨"PuzzleWed$Couples", "askNext", "(I)Z"⟩, 11) := ⟨⟨by decide +kernel, by decide +kernel⟩, List.mem_of_getElem? (i := 270) (by decide +kernel), List.mem_of_getElem? (i := 924) (by decide +kernel), List.mem_of_getElem? (i := 925) (by decide +kernel)⟩
theorem lw_p28 : lw_okq (⟨"PuzzleWed$Couples", "prefers", "(III)Z"⟩, 11) := ⟨⟨by decide +kernel, by decide +kernel⟩, List.mem_of_getElem? (i := 270) (by decide +kernel), List.mem_of_getElem? (i := 928) (by decide +kernel), List.mem_of_getElem? (i := 929) (by decide +kernel)⟩
theorem lw_p29 : lw_okq (⟨"PuzzleWed", "wouldLeave", "(II)Z"⟩, 15) := ⟨⟨by decide +kernel, by decide +kernel⟩, List.mem_of_getElem? (i := 24) (by decide +kernel), List.mem_of_getElem? (i := 936) (by decide +kernel), List.mem_of_getElem? (i := 937) (by decide +kernel)⟩
theorem lw_p30 : lw_okq (⟨"PuzzleWed", "likingNow", "(I)I"⟩, 15) := ⟨⟨by decide +kernel, by decide +kernel⟩, List.mem_of_getElem? (i := 24) (by decide +kernel), List.mem_of_getElem? (i := 940) (by decide +kernel), List.mem_of_getElem? (i := 941) (by decide +kernel)⟩
theorem lw_p31 : lw_okq (⟨"PuzzleWed$Search", "weigh", "()V"⟩, 8) := ⟨⟨by decide +kernel, by decide +kernel⟩, List.mem_of_getElem? (i := 314) (by decide +kernel), List.mem_of_getElem? (i := 958) (by decide +kernel), List.mem_of_getElem? (i := 959) (by decide +kernel)⟩
def lw_privs_2 : List (MethodName × Nat) := [(⟨"PuzzleWed$Course", "meet", "(LPuzzleWed$Land;)V"⟩, 4), (⟨"PuzzleWed$Judge", "fill", "(LPuzzleWed$Land;III)V"⟩, 2), (⟨"PuzzleWed$Course", "strain", "(LPuzzleWed$Land;)V"⟩, 4), (⟨"PuzzleWed", "whomItFits", "(I)I"⟩, 15), (⟨"PuzzleWed", "fitsAbove", "(I)I"⟩, 15), (⟨"PuzzleWed$Couples", "gather", "(LPuzzleWed$Land;)V"⟩, 11), (⟨"PuzzleWed$Couples", "weighAll", "()V"⟩, 11), (⟨"PuzzleWed$Couples", "setBest", "(III)V"⟩, 11), (⟨"PuzzleWed$Couples", "bestOf", "(II)I"⟩, 11), (⟨"PuzzleWed$Couples", "withBond", "(III)I"⟩, 11), (⟨"PuzzleWed$Couples", "choose", "(II)I"⟩, 11), (⟨"PuzzleWed$Couples", "askNext", "(I)Z"⟩, 11), (⟨"PuzzleWed$Couples", "prefers", "(III)Z"⟩, 11), (⟨"PuzzleWed", "wouldLeave", "(II)Z"⟩, 15), (⟨"PuzzleWed", "likingNow", "(I)I"⟩, 15), (⟨"PuzzleWed$Search", "weigh", "()V"⟩, 8)]
theorem lw_r2 : ∀ q ∈ lw_privs_2, lw_okq q := List.forall_mem_cons.mpr ⟨lw_p16, List.forall_mem_cons.mpr ⟨lw_p17, List.forall_mem_cons.mpr ⟨lw_p18, List.forall_mem_cons.mpr ⟨lw_p19, List.forall_mem_cons.mpr ⟨lw_p20, List.forall_mem_cons.mpr ⟨lw_p21, List.forall_mem_cons.mpr ⟨lw_p22, List.forall_mem_cons.mpr ⟨lw_p23, List.forall_mem_cons.mpr ⟨lw_p24, List.forall_mem_cons.mpr ⟨lw_p25, List.forall_mem_cons.mpr ⟨lw_p26, List.forall_mem_cons.mpr ⟨lw_p27, List.forall_mem_cons.mpr ⟨lw_p28, List.forall_mem_cons.mpr ⟨lw_p29, List.forall_mem_cons.mpr ⟨lw_p30, List.forall_mem_cons.mpr ⟨lw_p31, fun _ h => absurd h List.not_mem_nil⟩⟩⟩⟩⟩⟩⟩⟩⟩⟩⟩⟩⟩⟩⟩⟩
theorem lw_p32 : lw_okq (⟨"PuzzleWed$Search", "nextOrder", "()Z"⟩, 8) := ⟨⟨by decide +kernel, by decide +kernel⟩, List.mem_of_getElem? (i := 314) (by decide +kernel), List.mem_of_getElem? (i := 963) (by decide +kernel), List.mem_of_getElem? (i := 964) (by decide +kernel)⟩
theorem lw_p33 : lw_okq (⟨"PuzzleWed$Search", "swap", "(II)V"⟩, 8) := ⟨⟨by decide +kernel, by decide +kernel⟩, List.mem_of_getElem? (i := 314) (by decide +kernel), List.mem_of_getElem? (i := 967) (by decide +kernel), List.mem_of_getElem? (i := 968) (by decide +kernel)⟩
theorem lw_p34 : lw_okq (⟨"PuzzleWed$Search", "commonDivisor", "()I"⟩, 8) := ⟨⟨by decide +kernel, by decide +kernel⟩, List.mem_of_getElem? (i := 314) (by decide +kernel), List.mem_of_getElem? (i := 975) (by decide +kernel), List.mem_of_getElem? (i := 976) (by decide +kernel)⟩
theorem lw_p35 : lw_okq (⟨"PuzzleWed", "canSand", "(III)Z"⟩, 15) := ⟨⟨by decide +kernel, by decide +kernel⟩, List.mem_of_getElem? (i := 24) (by decide +kernel), List.mem_of_getElem? (i := 987) (by decide +kernel), List.mem_of_getElem? (i := 988) (by decide +kernel)⟩
theorem lw_p36 : lw_okq (⟨"PuzzleWed$Sander", "weigh", "(IIIJ)V"⟩, 11) := ⟨⟨by decide +kernel, by decide +kernel⟩, List.mem_of_getElem? (i := 347) (by decide +kernel), List.mem_of_getElem? (i := 1000) (by decide +kernel), List.mem_of_getElem? (i := 1001) (by decide +kernel)⟩
theorem lw_p37 : lw_okq (⟨"PuzzleWed$Sander", "bestHere", "(II)J"⟩, 11) := ⟨⟨by decide +kernel, by decide +kernel⟩, List.mem_of_getElem? (i := 347) (by decide +kernel), List.mem_of_getElem? (i := 1007) (by decide +kernel), List.mem_of_getElem? (i := 1008) (by decide +kernel)⟩
theorem lw_p38 : lw_okq (⟨"PuzzleWed$Sander", "leastOf", "(II)J"⟩, 11) := ⟨⟨by decide +kernel, by decide +kernel⟩, List.mem_of_getElem? (i := 347) (by decide +kernel), List.mem_of_getElem? (i := 1012) (by decide +kernel), List.mem_of_getElem? (i := 1013) (by decide +kernel)⟩
theorem lw_p39 : lw_okq (⟨"PuzzleWed$Sander", "read", "(J)V"⟩, 11) := ⟨⟨by decide +kernel, by decide +kernel⟩, List.mem_of_getElem? (i := 347) (by decide +kernel), List.mem_of_getElem? (i := 1020) (by decide +kernel), List.mem_of_getElem? (i := 1021) (by decide +kernel)⟩
theorem lw_p40 : lw_okq (⟨"PuzzleWed", "fitOthers", "(I[II)I"⟩, 15) := ⟨⟨by decide +kernel, by decide +kernel⟩, List.mem_of_getElem? (i := 24) (by decide +kernel), List.mem_of_getElem? (i := 1024) (by decide +kernel), List.mem_of_getElem? (i := 1025) (by decide +kernel)⟩
theorem lw_p41 : lw_okq (⟨"PuzzleWed", "rulesAll", "(II)Z"⟩, 15) := ⟨⟨by decide +kernel, by decide +kernel⟩, List.mem_of_getElem? (i := 24) (by decide +kernel), List.mem_of_getElem? (i := 1049) (by decide +kernel), List.mem_of_getElem? (i := 1050) (by decide +kernel)⟩
theorem lw_p42 : lw_okq (⟨"PuzzleWed", "cut", "(I[I)V"⟩, 15) := ⟨⟨by decide +kernel, by decide +kernel⟩, List.mem_of_getElem? (i := 24) (by decide +kernel), List.mem_of_getElem? (i := 1053) (by decide +kernel), List.mem_of_getElem? (i := 1054) (by decide +kernel)⟩
theorem lw_p43 : lw_okq (⟨"PuzzleWed", "madeBy", "(II)I"⟩, 15) := ⟨⟨by decide +kernel, by decide +kernel⟩, List.mem_of_getElem? (i := 24) (by decide +kernel), List.mem_of_getElem? (i := 1060) (by decide +kernel), List.mem_of_getElem? (i := 1061) (by decide +kernel)⟩
theorem lw_p44 : lw_okq (⟨"PuzzleWedModel", "isPerson", "(I)Z"⟩, 47) := ⟨⟨by decide +kernel, by decide +kernel⟩, List.mem_of_getElem? (i := 1097) (by decide +kernel), List.mem_of_getElem? (i := 1254) (by decide +kernel), List.mem_of_getElem? (i := 1255) (by decide +kernel)⟩
theorem lw_p45 : lw_okq (⟨"PuzzleWedModel", "lives", "(I)Z"⟩, 47) := ⟨⟨by decide +kernel, by decide +kernel⟩, List.mem_of_getElem? (i := 1097) (by decide +kernel), List.mem_of_getElem? (i := 1272) (by decide +kernel), List.mem_of_getElem? (i := 1273) (by decide +kernel)⟩
theorem lw_p46 : lw_okq (⟨"PuzzleWedModel", "parts", "(I)V"⟩, 47) := ⟨⟨by decide +kernel, by decide +kernel⟩, List.mem_of_getElem? (i := 1097) (by decide +kernel), List.mem_of_getElem? (i := 1276) (by decide +kernel), List.mem_of_getElem? (i := 1277) (by decide +kernel)⟩
theorem lw_p47 : lw_okq (⟨"PuzzleWedModel", "isFree", "(I)Z"⟩, 47) := ⟨⟨by decide +kernel, by decide +kernel⟩, List.mem_of_getElem? (i := 1097) (by decide +kernel), List.mem_of_getElem? (i := 1284) (by decide +kernel), List.mem_of_getElem? (i := 1285) (by decide +kernel)⟩
def lw_privs_3 : List (MethodName × Nat) := [(⟨"PuzzleWed$Search", "nextOrder", "()Z"⟩, 8), (⟨"PuzzleWed$Search", "swap", "(II)V"⟩, 8), (⟨"PuzzleWed$Search", "commonDivisor", "()I"⟩, 8), (⟨"PuzzleWed", "canSand", "(III)Z"⟩, 15), (⟨"PuzzleWed$Sander", "weigh", "(IIIJ)V"⟩, 11), (⟨"PuzzleWed$Sander", "bestHere", "(II)J"⟩, 11), (⟨"PuzzleWed$Sander", "leastOf", "(II)J"⟩, 11), (⟨"PuzzleWed$Sander", "read", "(J)V"⟩, 11), (⟨"PuzzleWed", "fitOthers", "(I[II)I"⟩, 15), (⟨"PuzzleWed", "rulesAll", "(II)Z"⟩, 15), (⟨"PuzzleWed", "cut", "(I[I)V"⟩, 15), (⟨"PuzzleWed", "madeBy", "(II)I"⟩, 15), (⟨"PuzzleWedModel", "isPerson", "(I)Z"⟩, 47), (⟨"PuzzleWedModel", "lives", "(I)Z"⟩, 47), (⟨"PuzzleWedModel", "parts", "(I)V"⟩, 47), (⟨"PuzzleWedModel", "isFree", "(I)Z"⟩, 47)]
theorem lw_r3 : ∀ q ∈ lw_privs_3, lw_okq q := List.forall_mem_cons.mpr ⟨lw_p32, List.forall_mem_cons.mpr ⟨lw_p33, List.forall_mem_cons.mpr ⟨lw_p34, List.forall_mem_cons.mpr ⟨lw_p35, List.forall_mem_cons.mpr ⟨lw_p36, List.forall_mem_cons.mpr ⟨lw_p37, List.forall_mem_cons.mpr ⟨lw_p38, List.forall_mem_cons.mpr ⟨lw_p39, List.forall_mem_cons.mpr ⟨lw_p40, List.forall_mem_cons.mpr ⟨lw_p41, List.forall_mem_cons.mpr ⟨lw_p42, List.forall_mem_cons.mpr ⟨lw_p43, List.forall_mem_cons.mpr ⟨lw_p44, List.forall_mem_cons.mpr ⟨lw_p45, List.forall_mem_cons.mpr ⟨lw_p46, List.forall_mem_cons.mpr ⟨lw_p47, fun _ h => absurd h List.not_mem_nil⟩⟩⟩⟩⟩⟩⟩⟩⟩⟩⟩⟩⟩⟩⟩⟩
theorem lw_p48 : lw_okq (⟨"PuzzleWedModel", "wedsTwo", "(II)V"⟩, 47) := ⟨⟨by decide +kernel, by decide +kernel⟩, List.mem_of_getElem? (i := 1097) (by decide +kernel), List.mem_of_getElem? (i := 1288) (by decide +kernel), List.mem_of_getElem? (i := 1289) (by decide +kernel)⟩
theorem lw_p49 : lw_okq (⟨"PuzzleWedModel", "types", "(I)V"⟩, 47) := ⟨⟨by decide +kernel, by decide +kernel⟩, List.mem_of_getElem? (i := 1097) (by decide +kernel), List.mem_of_getElem? (i := 1296) (by decide +kernel), List.mem_of_getElem? (i := 1297) (by decide +kernel)⟩
theorem lw_p50 : lw_okq (⟨"PuzzleWedModel", "readsClause", "()Z"⟩, 47) := ⟨⟨by decide +kernel, by decide +kernel⟩, List.mem_of_getElem? (i := 1097) (by decide +kernel), List.mem_of_getElem? (i := 1304) (by decide +kernel), List.mem_of_getElem? (i := 1305) (by decide +kernel)⟩
theorem lw_p51 : lw_okq (⟨"PuzzleWedModel", "here", "()I"⟩, 47) := ⟨⟨by decide +kernel, by decide +kernel⟩, List.mem_of_getElem? (i := 1097) (by decide +kernel), List.mem_of_getElem? (i := 1308) (by decide +kernel), List.mem_of_getElem? (i := 1309) (by decide +kernel)⟩
theorem lw_p52 : lw_okq (⟨"PuzzleWedModel", "wrongAt", "(II)Z"⟩, 47) := ⟨⟨by decide +kernel, by decide +kernel⟩, List.mem_of_getElem? (i := 1097) (by decide +kernel), List.mem_of_getElem? (i := 1315) (by decide +kernel), List.mem_of_getElem? (i := 1316) (by decide +kernel)⟩
theorem lw_p53 : lw_okq (⟨"PuzzleWedModel", "readsSum", "()Z"⟩, 47) := ⟨⟨by decide +kernel, by decide +kernel⟩, List.mem_of_getElem? (i := 1097) (by decide +kernel), List.mem_of_getElem? (i := 1319) (by decide +kernel), List.mem_of_getElem? (i := 1320) (by decide +kernel)⟩
theorem lw_p54 : lw_okq (⟨"PuzzleWedModel", "readsFactor", "()Z"⟩, 47) := ⟨⟨by decide +kernel, by decide +kernel⟩, List.mem_of_getElem? (i := 1097) (by decide +kernel), List.mem_of_getElem? (i := 1323) (by decide +kernel), List.mem_of_getElem? (i := 1324) (by decide +kernel)⟩
theorem lw_p55 : lw_okq (⟨"PuzzleWedModel", "opens", "(I)Z"⟩, 47) := ⟨⟨by decide +kernel, by decide +kernel⟩, List.mem_of_getElem? (i := 1097) (by decide +kernel), List.mem_of_getElem? (i := 1327) (by decide +kernel), List.mem_of_getElem? (i := 1328) (by decide +kernel)⟩
theorem lw_p56 : lw_okq (⟨"PuzzleWedModel", "isDigit", "()Z"⟩, 47) := ⟨⟨by decide +kernel, by decide +kernel⟩, List.mem_of_getElem? (i := 1097) (by decide +kernel), List.mem_of_getElem? (i := 1332) (by decide +kernel), List.mem_of_getElem? (i := 1333) (by decide +kernel)⟩
theorem lw_p57 : lw_okq (⟨"PuzzleWedModel", "readsNumber", "()Z"⟩, 47) := ⟨⟨by decide +kernel, by decide +kernel⟩, List.mem_of_getElem? (i := 1097) (by decide +kernel), List.mem_of_getElem? (i := 1336) (by decide +kernel), List.mem_of_getElem? (i := 1337) (by decide +kernel)⟩
theorem lw_p58 : lw_okq (⟨"PuzzleWedModel", "notes", "(II)V"⟩, 47) := ⟨⟨by decide +kernel, by decide +kernel⟩, List.mem_of_getElem? (i := 1097) (by decide +kernel), List.mem_of_getElem? (i := 1340) (by decide +kernel), List.mem_of_getElem? (i := 1341) (by decide +kernel)⟩
theorem lw_p59 : lw_okq (⟨"PuzzleWedModel", "closesSums", "(Z)V"⟩, 47) := ⟨⟨by decide +kernel, by decide +kernel⟩, List.mem_of_getElem? (i := 1097) (by decide +kernel), List.mem_of_getElem? (i := 1350) (by decide +kernel), List.mem_of_getElem? (i := 1351) (by decide +kernel)⟩
theorem lw_p60 : lw_okq (⟨"PuzzleWedModel", "waitTop", "()I"⟩, 47) := ⟨⟨by decide +kernel, by decide +kernel⟩, List.mem_of_getElem? (i := 1097) (by decide +kernel), List.mem_of_getElem? (i := 1354) (by decide +kernel), List.mem_of_getElem? (i := 1355) (by decide +kernel)⟩
theorem lw_p61 : lw_okq (⟨"PuzzleWedModel", "hasOpenSum", "(I)Z"⟩, 47) := ⟨⟨by decide +kernel, by decide +kernel⟩, List.mem_of_getElem? (i := 1097) (by decide +kernel), List.mem_of_getElem? (i := 1358) (by decide +kernel), List.mem_of_getElem? (i := 1359) (by decide +kernel)⟩
theorem lw_p62 : lw_okq (⟨"PuzzleWedModel", "readsCondition", "()Z"⟩, 47) := ⟨⟨by decide +kernel, by decide +kernel⟩, List.mem_of_getElem? (i := 1097) (by decide +kernel), List.mem_of_getElem? (i := 1362) (by decide +kernel), List.mem_of_getElem? (i := 1363) (by decide +kernel)⟩
theorem lw_p63 : lw_okq (⟨"PuzzleWedModel", "readsCompared", "()Z"⟩, 47) := ⟨⟨by decide +kernel, by decide +kernel⟩, List.mem_of_getElem? (i := 1097) (by decide +kernel), List.mem_of_getElem? (i := 1366) (by decide +kernel), List.mem_of_getElem? (i := 1367) (by decide +kernel)⟩
def lw_privs_4 : List (MethodName × Nat) := [(⟨"PuzzleWedModel", "wedsTwo", "(II)V"⟩, 47), (⟨"PuzzleWedModel", "types", "(I)V"⟩, 47), (⟨"PuzzleWedModel", "readsClause", "()Z"⟩, 47), (⟨"PuzzleWedModel", "here", "()I"⟩, 47), (⟨"PuzzleWedModel", "wrongAt", "(II)Z"⟩, 47), (⟨"PuzzleWedModel", "readsSum", "()Z"⟩, 47), (⟨"PuzzleWedModel", "readsFactor", "()Z"⟩, 47), (⟨"PuzzleWedModel", "opens", "(I)Z"⟩, 47), (⟨"PuzzleWedModel", "isDigit", "()Z"⟩, 47), (⟨"PuzzleWedModel", "readsNumber", "()Z"⟩, 47), (⟨"PuzzleWedModel", "notes", "(II)V"⟩, 47), (⟨"PuzzleWedModel", "closesSums", "(Z)V"⟩, 47), (⟨"PuzzleWedModel", "waitTop", "()I"⟩, 47), (⟨"PuzzleWedModel", "hasOpenSum", "(I)Z"⟩, 47), (⟨"PuzzleWedModel", "readsCondition", "()Z"⟩, 47), (⟨"PuzzleWedModel", "readsCompared", "()Z"⟩, 47)]
theorem lw_r4 : ∀ q ∈ lw_privs_4, lw_okq q := List.forall_mem_cons.mpr ⟨lw_p48, List.forall_mem_cons.mpr ⟨lw_p49, List.forall_mem_cons.mpr ⟨lw_p50, List.forall_mem_cons.mpr ⟨lw_p51, List.forall_mem_cons.mpr ⟨lw_p52, List.forall_mem_cons.mpr ⟨lw_p53, List.forall_mem_cons.mpr ⟨lw_p54, List.forall_mem_cons.mpr ⟨lw_p55, List.forall_mem_cons.mpr ⟨lw_p56, List.forall_mem_cons.mpr ⟨lw_p57, List.forall_mem_cons.mpr ⟨lw_p58, List.forall_mem_cons.mpr ⟨lw_p59, List.forall_mem_cons.mpr ⟨lw_p60, List.forall_mem_cons.mpr ⟨lw_p61, List.forall_mem_cons.mpr ⟨lw_p62, List.forall_mem_cons.mpr ⟨lw_p63, fun _ h => absurd h List.not_mem_nil⟩⟩⟩⟩⟩⟩⟩⟩⟩⟩⟩⟩⟩⟩⟩⟩
theorem lw_p64 : lw_okq (⟨"PuzzleWedModel", "endsPiece", "()V"⟩, 47) := ⟨⟨by decide +kernel, by decide +kernel⟩, List.mem_of_getElem? (i := 1097) (by decide +kernel), List.mem_of_getElem? (i := 1370) (by decide +kernel), List.mem_of_getElem? (i := 1371) (by decide +kernel)⟩
theorem lw_p65 : lw_okq (⟨"PuzzleWedModel", "lands", "(Z)V"⟩, 47) := ⟨⟨by decide +kernel, by decide +kernel⟩, List.mem_of_getElem? (i := 1097) (by decide +kernel), List.mem_of_getElem? (i := 1374) (by decide +kernel), List.mem_of_getElem? (i := 1375) (by decide +kernel)⟩
theorem lw_p66 : lw_okq (⟨"PuzzleWedModel", "jumps", "(I)V"⟩, 47) := ⟨⟨by decide +kernel, by decide +kernel⟩, List.mem_of_getElem? (i := 1097) (by decide +kernel), List.mem_of_getElem? (i := 1378) (by decide +kernel), List.mem_of_getElem? (i := 1379) (by decide +kernel)⟩
theorem lw_p67 : lw_okq (⟨"PuzzleWedModel", "takes", "(I)Z"⟩, 47) := ⟨⟨by decide +kernel, by decide +kernel⟩, List.mem_of_getElem? (i := 1097) (by decide +kernel), List.mem_of_getElem? (i := 1382) (by decide +kernel), List.mem_of_getElem? (i := 1383) (by decide +kernel)⟩
theorem lw_p68 : lw_okq (⟨"PuzzleWedModel", "readsHeight", "()Z"⟩, 47) := ⟨⟨by decide +kernel, by decide +kernel⟩, List.mem_of_getElem? (i := 1097) (by decide +kernel), List.mem_of_getElem? (i := 1390) (by decide +kernel), List.mem_of_getElem? (i := 1391) (by decide +kernel)⟩
theorem lw_p69 : lw_okq (⟨"PuzzleWedModel", "readsStop", "()Z"⟩, 47) := ⟨⟨by decide +kernel, by decide +kernel⟩, List.mem_of_getElem? (i := 1097) (by decide +kernel), List.mem_of_getElem? (i := 1401) (by decide +kernel), List.mem_of_getElem? (i := 1402) (by decide +kernel)⟩
theorem lw_p70 : lw_okq (⟨"PuzzleWedModel", "daysGo", "(I)V"⟩, 47) := ⟨⟨by decide +kernel, by decide +kernel⟩, List.mem_of_getElem? (i := 1097) (by decide +kernel), List.mem_of_getElem? (i := 1409) (by decide +kernel), List.mem_of_getElem? (i := 1410) (by decide +kernel)⟩
theorem lw_p71 : lw_okq (⟨"PuzzleWedModel", "travels", "(I)V"⟩, 47) := ⟨⟨by decide +kernel, by decide +kernel⟩, List.mem_of_getElem? (i := 1097) (by decide +kernel), List.mem_of_getElem? (i := 1413) (by decide +kernel), List.mem_of_getElem? (i := 1414) (by decide +kernel)⟩
theorem lw_p72 : lw_okq (⟨"PuzzleWedModel", "triesIn", "(II)V"⟩, 47) := ⟨⟨by decide +kernel, by decide +kernel⟩, List.mem_of_getElem? (i := 1097) (by decide +kernel), List.mem_of_getElem? (i := 1417) (by decide +kernel), List.mem_of_getElem? (i := 1418) (by decide +kernel)⟩
theorem lw_p73 : lw_okq (⟨"PuzzleWedModel", "haveTried", "(II)V"⟩, 47) := ⟨⟨by decide +kernel, by decide +kernel⟩, List.mem_of_getElem? (i := 1097) (by decide +kernel), List.mem_of_getElem? (i := 1421) (by decide +kernel), List.mem_of_getElem? (i := 1422) (by decide +kernel)⟩
theorem lw_p74 : lw_okq (⟨"PuzzleWedModel", "fit", "(II)Z"⟩, 47) := ⟨⟨by decide +kernel, by decide +kernel⟩, List.mem_of_getElem? (i := 1097) (by decide +kernel), List.mem_of_getElem? (i := 1425) (by decide +kernel), List.mem_of_getElem? (i := 1426) (by decide +kernel)⟩
theorem lw_p75 : lw_okq (⟨"PuzzleWedModel", "slackBy", "(II)I"⟩, 47) := ⟨⟨by decide +kernel, by decide +kernel⟩, List.mem_of_getElem? (i := 1097) (by decide +kernel), List.mem_of_getElem? (i := 1429) (by decide +kernel), List.mem_of_getElem? (i := 1430) (by decide +kernel)⟩
theorem lw_p76 : lw_okq (⟨"PuzzleWedModel", "slackOf", "(II)I"⟩, 47) := ⟨⟨by decide +kernel, by decide +kernel⟩, List.mem_of_getElem? (i := 1097) (by decide +kernel), List.mem_of_getElem? (i := 1434) (by decide +kernel), List.mem_of_getElem? (i := 1435) (by decide +kernel)⟩
theorem lw_p77 : lw_okq (⟨"PuzzleWedModel", "heightOf", "(II)I"⟩, 47) := ⟨⟨by decide +kernel, by decide +kernel⟩, List.mem_of_getElem? (i := 1097) (by decide +kernel), List.mem_of_getElem? (i := 1438) (by decide +kernel), List.mem_of_getElem? (i := 1439) (by decide +kernel)⟩
theorem lw_p78 : lw_okq (⟨"PuzzleWedModel", "allowed", "(II)I"⟩, 47) := ⟨⟨by decide +kernel, by decide +kernel⟩, List.mem_of_getElem? (i := 1097) (by decide +kernel), List.mem_of_getElem? (i := 1448) (by decide +kernel), List.mem_of_getElem? (i := 1449) (by decide +kernel)⟩
theorem lw_p79 : lw_okq (⟨"PuzzleWedModel", "feels", "(III)V"⟩, 47) := ⟨⟨by decide +kernel, by decide +kernel⟩, List.mem_of_getElem? (i := 1097) (by decide +kernel), List.mem_of_getElem? (i := 1452) (by decide +kernel), List.mem_of_getElem? (i := 1453) (by decide +kernel)⟩
def lw_privs_5 : List (MethodName × Nat) := [(⟨"PuzzleWedModel", "endsPiece", "()V"⟩, 47), (⟨"PuzzleWedModel", "lands", "(Z)V"⟩, 47), (⟨"PuzzleWedModel", "jumps", "(I)V"⟩, 47), (⟨"PuzzleWedModel", "takes", "(I)Z"⟩, 47), (⟨"PuzzleWedModel", "readsHeight", "()Z"⟩, 47), (⟨"PuzzleWedModel", "readsStop", "()Z"⟩, 47), (⟨"PuzzleWedModel", "daysGo", "(I)V"⟩, 47), (⟨"PuzzleWedModel", "travels", "(I)V"⟩, 47), (⟨"PuzzleWedModel", "triesIn", "(II)V"⟩, 47), (⟨"PuzzleWedModel", "haveTried", "(II)V"⟩, 47), (⟨"PuzzleWedModel", "fit", "(II)Z"⟩, 47), (⟨"PuzzleWedModel", "slackBy", "(II)I"⟩, 47), (⟨"PuzzleWedModel", "slackOf", "(II)I"⟩, 47), (⟨"PuzzleWedModel", "heightOf", "(II)I"⟩, 47), (⟨"PuzzleWedModel", "allowed", "(II)I"⟩, 47), (⟨"PuzzleWedModel", "feels", "(III)V"⟩, 47)]
theorem lw_r5 : ∀ q ∈ lw_privs_5, lw_okq q := List.forall_mem_cons.mpr ⟨lw_p64, List.forall_mem_cons.mpr ⟨lw_p65, List.forall_mem_cons.mpr ⟨lw_p66, List.forall_mem_cons.mpr ⟨lw_p67, List.forall_mem_cons.mpr ⟨lw_p68, List.forall_mem_cons.mpr ⟨lw_p69, List.forall_mem_cons.mpr ⟨lw_p70, List.forall_mem_cons.mpr ⟨lw_p71, List.forall_mem_cons.mpr ⟨lw_p72, List.forall_mem_cons.mpr ⟨lw_p73, List.forall_mem_cons.mpr ⟨lw_p74, List.forall_mem_cons.mpr ⟨lw_p75, List.forall_mem_cons.mpr ⟨lw_p76, List.forall_mem_cons.mpr ⟨lw_p77, List.forall_mem_cons.mpr ⟨lw_p78, List.forall_mem_cons.mpr ⟨lw_p79, fun _ h => absurd h List.not_mem_nil⟩⟩⟩⟩⟩⟩⟩⟩⟩⟩⟩⟩⟩⟩⟩⟩
theorem lw_p80 : lw_okq (⟨"PuzzleWedModel", "byLaw", "(II)I"⟩, 47) := ⟨⟨by decide +kernel, by decide +kernel⟩, List.mem_of_getElem? (i := 1097) (by decide +kernel), List.mem_of_getElem? (i := 1459) (by decide +kernel), List.mem_of_getElem? (i := 1460) (by decide +kernel)⟩
theorem lw_p81 : lw_okq (⟨"PuzzleWedModel", "comesTo", "(II)I"⟩, 47) := ⟨⟨by decide +kernel, by decide +kernel⟩, List.mem_of_getElem? (i := 1097) (by decide +kernel), List.mem_of_getElem? (i := 1463) (by decide +kernel), List.mem_of_getElem? (i := 1464) (by decide +kernel)⟩
theorem lw_p82 : lw_okq (⟨"PuzzleWedModel", "wearsBy", "(II)I"⟩, 47) := ⟨⟨by decide +kernel, by decide +kernel⟩, List.mem_of_getElem? (i := 1097) (by decide +kernel), List.mem_of_getElem? (i := 1470) (by decide +kernel), List.mem_of_getElem? (i := 1471) (by decide +kernel)⟩
theorem lw_p83 : lw_okq (⟨"PuzzleWedModel", "wearsAll", "(II)V"⟩, 47) := ⟨⟨by decide +kernel, by decide +kernel⟩, List.mem_of_getElem? (i := 1097) (by decide +kernel), List.mem_of_getElem? (i := 1474) (by decide +kernel), List.mem_of_getElem? (i := 1475) (by decide +kernel)⟩
theorem lw_p84 : lw_okq (⟨"PuzzleWedModel", "creak", "(I)V"⟩, 47) := ⟨⟨by decide +kernel, by decide +kernel⟩, List.mem_of_getElem? (i := 1097) (by decide +kernel), List.mem_of_getElem? (i := 1478) (by decide +kernel), List.mem_of_getElem? (i := 1479) (by decide +kernel)⟩
theorem lw_p85 : lw_okq (⟨"PuzzleWedModel", "draws", "()I"⟩, 47) := ⟨⟨by decide +kernel, by decide +kernel⟩, List.mem_of_getElem? (i := 1097) (by decide +kernel), List.mem_of_getElem? (i := 1482) (by decide +kernel), List.mem_of_getElem? (i := 1483) (by decide +kernel)⟩
theorem lw_p86 : lw_okq (⟨"PuzzleWedModel", "wedTwos", "()I"⟩, 47) := ⟨⟨by decide +kernel, by decide +kernel⟩, List.mem_of_getElem? (i := 1097) (by decide +kernel), List.mem_of_getElem? (i := 1494) (by decide +kernel), List.mem_of_getElem? (i := 1495) (by decide +kernel)⟩
theorem lw_p87 : lw_okq (⟨"PuzzleWedModel", "fitting", "(I)I"⟩, 47) := ⟨⟨by decide +kernel, by decide +kernel⟩, List.mem_of_getElem? (i := 1097) (by decide +kernel), List.mem_of_getElem? (i := 1502) (by decide +kernel), List.mem_of_getElem? (i := 1503) (by decide +kernel)⟩
theorem lw_p88 : lw_okq (⟨"PuzzleWedModel", "likes", "(II)I"⟩, 47) := ⟨⟨by decide +kernel, by decide +kernel⟩, List.mem_of_getElem? (i := 1097) (by decide +kernel), List.mem_of_getElem? (i := 1514) (by decide +kernel), List.mem_of_getElem? (i := 1515) (by decide +kernel)⟩
theorem lw_p89 : lw_okq (⟨"PuzzleWedModel", "laysFits", "()V"⟩, 47) := ⟨⟨by decide +kernel, by decide +kernel⟩, List.mem_of_getElem? (i := 1097) (by decide +kernel), List.mem_of_getElem? (i := 1522) (by decide +kernel), List.mem_of_getElem? (i := 1523) (by decide +kernel)⟩
theorem lw_p90 : lw_okq (⟨"PuzzleWedModel", "isOne", "(II)Z"⟩, 47) := ⟨⟨by decide +kernel, by decide +kernel⟩, List.mem_of_getElem? (i := 1097) (by decide +kernel), List.mem_of_getElem? (i := 1530) (by decide +kernel), List.mem_of_getElem? (i := 1531) (by decide +kernel)⟩
theorem lw_p91 : lw_okq (⟨"PuzzleWedModel", "laysMost", "()V"⟩, 47) := ⟨⟨by decide +kernel, by decide +kernel⟩, List.mem_of_getElem? (i := 1097) (by decide +kernel), List.mem_of_getElem? (i := 1534) (by decide +kernel), List.mem_of_getElem? (i := 1535) (by decide +kernel)⟩
theorem lw_p92 : lw_okq (⟨"PuzzleWedModel", "mayGet", "(III)Z"⟩, 47) := ⟨⟨by decide +kernel, by decide +kernel⟩, List.mem_of_getElem? (i := 1097) (by decide +kernel), List.mem_of_getElem? (i := 1539) (by decide +kernel), List.mem_of_getElem? (i := 1540) (by decide +kernel)⟩
theorem lw_p93 : lw_okq (⟨"PuzzleWedModel", "getsBy", "(I)I"⟩, 47) := ⟨⟨by decide +kernel, by decide +kernel⟩, List.mem_of_getElem? (i := 1097) (by decide +kernel), List.mem_of_getElem? (i := 1543) (by decide +kernel), List.mem_of_getElem? (i := 1544) (by decide +kernel)⟩
theorem lw_p94 : lw_okq (⟨"PuzzleWedModel", "laysStable", "()V"⟩, 47) := ⟨⟨by decide +kernel, by decide +kernel⟩, List.mem_of_getElem? (i := 1097) (by decide +kernel), List.mem_of_getElem? (i := 1551) (by decide +kernel), List.mem_of_getElem? (i := 1552) (by decide +kernel)⟩
theorem lw_p95 : lw_okq (⟨"PuzzleWedModel", "nextAsked", "(I)I"⟩, 47) := ⟨⟨by decide +kernel, by decide +kernel⟩, List.mem_of_getElem? (i := 1097) (by decide +kernel), List.mem_of_getElem? (i := 1555) (by decide +kernel), List.mem_of_getElem? (i := 1556) (by decide +kernel)⟩
def lw_privs_6 : List (MethodName × Nat) := [(⟨"PuzzleWedModel", "byLaw", "(II)I"⟩, 47), (⟨"PuzzleWedModel", "comesTo", "(II)I"⟩, 47), (⟨"PuzzleWedModel", "wearsBy", "(II)I"⟩, 47), (⟨"PuzzleWedModel", "wearsAll", "(II)V"⟩, 47), (⟨"PuzzleWedModel", "creak", "(I)V"⟩, 47), (⟨"PuzzleWedModel", "draws", "()I"⟩, 47), (⟨"PuzzleWedModel", "wedTwos", "()I"⟩, 47), (⟨"PuzzleWedModel", "fitting", "(I)I"⟩, 47), (⟨"PuzzleWedModel", "likes", "(II)I"⟩, 47), (⟨"PuzzleWedModel", "laysFits", "()V"⟩, 47), (⟨"PuzzleWedModel", "isOne", "(II)Z"⟩, 47), (⟨"PuzzleWedModel", "laysMost", "()V"⟩, 47), (⟨"PuzzleWedModel", "mayGet", "(III)Z"⟩, 47), (⟨"PuzzleWedModel", "getsBy", "(I)I"⟩, 47), (⟨"PuzzleWedModel", "laysStable", "()V"⟩, 47), (⟨"PuzzleWedModel", "nextAsked", "(I)I"⟩, 47)]
theorem lw_r6 : ∀ q ∈ lw_privs_6, lw_okq q := List.forall_mem_cons.mpr ⟨lw_p80, List.forall_mem_cons.mpr ⟨lw_p81, List.forall_mem_cons.mpr ⟨lw_p82, List.forall_mem_cons.mpr ⟨lw_p83, List.forall_mem_cons.mpr ⟨lw_p84, List.forall_mem_cons.mpr ⟨lw_p85, List.forall_mem_cons.mpr ⟨lw_p86, List.forall_mem_cons.mpr ⟨lw_p87, List.forall_mem_cons.mpr ⟨lw_p88, List.forall_mem_cons.mpr ⟨lw_p89, List.forall_mem_cons.mpr ⟨lw_p90, List.forall_mem_cons.mpr ⟨lw_p91, List.forall_mem_cons.mpr ⟨lw_p92, List.forall_mem_cons.mpr ⟨lw_p93, List.forall_mem_cons.mpr ⟨lw_p94, List.forall_mem_cons.mpr ⟨lw_p95, fun _ h => absurd h List.not_mem_nil⟩⟩⟩⟩⟩⟩⟩⟩⟩⟩⟩⟩⟩⟩⟩⟩
theorem lw_p96 : lw_okq (⟨"PuzzleWedModel", "keeps", "(II)Z"⟩, 47) := ⟨⟨by decide +kernel, by decide +kernel⟩, List.mem_of_getElem? (i := 1097) (by decide +kernel), List.mem_of_getElem? (i := 1559) (by decide +kernel), List.mem_of_getElem? (i := 1560) (by decide +kernel)⟩
theorem lw_p97 : lw_okq (⟨"PuzzleWedModel", "likesWed", "(I)I"⟩, 47) := ⟨⟨by decide +kernel, by decide +kernel⟩, List.mem_of_getElem? (i := 1097) (by decide +kernel), List.mem_of_getElem? (i := 1567) (by decide +kernel), List.mem_of_getElem? (i := 1568) (by decide +kernel)⟩
theorem lw_p98 : lw_okq (⟨"PuzzleWedModel", "areBounds", "(I)Z"⟩, 47) := ⟨⟨by decide +kernel, by decide +kernel⟩, List.mem_of_getElem? (i := 1097) (by decide +kernel), List.mem_of_getElem? (i := 1575) (by decide +kernel), List.mem_of_getElem? (i := 1576) (by decide +kernel)⟩
theorem lw_p99 : lw_okq (⟨"PuzzleWedModel", "readsRow", "(II)Z"⟩, 47) := ⟨⟨by decide +kernel, by decide +kernel⟩, List.mem_of_getElem? (i := 1097) (by decide +kernel), List.mem_of_getElem? (i := 1579) (by decide +kernel), List.mem_of_getElem? (i := 1580) (by decide +kernel)⟩
theorem lw_p100 : lw_okq (⟨"PuzzleWedModel", "sumBy", "(I)I"⟩, 47) := ⟨⟨by decide +kernel, by decide +kernel⟩, List.mem_of_getElem? (i := 1097) (by decide +kernel), List.mem_of_getElem? (i := 1583) (by decide +kernel), List.mem_of_getElem? (i := 1584) (by decide +kernel)⟩
theorem lw_p101 : lw_okq (⟨"PuzzleWedModel", "laysWork", "(I)V"⟩, 47) := ⟨⟨by decide +kernel, by decide +kernel⟩, List.mem_of_getElem? (i := 1097) (by decide +kernel), List.mem_of_getElem? (i := 1594) (by decide +kernel), List.mem_of_getElem? (i := 1595) (by decide +kernel)⟩
theorem lw_p102 : lw_okq (⟨"PuzzleWedModel", "workBy", "(IIII)I"⟩, 47) := ⟨⟨by decide +kernel, by decide +kernel⟩, List.mem_of_getElem? (i := 1097) (by decide +kernel), List.mem_of_getElem? (i := 1598) (by decide +kernel), List.mem_of_getElem? (i := 1599) (by decide +kernel)⟩
theorem lw_p103 : lw_okq (⟨"PuzzleWedModel", "workAt", "(III)I"⟩, 47) := ⟨⟨by decide +kernel, by decide +kernel⟩, List.mem_of_getElem? (i := 1097) (by decide +kernel), List.mem_of_getElem? (i := 1602) (by decide +kernel), List.mem_of_getElem? (i := 1603) (by decide +kernel)⟩
theorem lw_p104 : lw_okq (⟨"PuzzleWedModel", "laysSanded", "(II)V"⟩, 47) := ⟨⟨by decide +kernel, by decide +kernel⟩, List.mem_of_getElem? (i := 1097) (by decide +kernel), List.mem_of_getElem? (i := 1606) (by decide +kernel), List.mem_of_getElem? (i := 1607) (by decide +kernel)⟩
theorem lw_p105 : lw_okq (⟨"PuzzleWedModel", "slackOfSanded", "(I)I"⟩, 47) := ⟨⟨by decide +kernel, by decide +kernel⟩, List.mem_of_getElem? (i := 1097) (by decide +kernel), List.mem_of_getElem? (i := 1610) (by decide +kernel), List.mem_of_getElem? (i := 1611) (by decide +kernel)⟩
theorem lw_p106 : lw_okq (⟨"PuzzleWedModel", "slackSteamed", "(IIII)I"⟩, 47) := ⟨⟨by decide +kernel, by decide +kernel⟩, List.mem_of_getElem? (i := 1097) (by decide +kernel), List.mem_of_getElem? (i := 1618) (by decide +kernel), List.mem_of_getElem? (i := 1619) (by decide +kernel)⟩
theorem lw_p107 : lw_okq (⟨"PuzzleWedModel", "makesAll", "(II)Z"⟩, 47) := ⟨⟨by decide +kernel, by decide +kernel⟩, List.mem_of_getElem? (i := 1097) (by decide +kernel), List.mem_of_getElem? (i := 1630) (by decide +kernel), List.mem_of_getElem? (i := 1631) (by decide +kernel)⟩
theorem lw_p108 : lw_okq (⟨"PuzzleWedModel", "makes", "(III)Z"⟩, 47) := ⟨⟨by decide +kernel, by decide +kernel⟩, List.mem_of_getElem? (i := 1097) (by decide +kernel), List.mem_of_getElem? (i := 1634) (by decide +kernel), List.mem_of_getElem? (i := 1635) (by decide +kernel)⟩
theorem lw_p109 : lw_okq (⟨"PuzzleWedModel", "areSame", "(II)Z"⟩, 47) := ⟨⟨by decide +kernel, by decide +kernel⟩, List.mem_of_getElem? (i := 1097) (by decide +kernel), List.mem_of_getElem? (i := 1642) (by decide +kernel), List.mem_of_getElem? (i := 1643) (by decide +kernel)⟩
def lw_privs_7 : List (MethodName × Nat) := [(⟨"PuzzleWedModel", "keeps", "(II)Z"⟩, 47), (⟨"PuzzleWedModel", "likesWed", "(I)I"⟩, 47), (⟨"PuzzleWedModel", "areBounds", "(I)Z"⟩, 47), (⟨"PuzzleWedModel", "readsRow", "(II)Z"⟩, 47), (⟨"PuzzleWedModel", "sumBy", "(I)I"⟩, 47), (⟨"PuzzleWedModel", "laysWork", "(I)V"⟩, 47), (⟨"PuzzleWedModel", "workBy", "(IIII)I"⟩, 47), (⟨"PuzzleWedModel", "workAt", "(III)I"⟩, 47), (⟨"PuzzleWedModel", "laysSanded", "(II)V"⟩, 47), (⟨"PuzzleWedModel", "slackOfSanded", "(I)I"⟩, 47), (⟨"PuzzleWedModel", "slackSteamed", "(IIII)I"⟩, 47), (⟨"PuzzleWedModel", "makesAll", "(II)Z"⟩, 47), (⟨"PuzzleWedModel", "makes", "(III)Z"⟩, 47), (⟨"PuzzleWedModel", "areSame", "(II)Z"⟩, 47)]
theorem lw_r7 : ∀ q ∈ lw_privs_7, lw_okq q := List.forall_mem_cons.mpr ⟨lw_p96, List.forall_mem_cons.mpr ⟨lw_p97, List.forall_mem_cons.mpr ⟨lw_p98, List.forall_mem_cons.mpr ⟨lw_p99, List.forall_mem_cons.mpr ⟨lw_p100, List.forall_mem_cons.mpr ⟨lw_p101, List.forall_mem_cons.mpr ⟨lw_p102, List.forall_mem_cons.mpr ⟨lw_p103, List.forall_mem_cons.mpr ⟨lw_p104, List.forall_mem_cons.mpr ⟨lw_p105, List.forall_mem_cons.mpr ⟨lw_p106, List.forall_mem_cons.mpr ⟨lw_p107, List.forall_mem_cons.mpr ⟨lw_p108, List.forall_mem_cons.mpr ⟨lw_p109, fun _ h => absurd h List.not_mem_nil⟩⟩⟩⟩⟩⟩⟩⟩⟩⟩⟩⟩⟩⟩
def lw_privs : List (MethodName × Nat) := lw_privs_1 ++ (lw_privs_2 ++ (lw_privs_3 ++ (lw_privs_4 ++ (lw_privs_5 ++ (lw_privs_6 ++ (lw_privs_7))))))
def lw_tbl : List Cond := k2_sels lw_privs ++ tables_1
theorem lw_privs_ok : ∀ q ∈ lw_privs, lw_okq q := by
  show ∀ q ∈ lw_privs_1 ++ (lw_privs_2 ++ (lw_privs_3 ++ (lw_privs_4 ++ (lw_privs_5 ++ (lw_privs_6 ++ (lw_privs_7)))))), lw_okq q
  exact List.forall_mem_append.mpr ⟨lw_r1, List.forall_mem_append.mpr ⟨lw_r2, List.forall_mem_append.mpr ⟨lw_r3, List.forall_mem_append.mpr ⟨lw_r4, List.forall_mem_append.mpr ⟨lw_r5, List.forall_mem_append.mpr ⟨lw_r6, lw_r7⟩⟩⟩⟩⟩⟩
/-! ===== BEGIN words of one list among another's, by their places ===== -/
theorem goodIn_r {big : List Cond} (ws : List Cond) (ps : List Nat) (hp : ws = ps.filterMap (fun i => big[i]?)) (h : ws.all goodWord = true) : GoodIn big ws := by
  intro w hw
  have h1 := List.all_eq_true.mp h w hw
  rw [hp] at hw
  obtain ⟨i, -, hi⟩ := List.mem_filterMap.mp hw
  have hm : w ∈ big := by first | exact List.mem_of_getElem? hi | exact List.getElem?_mem hi
  exact ⟨hm, good_of_word h1⟩
theorem goodIn_app {big a b : List Cond} (ha : GoodIn big a) (hb : GoodIn big b) : GoodIn big (a ++ b) := fun w h => (List.mem_append.mp h).elim (ha w) (hb w)
theorem goodIn_ca {big a b : List Cond} {c : Cond} (ha : GoodIn big (c :: a)) (hb : GoodIn big b) : GoodIn big (c :: (a ++ b)) := fun w h => (List.mem_cons.mp h).elim (fun e => ha w (List.mem_cons.mpr (Or.inl e))) (fun h => (List.mem_append.mp h).elim (fun h => ha w (List.mem_cons.mpr (Or.inr h))) (hb w))
theorem goodIn_sub {big ws : List Cond} (hm : ∀ w ∈ ws, w ∈ big) (h : ws.all goodWord = true) : GoodIn big ws := fun w hw => ⟨hm w hw, good_of_word (List.all_eq_true.mp h w hw)⟩
/-! ===== END ===== -/

/-! ===== BEGIN new T[n][m]: the outer array a place, the inner ones among the pooled ===== -/
/-- f, but v at every address of l -/
def vr_up {α : Type} (f : Nat → α) (l : List Nat) (v : α) : Nat → α := fun a => if a ∈ l then v else f a
theorem vr_up_in {α : Type} {f : Nat → α} {l : List Nat} {v : α} {a : Nat} (h : a ∈ l) : vr_up f l v a = v := if_pos h
theorem vr_up_ne {α : Type} {f : Nat → α} {l : List Nat} {v : α} {a : Nat} (h : a ∉ l) : vr_up f l v a = f a := if_neg h
theorem vr_rows {L l : List Nat} {f : Nat → va_E} {e : va_E} (h : ∀ a, a ∈ l → a ∉ L) : va_pl L f ++ l.map (fun a => (a, e)) = va_pl (L ++ l) (vr_up f l e) := by
  unfold va_pl
  rw [List.map_append]
  congr 1
  · apply List.map_congr_left
    intro a ha
    rw [vr_up_ne (fun q => h a q ha)]
  · apply List.map_congr_left
    intro a ha
    rw [vr_up_in ha]
theorem vr_lay {X rows : va_W} {x : Nat × va_E} {pl : va_W} {D : va_G} {cl : List vw_C} {H : Heap} (hP : va_P D cl (((X ++ pl) ++ [x]) ++ rows) H) : va_P D cl ((X ++ [x]) ++ (pl ++ rows)) H := by
  rw [List.append_assoc (X ++ pl)] at hP
  have h := va_P.swap hP
  rw [← List.append_assoc X] at h
  have h2 := va_P.swap h
  rw [List.append_assoc (X ++ [x])] at h2
  exact h2
theorem vr_layD {X rows : va_W} {x : Nat × va_E} {pl : va_W} {A : Nat → Prop} (hD : va_D A (((X ++ pl) ++ [x]) ++ rows)) : va_D A ((X ++ [x]) ++ (pl ++ rows)) := by
  rw [List.append_assoc (X ++ pl)] at hD
  have h := va_D.swap hD
  rw [← List.append_assoc X] at h
  have h2 := va_D.swap h
  rw [List.append_assoc (X ++ [x])] at h2
  exact h2
theorem vr_outer (c : ClassId) (N h0 : Nat) : ∀ i : Nat, Jvm.Free.Multi.outerC c N h0 i = arrV c N (fun j => va_rf (if j < i then some (h0 + 1 + j) else none))
  | 0 => by
    show ({ cls := c, slots := Array.replicate N .null, vm := .none } : Cell) = _
    rw [arrV_new]
    refine congrArg (arrV c N) (funext fun j => ?_)
    simp [va_rf]
  | i + 1 => by
    show (Jvm.Free.Multi.outerC c N h0 i).setSlot i (.ref (h0 + 1 + i)) = _
    rw [vr_outer c N h0 i, arrV_store]
    refine congrArg (arrV c N) (funext fun j => ?_)
    by_cases e : j = i
    · subst e
      simp [updV, va_rf]
    · by_cases h : j < i
      · simp [updV, e, h, Nat.lt_succ_of_lt h]
      · simp [updV, e, h, show ¬ j < i + 1 by omega]
def va_AOA (t : FieldType) (U : State) : Prop := (Cond.arrayOver (.array t)).before #[] U = true
theorem va_AOA.use {t : FieldType} {A : Array Value} {U : State} (h : va_AOA t U) : (Cond.arrayOver (.array t)).before A U = true := h
section VGM
variable {p : Program} {l : Launch} {e : Env} {R : Room} {s : State} {m : MethodId} {args : Array Value} {below : List Frame} {meth : Method} {c : Code} {H : Heap} {locs : List Loc} {cells slots : Nat} {Q : State → Prop}
variable {cc : ByteArray} {pc : Nat} {ls : Array Slot} {rest : List Value} {D : va_G} {cl : List vw_C} {A : Nat → Prop} {a : Nat} {tys : List (ClassId × FieldType)} {ws : va_W} {H0 : Heap}
theorem va_mna {X : va_W} {L : List Nat} {f : Nat → va_E} {cc : ByteArray} (hexec : p.tables.exec = Jvm.exec) (hb : c.code = cc) {own : String} {index : Nat} {ty : FieldType} {cy : ClassId} (hown : s.vm.findClass own = some m.cls) (hclink : (Cond.classLink own index ("[" ++ (FieldType.array ty).toString)).before args s = true) (hover : va_AOA ty s) (harr : (Cond.arrayClass ty).before args s = true) (hcy : s.vm.findClass (FieldType.array ty).toString = some cy)
    (hK : va_K D cl tys s) (hP : va_P D cl (X ++ va_pl L f) H) (hD : va_D A (X ++ va_pl L f)) (hS : va_S A H0 H locs) (hA : ∀ q, H0.size ≤ q → A q) {n k : Int32} {N' K' : Nat} {z : vp_A} (hn : ¬ n < 0) (hk : ¬ k < 0) (hN : n.toNatClampNeg = N') (hM : k.toNatClampNeg = K')
    (hb1 : N' * 4 ≤ 536870912) (hb2 : K' * componentBytes ty ≤ 536870912) (hb3 : K' ≤ 536870912) (hdf : fits ty (defaultValue ty) = true) (hdd : (defaultValue ty).isDefault = true) (hcells : cells + (1 + N') ≤ R.cells) (hslots : slots + (N' + N' * K') ≤ R.slots) (hz : ∀ c : ClassId, Jvm.Free.Multi.innerC c K' (defaultValue ty) = vp_cell c z) (hdg : decode cc pc = .ok (.multianewarray index 2, 4))
    (kk : ∀ (q : Nat) (r : Nat → Nat) (cA : ClassId) (H1 : Heap), (∀ i j : Nat, i < N' → j < N' → r i = r j → i = j) → (∀ i : Nat, i < N' → r i ∉ L) → va_K D cl (tys ++ [(cA, .array ty)]) s →
      va_P D cl ((X ++ [(q, .inl (cA, N', .inr (.inr (.inr (.inr (fun i => if i < N' then some (r i) else none))))))]) ++ va_pl (L ++ (List.range N').map r) (vr_up f ((List.range N').map r) (.inl (cy, z)))) H1 → va_D A ((X ++ [(q, .inl (cA, N', .inr (.inr (.inr (.inr (fun i => if i < N' then some (r i) else none))))))]) ++ va_pl (L ++ (List.range N').map r) (vr_up f ((List.range N').map r) (.inl (cy, z)))) → va_S A H0 H1 locs →
      W p l e R s m args below meth c H1 locs (cells + 1 + N') (slots + N' + N' * K') Q (F0 m (pc + 4) ls (.ref q :: rest))) : W p l e R s m args below meth c H locs cells slots Q (F0 m pc ls (.int k :: .int n :: rest)) := by
  subst hN
  subst hM
  intro T hT Xs
  obtain ⟨vm₁, cA, comp, -, fA, fC, hO, -, X', step⟩ := Xs.multianewarray2F hexec hown hclink (va_AOA.use hover) harr (g := F0 m pc ls (.int k :: .int n :: rest)) rfl (by rw [hb]; exact hdg) rfl hn hk hb1 hb2 hb3 hdf hdd hcells hslots
  have ec : some cy = some comp := hcy.symm.trans fC
  cases ec
  generalize hF : Jvm.Free.Multi.fill (T.setVm vm₁) cA cy n.toNatClampNeg k.toNatClampNeg (defaultValue ty) n.toNatClampNeg = F at X' step
  have hTh : (T.setVm vm₁).heap = H := hT
  obtain ⟨f1, f2, -, -⟩ := Jvm.Free.Multi.fill_facts (T.setVm vm₁) cA cy n.toNatClampNeg k.toNatClampNeg (defaultValue ty) n.toNatClampNeg
  rw [hF, hTh] at f1 f2
  have hold : ∀ x : Nat, x < H.size → F.heap[x]? = H[x]? := fun x hx => by
    have := Jvm.Free.Multi.fill_old (T.setVm vm₁) cA cy n.toNatClampNeg k.toNatClampNeg (defaultValue ty) (a := x) (by rw [hTh]; exact hx) n.toNatClampNeg
    rw [hF, hTh] at this
    exact this
  have hrow : ∀ j : Nat, j < n.toNatClampNeg → F.heap[H.size + 1 + j]? = some (vp_cell cy z) := fun j hj => by
    have := Jvm.Free.Multi.fill_inner (T.setVm vm₁) cA cy n.toNatClampNeg k.toNatClampNeg (defaultValue ty) n.toNatClampNeg j hj
    rw [hF, hTh, hz] at this
    exact this
  have hout : Jvm.Free.Multi.outerC cA n.toNatClampNeg H.size n.toNatClampNeg = vp_cell cA (n.toNatClampNeg, .inr (.inr (.inr (.inr (fun i => if i < n.toNatClampNeg then some (H.size + 1 + i) else none))))) := by
    rw [vp_cell_q]
    exact vr_outer cA n.toNatClampNeg H.size n.toNatClampNeg
  rw [hout] at f2
  have hlt : ∀ a, a ∈ L → a < H.size := fun a ha => by
    obtain ⟨k9, hk9⟩ := va_pl_get (X := X) (f := f) ha
    exact (hP k9 _ hk9).lt
  have hnl : ∀ i : Nat, i < n.toNatClampNeg → H.size + 1 + i ∉ L := fun i _ h => by
    have := hlt _ h
    omega
  have hnm : ∀ a, a ∈ (List.range n.toNatClampNeg).map (fun i => H.size + 1 + i) → a ∉ L := fun a ha h => by
    obtain ⟨i, -, rfl⟩ := List.mem_map.mp ha
    have := hlt _ h
    omega
  have hP0 : va_P D cl (X ++ va_pl L f) F.heap := hP.kept (fun k9 x hx => hold x.1 ((hP k9 x hx).lt))
  have hP1 : va_P D cl ((X ++ va_pl L f) ++ [(H.size, .inl (cA, n.toNatClampNeg, .inr (.inr (.inr (.inr (fun i => if i < n.toNatClampNeg then some (H.size + 1 + i) else none))))))]) F.heap := hP0.app (fun k9 x hx => by
    have h0 : k9 < 1 := (List.getElem?_eq_some_iff.mp hx).1
    rw [show k9 = 0 by omega] at hx
    cases hx
    exact f2)
  have hP2 : va_P D cl (((X ++ va_pl L f) ++ [(H.size, .inl (cA, n.toNatClampNeg, .inr (.inr (.inr (.inr (fun i => if i < n.toNatClampNeg then some (H.size + 1 + i) else none))))))]) ++ ((List.range n.toNatClampNeg).map (fun i => H.size + 1 + i)).map (fun a => (a, .inl (cy, z)))) F.heap := hP1.app (fun k9 x hx => by
    obtain ⟨a, ha, rfl⟩ := List.mem_map.mp (List.mem_of_getElem? hx)
    obtain ⟨i, hi, rfl⟩ := List.mem_map.mp ha
    exact hrow i (List.mem_range.mp hi))
  have hD2 : va_D A (((X ++ va_pl L f) ++ [(H.size, .inl (cA, n.toNatClampNeg, .inr (.inr (.inr (.inr (fun i => if i < n.toNatClampNeg then some (H.size + 1 + i) else none))))))]) ++ ((List.range n.toNatClampNeg).map (fun i => H.size + 1 + i)).map (fun a => (a, .inl (cy, z)))) := by
    have hD1 := hD.push (e := .inl (cA, n.toNatClampNeg, .inr (.inr (.inr (.inr (fun i => if i < n.toNatClampNeg then some (H.size + 1 + i) else none)))))) hP rfl (hA _ hS.1)
    generalize hW1 : (X ++ va_pl L f) ++ [(H.size, .inl (cA, n.toNatClampNeg, .inr (.inr (.inr (.inr (fun i => if i < n.toNatClampNeg then some (H.size + 1 + i) else none))))))] = W1 at hD1 hP1 ⊢
    have hle : ∀ (k9 : Nat) (x : Nat × va_E), W1[k9]? = some x → x.1 ≤ H.size := fun k9 x hx => by
      rw [← hW1] at hx
      by_cases hl : k9 < (X ++ va_pl L f).length
      · rw [List.getElem?_append_left hl] at hx
        exact Nat.le_of_lt ((hP k9 x hx).lt)
      · rw [List.getElem?_append_right (by omega)] at hx
        have h0 : k9 - (X ++ va_pl L f).length < 1 := (List.getElem?_eq_some_iff.mp hx).1
        rw [show k9 - (X ++ va_pl L f).length = 0 by omega] at hx
        cases hx
        exact Nat.le_refl _
    have hr : ∀ (k9 : Nat) (x : Nat × va_E), (((List.range n.toNatClampNeg).map (fun i => H.size + 1 + i)).map (fun a => ((a, .inl (cy, z)) : Nat × va_E)))[k9]? = some x → x.1 = H.size + 1 + k9 := fun k9 x hx => by
      rw [List.getElem?_map, List.getElem?_map] at hx
      by_cases h9 : k9 < n.toNatClampNeg
      · rw [List.getElem?_range h9] at hx
        cases hx
        rfl
      · have hn0 : (List.range n.toNatClampNeg)[k9]? = none := List.getElem?_eq_none (by rw [List.length_range]; omega)
        rw [hn0] at hx
        cases hx
    refine ⟨fun i j x y hi hj hxy => ?_, fun k9 x hx => ?_⟩
    · by_cases h1 : i < W1.length <;> by_cases h2 : j < W1.length
      · rw [List.getElem?_append_left h1] at hi
        rw [List.getElem?_append_left h2] at hj
        exact hD1.1 i j x y hi hj hxy
      · rw [List.getElem?_append_left h1] at hi
        rw [List.getElem?_append_right (by omega)] at hj
        have := hle _ _ hi
        have := hr _ _ hj
        omega
      · rw [List.getElem?_append_right (by omega)] at hi
        rw [List.getElem?_append_left h2] at hj
        have := hle _ _ hj
        have := hr _ _ hi
        omega
      · rw [List.getElem?_append_right (by omega)] at hi hj
        have := hr _ _ hi
        have := hr _ _ hj
        omega
    · by_cases h1 : k9 < W1.length
      · rw [List.getElem?_append_left h1] at hx
        exact hD1.2 k9 x hx
      · rw [List.getElem?_append_right (by omega)] at hx
        have := hr _ _ hx
        exact hA _ (by have := hS.1; omega)
  have hAr : ArrOfT s cA (.array ty) := fun N9 z9 => by
    obtain ⟨-, k9, hk9, cm9, hkk9⟩ := (hO 0 0 0).1
    exact ⟨(fun q hq => by cases hq), k9, hk9, cm9, hkk9⟩
  have hK2 : va_K D cl (tys ++ [(cA, .array ty)]) s := ⟨hK.1, fun k9 x hx => by
    by_cases hl : k9 < tys.length
    · rw [List.getElem?_append_left hl] at hx
      exact hK.2 k9 x hx
    · rw [List.getElem?_append_right (by omega)] at hx
      have h0 : k9 - tys.length < 1 := (List.getElem?_eq_some_iff.mp hx).1
      rw [show k9 - tys.length = 0 by omega] at hx
      cases hx
      exact ⟨hAr, fA⟩⟩
  obtain ⟨t, a1, b1⟩ := kk H.size (fun i => H.size + 1 + i) cA F.heap (fun i j _ _ h => by have h9 : H.size + 1 + i = H.size + 1 + j := h; omega) hnl hK2 (by rw [← vr_rows hnm]; exact vr_lay hP2) (by rw [← vr_rows hnm]; exact vr_layD hD2) ⟨by rw [f1]; have := hS.1; omega, fun x h1 h2 => (hold x (Nat.lt_of_lt_of_le h1 hS.1)).trans (hS.2.1 x h1 h2), hS.2.2⟩ F rfl X'
  refine ⟨t, step t ?_, b1⟩
  have e : T.heap.size = H.size := by rw [hT]
  rw [e]
  exact a1
end VGM
/-! ===== END ===== -/

/-! ===== BEGIN printed: names, fields, word lists, decode rows ===== -/
def RX0 : String := "PuzzleWed$Couples"
def TX0 : u_T := fun k => match k with
  | 0 => ("PuzzleWed$Couples", "judge", "LPuzzleWed$Judge;", true)
  | 1 => ("PuzzleWed$Couples", "partner", "[I", true)
  | 2 => ("PuzzleWed$Couples", "twos", "I", false)
  | 3 => ("PuzzleWed$Couples", "slackSum", "I", false)
  | 4 => ("PuzzleWed$Couples", "ones", "[I", true)
  | 5 => ("PuzzleWed$Couples", "others", "[I", true)
  | 6 => ("PuzzleWed$Couples", "oneCount", "I", false)
  | 7 => ("PuzzleWed$Couples", "otherCount", "I", false)
  | 8 => ("PuzzleWed$Couples", "bond", "[[I", true)
  | 9 => ("PuzzleWed$Couples", "best", "[I", true)
  | _ => ("PuzzleWed$Couples", "asked", "[I", true)
def tyX0 : Nat → FieldType := fun k => match k with
  | 0 => .object "PuzzleWed$Judge"
  | 1 => .array .int
  | 2 => .int
  | 3 => .int
  | 4 => .array .int
  | 5 => .array .int
  | 6 => .int
  | 7 => .int
  | 8 => .array (.array .int)
  | 9 => .array .int
  | _ => .array .int
abbrev wsX00 : List Cond := u_ws RX0 TX0 11
theorem nmX0 : ∀ a, a < 11 → ∀ b, b < 11 → a ≠ b → (TX0 a).2.1 ≠ (TX0 b).2.1 := by decide +kernel
theorem tyX0_ok : ∀ k, k < 11 → parseFieldDescriptor (TX0 k).2.2.1 = some (tyX0 k) := by decide +kernel
abbrev cX0_init : ByteArray := prog_2_method_1_code
def yX0_init : MethodName := ⟨RX0, "<init>", "(LPuzzleWed$Judge;)V"⟩
abbrev cX0_gather : ByteArray := prog_2_method_2_code
def yX0_gather : MethodName := ⟨RX0, "gather", "(LPuzzleWed$Land;)V"⟩
abbrev cX0_findMost : ByteArray := prog_2_method_3_code
def yX0_findMost : MethodName := ⟨RX0, "findMost", "(LPuzzleWed$Land;)V"⟩
abbrev cX0_weighAll : ByteArray := prog_2_method_4_code
def yX0_weighAll : MethodName := ⟨RX0, "weighAll", "()V"⟩
abbrev cX0_choose : ByteArray := prog_2_method_5_code
def yX0_choose : MethodName := ⟨RX0, "choose", "(II)I"⟩
abbrev cX0_withBond : ByteArray := prog_2_method_6_code
def yX0_withBond : MethodName := ⟨RX0, "withBond", "(III)I"⟩
abbrev cX0_bestOf : ByteArray := prog_2_method_7_code
def yX0_bestOf : MethodName := ⟨RX0, "bestOf", "(II)I"⟩
abbrev cX0_setBest : ByteArray := prog_2_method_8_code
def yX0_setBest : MethodName := ⟨RX0, "setBest", "(III)V"⟩
abbrev cX0_findStable : ByteArray := prog_2_method_9_code
def yX0_findStable : MethodName := ⟨RX0, "findStable", "(LPuzzleWed$Land;)V"⟩
abbrev cX0_askNext : ByteArray := prog_2_method_10_code
def yX0_askNext : MethodName := ⟨RX0, "askNext", "(I)Z"⟩
abbrev cX0_prefers : ByteArray := prog_2_method_11_code
def yX0_prefers : MethodName := ⟨RX0, "prefers", "(III)Z"⟩
def RX1 : String := "PuzzleWed$Course"
def TX1 : u_T := fun k => match k with
  | 0 => ("PuzzleWed$Course", "judge", "LPuzzleWed$Judge;", true)
  | 1 => ("PuzzleWed$Course", "wed", "I", false)
  | 2 => ("PuzzleWed$Course", "tries", "I", false)
  | _ => ("PuzzleWed$Course", "parted", "I", false)
def tyX1 : Nat → FieldType := fun k => match k with
  | 0 => .object "PuzzleWed$Judge"
  | 1 => .int
  | 2 => .int
  | _ => .int
abbrev wsX10 : List Cond := u_ws RX1 TX1 4
theorem nmX1 : ∀ a, a < 4 → ∀ b, b < 4 → a ≠ b → (TX1 a).2.1 ≠ (TX1 b).2.1 := by decide +kernel
theorem tyX1_ok : ∀ k, k < 4 → parseFieldDescriptor (TX1 k).2.2.1 = some (tyX1 k) := by decide +kernel
abbrev cX1_init : ByteArray := prog_3_method_1_code
def yX1_init : MethodName := ⟨RX1, "<init>", "(LPuzzleWed$Judge;)V"⟩
abbrev cX1_pass : ByteArray := prog_3_method_2_code
def yX1_pass : MethodName := ⟨RX1, "pass", "(LPuzzleWed$Land;I)V"⟩
abbrev cX1_travel : ByteArray := prog_3_method_3_code
def yX1_travel : MethodName := ⟨RX1, "travel", "(LPuzzleWed$Land;)V"⟩
abbrev cX1_meet : ByteArray := prog_3_method_4_code
def yX1_meet : MethodName := ⟨RX1, "meet", "(LPuzzleWed$Land;)V"⟩
abbrev cX1_nextFor : ByteArray := prog_3_method_5_code
def yX1_nextFor : MethodName := ⟨RX1, "nextFor", "(LPuzzleWed$Land;II)I"⟩
abbrev cX1_strain : ByteArray := prog_3_method_6_code
def yX1_strain : MethodName := ⟨RX1, "strain", "(LPuzzleWed$Land;)V"⟩
def RX2 : String := "PuzzleWed$Judge"
def TX2 : u_T := fun k => match k with
  | 0 => ("PuzzleWed$Judge", "law", "LPuzzleWed$Law;", true)
  | _ => ("PuzzleWed$Judge", "letters", "[I", true)
def tyX2 : Nat → FieldType := fun k => match k with
  | 0 => .object "PuzzleWed$Law"
  | _ => .array .int
abbrev wsX20 : List Cond := u_ws RX2 TX2 2
theorem nmX2 : ∀ a, a < 2 → ∀ b, b < 2 → a ≠ b → (TX2 a).2.1 ≠ (TX2 b).2.1 := by decide +kernel
theorem tyX2_ok : ∀ k, k < 2 → parseFieldDescriptor (TX2 k).2.2.1 = some (tyX2 k) := by decide +kernel
abbrev cX2_init : ByteArray := prog_4_method_1_code
def yX2_init : MethodName := ⟨RX2, "<init>", "(LPuzzleWed$Law;)V"⟩
abbrev cX2_gap : ByteArray := prog_4_method_2_code
def yX2_gap : MethodName := ⟨RX2, "gap", "([I[I)I"⟩
abbrev cX2_slackOf : ByteArray := prog_4_method_3_code
def yX2_slackOf : MethodName := ⟨RX2, "slackOf", "(LPuzzleWed$Land;II)I"⟩
abbrev cX2_fit : ByteArray := prog_4_method_4_code
def yX2_fit : MethodName := ⟨RX2, "fit", "(LPuzzleWed$Land;II)Z"⟩
abbrev cX2_allowance : ByteArray := prog_4_method_5_code
def yX2_allowance : MethodName := ⟨RX2, "allowance", "(LPuzzleWed$Land;II)I"⟩
abbrev cX2_liking : ByteArray := prog_4_method_6_code
def yX2_liking : MethodName := ⟨RX2, "liking", "(LPuzzleWed$Land;II)I"⟩
abbrev cX2_wearOf : ByteArray := prog_4_method_7_code
def yX2_wearOf : MethodName := ⟨RX2, "wearOf", "(LPuzzleWed$Land;II)I"⟩
abbrev cX2_isFirst : ByteArray := prog_4_method_8_code
def yX2_isFirst : MethodName := ⟨RX2, "isFirst", "(LPuzzleWed$Land;II)Z"⟩
abbrev cX2_rule : ByteArray := prog_4_method_9_code
def yX2_rule : MethodName := ⟨RX2, "rule", "(IILPuzzleWed$Land;III)I"⟩
abbrev cX2_fill : ByteArray := prog_4_method_10_code
def yX2_fill : MethodName := ⟨RX2, "fill", "(LPuzzleWed$Land;III)V"⟩
def RX3 : String := "PuzzleWed$Land"
def TX3 : u_T := fun k => match k with
  | 0 => ("PuzzleWed$Land", "told", "I", false)
  | 1 => ("PuzzleWed$Land", "living", "I", false)
  | 2 => ("PuzzleWed$Land", "side", "[I", true)
  | 3 => ("PuzzleWed$Land", "town", "[I", true)
  | 4 => ("PuzzleWed$Land", "wedTo", "[I", true)
  | 5 => ("PuzzleWed$Land", "creaks", "[I", true)
  | 6 => ("PuzzleWed$Land", "triedBits", "[I", true)
  | 7 => ("PuzzleWed$Land", "holder", "[I", true)
  | 8 => ("PuzzleWed$Land", "wear", "[I", true)
  | 9 => ("PuzzleWed$Land", "height", "[[I", true)
  | 10 => ("PuzzleWed$Land", "way", "[[I", true)
  | 11 => ("PuzzleWed$Land", "wayLength", "[I", true)
  | 12 => ("PuzzleWed$Land", "wayGone", "[I", true)
  | 13 => ("PuzzleWed$Land", "day", "I", false)
  | _ => ("PuzzleWed$Land", "x", "I", false)
def tyX3 : Nat → FieldType := fun k => match k with
  | 0 => .int
  | 1 => .int
  | 2 => .array .int
  | 3 => .array .int
  | 4 => .array .int
  | 5 => .array .int
  | 6 => .array .int
  | 7 => .array .int
  | 8 => .array .int
  | 9 => .array (.array .int)
  | 10 => .array (.array .int)
  | 11 => .array .int
  | 12 => .array .int
  | 13 => .int
  | _ => .int
abbrev wsX30 : List Cond := u_ws RX3 TX3 15
theorem nmX3 : ∀ a, a < 15 → ∀ b, b < 15 → a ≠ b → (TX3 a).2.1 ≠ (TX3 b).2.1 := by decide +kernel
theorem tyX3_ok : ∀ k, k < 15 → parseFieldDescriptor (TX3 k).2.2.1 = some (tyX3 k) := by decide +kernel
abbrev cX3_init : ByteArray := prog_5_method_1_code
def yX3_init : MethodName := ⟨RX3, "<init>", "()V"⟩
abbrev cX3_isTold : ByteArray := prog_5_method_2_code
def yX3_isTold : MethodName := ⟨RX3, "isTold", "(I)Z"⟩
abbrev cX3_isAlive : ByteArray := prog_5_method_3_code
def yX3_isAlive : MethodName := ⟨RX3, "isAlive", "(I)Z"⟩
abbrev cX3_isFree : ByteArray := prog_5_method_4_code
def yX3_isFree : MethodName := ⟨RX3, "isFree", "(I)Z"⟩
abbrev cX3_join : ByteArray := prog_5_method_5_code
def yX3_join : MethodName := ⟨RX3, "join", "(II)V"⟩
abbrev cX3_separate : ByteArray := prog_5_method_6_code
def yX3_separate : MethodName := ⟨RX3, "separate", "(II)V"⟩
abbrev cX3_hasTried : ByteArray := prog_5_method_7_code
def yX3_hasTried : MethodName := ⟨RX3, "hasTried", "(II)Z"⟩
abbrev cX3_markTried : ByteArray := prog_5_method_8_code
def yX3_markTried : MethodName := ⟨RX3, "markTried", "(II)V"⟩
abbrev cX3_bury : ByteArray := prog_5_method_9_code
def yX3_bury : MethodName := ⟨RX3, "bury", "(I)V"⟩
abbrev cX3_piecesOf : ByteArray := prog_5_method_10_code
def yX3_piecesOf : MethodName := ⟨RX3, "piecesOf", "(I)I"⟩
abbrev cX3_wearDown : ByteArray := prog_5_method_11_code
def yX3_wearDown : MethodName := ⟨RX3, "wearDown", "(II)V"⟩
abbrev cX3_countTwos : ByteArray := prog_5_method_12_code
def yX3_countTwos : MethodName := ⟨RX3, "countTwos", "()I"⟩
abbrev cX3_whoIsIn : ByteArray := prog_5_method_13_code
def yX3_whoIsIn : MethodName := ⟨RX3, "whoIsIn", "(I)I"⟩
abbrev cX3_draw : ByteArray := prog_5_method_14_code
def yX3_draw : MethodName := ⟨RX3, "draw", "()I"⟩
abbrev cX3_copyFrom : ByteArray := prog_5_method_15_code
def yX3_copyFrom : MethodName := ⟨RX3, "copyFrom", "(LPuzzleWed$Land;)V"⟩
def RX4 : String := "PuzzleWed$Law"
def TX4 : u_T := fun k => match k with
  | 0 => ("PuzzleWed$Law", "code", "[I", true)
  | 1 => ("PuzzleWed$Law", "letter", "[I", true)
  | 2 => ("PuzzleWed$Law", "worthAt", "[I", true)
  | 3 => ("PuzzleWed$Law", "whenAt", "[I", true)
  | 4 => ("PuzzleWed$Law", "stack", "[I", true)
  | 5 => ("PuzzleWed$Law", "used", "I", false)
  | _ => ("PuzzleWed$Law", "clauses", "I", false)
def tyX4 : Nat → FieldType := fun k => match k with
  | 0 => .array .int
  | 1 => .array .int
  | 2 => .array .int
  | 3 => .array .int
  | 4 => .array .int
  | 5 => .int
  | _ => .int
abbrev wsX40 : List Cond := u_ws RX4 TX4 7
theorem nmX4 : ∀ a, a < 7 → ∀ b, b < 7 → a ≠ b → (TX4 a).2.1 ≠ (TX4 b).2.1 := by decide +kernel
theorem tyX4_ok : ∀ k, k < 7 → parseFieldDescriptor (TX4 k).2.2.1 = some (tyX4 k) := by decide +kernel
abbrev cX4_init : ByteArray := prog_6_method_1_code
def yX4_init : MethodName := ⟨RX4, "<init>", "()V"⟩
abbrev cX4_emit : ByteArray := prog_6_method_2_code
def yX4_emit : MethodName := ⟨RX4, "emit", "(I)V"⟩
abbrev cX4_copyFrom : ByteArray := prog_6_method_3_code
def yX4_copyFrom : MethodName := ⟨RX4, "copyFrom", "(LPuzzleWed$Law;)V"⟩
abbrev cX4_run : ByteArray := prog_6_method_4_code
def yX4_run : MethodName := ⟨RX4, "run", "(I[I)I"⟩
abbrev cX4_valueOf : ByteArray := prog_6_method_5_code
def yX4_valueOf : MethodName := ⟨RX4, "valueOf", "(I[I)I"⟩
abbrev cX4_reckon : ByteArray := prog_6_method_6_code
def yX4_reckon : MethodName := ⟨RX4, "reckon", "(III)I"⟩
def RX5 : String := "PuzzleWed$LawReader"
def TX5 : u_T := fun k => match k with
  | 0 => ("PuzzleWed$Reader", "tape", "LPuzzleWed$Tape;", true)
  | 1 => ("PuzzleWed$Reader", "length", "I", false)
  | 2 => ("PuzzleWed$Reader", "at", "I", false)
  | 3 => ("PuzzleWed$Reader", "fault", "I", false)
  | _ => ("PuzzleWed$LawReader", "draft", "LPuzzleWed$Law;", true)
def tyX5 : Nat → FieldType := fun k => match k with
  | 0 => .object "PuzzleWed$Tape"
  | 1 => .int
  | 2 => .int
  | 3 => .int
  | _ => .object "PuzzleWed$Law"
abbrev wsX50 : List Cond := u_ws RX5 TX5 5
theorem nmX5 : ∀ a, a < 5 → ∀ b, b < 5 → a ≠ b → (TX5 a).2.1 ≠ (TX5 b).2.1 := by decide +kernel
theorem tyX5_ok : ∀ k, k < 5 → parseFieldDescriptor (TX5 k).2.2.1 = some (tyX5 k) := by decide +kernel
abbrev cX5_init : ByteArray := prog_7_method_1_code
def yX5_init : MethodName := ⟨RX5, "<init>", "(LPuzzleWed$Tape;LPuzzleWed$Law;)V"⟩
abbrev cX5_readLaw : ByteArray := prog_7_method_2_code
def yX5_readLaw : MethodName := ⟨RX5, "readLaw", "(I)Z"⟩
abbrev cX5_readClause : ByteArray := prog_7_method_3_code
def yX5_readClause : MethodName := ⟨RX5, "readClause", "()Z"⟩
abbrev cX5_pass : ByteArray := prog_7_method_4_code
def yX5_pass : MethodName := ⟨RX5, "pass", "(I)Z"⟩
abbrev cX5_readEither : ByteArray := prog_7_method_5_code
def yX5_readEither : MethodName := ⟨RX5, "readEither", "(I)Z"⟩
abbrev cX5_readBoth : ByteArray := prog_7_method_6_code
def yX5_readBoth : MethodName := ⟨RX5, "readBoth", "(I)Z"⟩
abbrev cX5_emitJump : ByteArray := prog_7_method_7_code
def yX5_emitJump : MethodName := ⟨RX5, "emitJump", "(II)I"⟩
abbrev cX5_land : ByteArray := prog_7_method_8_code
def yX5_land : MethodName := ⟨RX5, "land", "(I)V"⟩
abbrev cX5_readTest : ByteArray := prog_7_method_9_code
def yX5_readTest : MethodName := ⟨RX5, "readTest", "(I)Z"⟩
abbrev cX5_readInner : ByteArray := prog_7_method_10_code
def yX5_readInner : MethodName := ⟨RX5, "readInner", "(II)Z"⟩
abbrev cX5_readSum : ByteArray := prog_7_method_11_code
def yX5_readSum : MethodName := ⟨RX5, "readSum", "(I)Z"⟩
abbrev cX5_readProduct : ByteArray := prog_7_method_12_code
def yX5_readProduct : MethodName := ⟨RX5, "readProduct", "(I)Z"⟩
abbrev cX5_readFactor : ByteArray := prog_7_method_13_code
def yX5_readFactor : MethodName := ⟨RX5, "readFactor", "(I)Z"⟩
abbrev cX5_readNumber : ByteArray := prog_7_method_14_code
def yX5_readNumber : MethodName := ⟨RX5, "readNumber", "()Z"⟩
def RX6 : String := "PuzzleWed$ListReader"
def TX6 : u_T := fun k => match k with
  | 0 => ("PuzzleWed$Reader", "tape", "LPuzzleWed$Tape;", true)
  | 1 => ("PuzzleWed$Reader", "length", "I", false)
  | 2 => ("PuzzleWed$Reader", "at", "I", false)
  | 3 => ("PuzzleWed$Reader", "fault", "I", false)
  | 4 => ("PuzzleWed$ListReader", "list", "[I", true)
  | 5 => ("PuzzleWed$ListReader", "filled", "I", false)
  | 6 => ("PuzzleWed$ListReader", "value", "I", false)
  | _ => ("PuzzleWed$ListReader", "times", "I", false)
def tyX6 : Nat → FieldType := fun k => match k with
  | 0 => .object "PuzzleWed$Tape"
  | 1 => .int
  | 2 => .int
  | 3 => .int
  | 4 => .array .int
  | 5 => .int
  | 6 => .int
  | _ => .int
abbrev wsX60 : List Cond := u_ws RX6 TX6 8
theorem nmX6 : ∀ a, a < 8 → ∀ b, b < 8 → a ≠ b → (TX6 a).2.1 ≠ (TX6 b).2.1 := by decide +kernel
theorem tyX6_ok : ∀ k, k < 8 → parseFieldDescriptor (TX6 k).2.2.1 = some (tyX6 k) := by decide +kernel
abbrev cX6_init : ByteArray := prog_8_method_1_code
def yX6_init : MethodName := ⟨RX6, "<init>", "(LPuzzleWed$Tape;)V"⟩
abbrev cX6_readEdge : ByteArray := prog_8_method_2_code
def yX6_readEdge : MethodName := ⟨RX6, "readEdge", "(I)Z"⟩
abbrev cX6_readWay : ByteArray := prog_8_method_3_code
def yX6_readWay : MethodName := ⟨RX6, "readWay", "(I)Z"⟩
abbrev cX6_readHeight : ByteArray := prog_8_method_4_code
def yX6_readHeight : MethodName := ⟨RX6, "readHeight", "()Z"⟩
abbrev cX6_readTimes : ByteArray := prog_8_method_5_code
def yX6_readTimes : MethodName := ⟨RX6, "readTimes", "(I)Z"⟩
abbrev cX6_put : ByteArray := prog_8_method_6_code
def yX6_put : MethodName := ⟨RX6, "put", "()V"⟩
def RX7 : String := "PuzzleWed$Reader"
def TX7 : u_T := fun k => match k with
  | _ => ("", "", "", false)
def tyX7 : Nat → FieldType := fun k => match k with
  | _ => .int
abbrev wsX70 : List Cond := u_ws RX7 TX7 0
theorem nmX7 : ∀ a, a < 0 → ∀ b, b < 0 → a ≠ b → (TX7 a).2.1 ≠ (TX7 b).2.1 := by decide +kernel
theorem tyX7_ok : ∀ k, k < 0 → parseFieldDescriptor (TX7 k).2.2.1 = some (tyX7 k) := by decide +kernel
abbrev cX7_init : ByteArray := prog_9_method_1_code
def yX7_init : MethodName := ⟨RX7, "<init>", "(LPuzzleWed$Tape;)V"⟩
abbrev cX7_begin : ByteArray := prog_9_method_2_code
def yX7_begin : MethodName := ⟨RX7, "begin", "(I)V"⟩
abbrev cX7_sign : ByteArray := prog_9_method_3_code
def yX7_sign : MethodName := ⟨RX7, "sign", "()I"⟩
abbrev cX7_isEnd : ByteArray := prog_9_method_4_code
def yX7_isEnd : MethodName := ⟨RX7, "isEnd", "()Z"⟩
abbrev cX7_fail : ByteArray := prog_9_method_5_code
def yX7_fail : MethodName := ⟨RX7, "fail", "(I)Z"⟩
abbrev cX7_failAt : ByteArray := prog_9_method_6_code
def yX7_failAt : MethodName := ⟨RX7, "failAt", "(II)Z"⟩
def RX8 : String := "PuzzleWed$Sander"
def TX8 : u_T := fun k => match k with
  | 0 => ("PuzzleWed$Sander", "made", "[I", true)
  | 1 => ("PuzzleWed$Sander", "done", "Z", false)
  | 2 => ("PuzzleWed$Sander", "work", "I", false)
  | 3 => ("PuzzleWed$Sander", "turns", "I", false)
  | 4 => ("PuzzleWed$Sander", "raising", "I", false)
  | 5 => ("PuzzleWed$Sander", "least", "[J", true)
  | 6 => ("PuzzleWed$Sander", "cost", "[J", true)
  | 7 => ("PuzzleWed$Sander", "gapOne", "[I", true)
  | 8 => ("PuzzleWed$Sander", "gapOther", "[I", true)
  | 9 => ("PuzzleWed$Sander", "low", "I", false)
  | _ => ("PuzzleWed$Sander", "high", "I", false)
def tyX8 : Nat → FieldType := fun k => match k with
  | 0 => .array .int
  | 1 => .boolean
  | 2 => .int
  | 3 => .int
  | 4 => .int
  | 5 => .array .long
  | 6 => .array .long
  | 7 => .array .int
  | 8 => .array .int
  | 9 => .int
  | _ => .int
abbrev wsX80 : List Cond := u_ws RX8 TX8 11
theorem nmX8 : ∀ a, a < 11 → ∀ b, b < 11 → a ≠ b → (TX8 a).2.1 ≠ (TX8 b).2.1 := by decide +kernel
theorem tyX8_ok : ∀ k, k < 11 → parseFieldDescriptor (TX8 k).2.2.1 = some (tyX8 k) := by decide +kernel
abbrev cX8_init : ByteArray := prog_10_method_1_code
def yX8_init : MethodName := ⟨RX8, "<init>", "()V"⟩
abbrev cX8_sand : ByteArray := prog_10_method_2_code
def yX8_sand : MethodName := ⟨RX8, "sand", "([I[II[II)V"⟩
abbrev cX8_weigh : ByteArray := prog_10_method_3_code
def yX8_weigh : MethodName := ⟨RX8, "weigh", "(IIIJ)V"⟩
abbrev cX8_bestHere : ByteArray := prog_10_method_4_code
def yX8_bestHere : MethodName := ⟨RX8, "bestHere", "(II)J"⟩
abbrev cX8_leastOf : ByteArray := prog_10_method_5_code
def yX8_leastOf : MethodName := ⟨RX8, "leastOf", "(II)J"⟩
abbrev cX8_read : ByteArray := prog_10_method_6_code
def yX8_read : MethodName := ⟨RX8, "read", "(J)V"⟩
abbrev cX8_steam : ByteArray := prog_10_method_7_code
def yX8_steam : MethodName := ⟨RX8, "steam", "([I[II)V"⟩
def RX9 : String := "PuzzleWed$Search"
def TX9 : u_T := fun k => match k with
  | 0 => ("PuzzleWed$Search", "tape", "LPuzzleWed$Tape;", true)
  | 1 => ("PuzzleWed$Search", "towns", "I", false)
  | 2 => ("PuzzleWed$Search", "weight", "[I", true)
  | 3 => ("PuzzleWed$Search", "travel", "[[I", true)
  | 4 => ("PuzzleWed$Search", "order", "[I", true)
  | 5 => ("PuzzleWed$Search", "bestOrder", "[I", true)
  | 6 => ("PuzzleWed$Search", "bestSum", "I", false)
  | _ => ("PuzzleWed$Search", "weights", "I", false)
def tyX9 : Nat → FieldType := fun k => match k with
  | 0 => .object "PuzzleWed$Tape"
  | 1 => .int
  | 2 => .array .int
  | 3 => .array (.array .int)
  | 4 => .array .int
  | 5 => .array .int
  | 6 => .int
  | _ => .int
abbrev wsX90 : List Cond := u_ws RX9 TX9 8
theorem nmX9 : ∀ a, a < 8 → ∀ b, b < 8 → a ≠ b → (TX9 a).2.1 ≠ (TX9 b).2.1 := by decide +kernel
theorem tyX9_ok : ∀ k, k < 8 → parseFieldDescriptor (TX9 k).2.2.1 = some (tyX9 k) := by decide +kernel
abbrev cX9_init : ByteArray := prog_11_method_1_code
def yX9_init : MethodName := ⟨RX9, "<init>", "(LPuzzleWed$Tape;)V"⟩
abbrev cX9_accept : ByteArray := prog_11_method_2_code
def yX9_accept : MethodName := ⟨RX9, "accept", "(I)Z"⟩
abbrev cX9_find : ByteArray := prog_11_method_3_code
def yX9_find : MethodName := ⟨RX9, "find", "()V"⟩
abbrev cX9_weigh : ByteArray := prog_11_method_4_code
def yX9_weigh : MethodName := ⟨RX9, "weigh", "()V"⟩
abbrev cX9_nextOrder : ByteArray := prog_11_method_5_code
def yX9_nextOrder : MethodName := ⟨RX9, "nextOrder", "()Z"⟩
abbrev cX9_swap : ByteArray := prog_11_method_6_code
def yX9_swap : MethodName := ⟨RX9, "swap", "(II)V"⟩
abbrev cX9_above : ByteArray := prog_11_method_7_code
def yX9_above : MethodName := ⟨RX9, "above", "()I"⟩
abbrev cX9_below : ByteArray := prog_11_method_8_code
def yX9_below : MethodName := ⟨RX9, "below", "()I"⟩
abbrev cX9_commonDivisor : ByteArray := prog_11_method_9_code
def yX9_commonDivisor : MethodName := ⟨RX9, "commonDivisor", "()I"⟩
def RX10 : String := "PuzzleWed$Tape"
def TX10 : u_T := fun k => match k with
  | 0 => ("PuzzleWed$Tape", "bytes", "[I", true)
  | _ => ("PuzzleWed$Tape", "length", "I", false)
def tyX10 : Nat → FieldType := fun k => match k with
  | 0 => .array .int
  | _ => .int
abbrev wsX100 : List Cond := u_ws RX10 TX10 2
theorem nmX10 : ∀ a, a < 2 → ∀ b, b < 2 → a ≠ b → (TX10 a).2.1 ≠ (TX10 b).2.1 := by decide +kernel
theorem tyX10_ok : ∀ k, k < 2 → parseFieldDescriptor (TX10 k).2.2.1 = some (tyX10 k) := by decide +kernel
abbrev cX10_init : ByteArray := prog_12_method_1_code
def yX10_init : MethodName := ⟨RX10, "<init>", "()V"⟩
abbrev cX10_add : ByteArray := prog_12_method_2_code
def yX10_add : MethodName := ⟨RX10, "add", "(I)V"⟩
def RX11 : String := "PuzzleWed"
def TX11 : u_T := fun k => match k with
  | 0 => ("PuzzleWed", "land", "LPuzzleWed$Land;", true)
  | 1 => ("PuzzleWed", "kept", "LPuzzleWed$Land;", true)
  | 2 => ("PuzzleWed", "trial", "LPuzzleWed$Land;", true)
  | 3 => ("PuzzleWed", "hasKept", "Z", false)
  | 4 => ("PuzzleWed", "tape", "LPuzzleWed$Tape;", true)
  | 5 => ("PuzzleWed", "law", "LPuzzleWed$Law;", true)
  | 6 => ("PuzzleWed", "draft", "LPuzzleWed$Law;", true)
  | 7 => ("PuzzleWed", "lawReader", "LPuzzleWed$LawReader;", true)
  | 8 => ("PuzzleWed", "listReader", "LPuzzleWed$ListReader;", true)
  | 9 => ("PuzzleWed", "judge", "LPuzzleWed$Judge;", true)
  | 10 => ("PuzzleWed", "course", "LPuzzleWed$Course;", true)
  | 11 => ("PuzzleWed", "couples", "LPuzzleWed$Couples;", true)
  | 12 => ("PuzzleWed", "quest", "LPuzzleWed$Search;", true)
  | 13 => ("PuzzleWed", "sander", "LPuzzleWed$Sander;", true)
  | _ => ("PuzzleWed", "row", "[I", true)
def tyX11 : Nat → FieldType := fun k => match k with
  | 0 => .object "PuzzleWed$Land"
  | 1 => .object "PuzzleWed$Land"
  | 2 => .object "PuzzleWed$Land"
  | 3 => .boolean
  | 4 => .object "PuzzleWed$Tape"
  | 5 => .object "PuzzleWed$Law"
  | 6 => .object "PuzzleWed$Law"
  | 7 => .object "PuzzleWed$LawReader"
  | 8 => .object "PuzzleWed$ListReader"
  | 9 => .object "PuzzleWed$Judge"
  | 10 => .object "PuzzleWed$Course"
  | 11 => .object "PuzzleWed$Couples"
  | 12 => .object "PuzzleWed$Search"
  | 13 => .object "PuzzleWed$Sander"
  | _ => .array .int
abbrev wsX110 : List Cond := u_ws RX11 TX11 15
theorem nmX11 : ∀ a, a < 15 → ∀ b, b < 15 → a ≠ b → (TX11 a).2.1 ≠ (TX11 b).2.1 := by decide +kernel
theorem tyX11_ok : ∀ k, k < 15 → parseFieldDescriptor (TX11 k).2.2.1 = some (tyX11 k) := by decide +kernel
abbrev cX11_init : ByteArray := prog_1_method_1_code
def yX11_init : MethodName := ⟨RX11, "<init>", "()V"⟩
abbrev cX11_person : ByteArray := prog_1_method_2_code
def yX11_person : MethodName := ⟨RX11, "person", "(III)Z"⟩
abbrev cX11_wear : ByteArray := prog_1_method_3_code
def yX11_wear : MethodName := ⟨RX11, "wear", "(II)Z"⟩
abbrev cX11_dies : ByteArray := prog_1_method_4_code
def yX11_dies : MethodName := ⟨RX11, "dies", "(I)Z"⟩
abbrev cX11_weds : ByteArray := prog_1_method_5_code
def yX11_weds : MethodName := ⟨RX11, "weds", "(II)Z"⟩
abbrev cX11_feed : ByteArray := prog_1_method_6_code
def yX11_feed : MethodName := ⟨RX11, "feed", "(IIIII)I"⟩
abbrev cX11_law : ByteArray := prog_1_method_7_code
def yX11_law : MethodName := ⟨RX11, "law", "(I)I"⟩
abbrev cX11_edge : ByteArray := prog_1_method_8_code
def yX11_edge : MethodName := ⟨RX11, "edge", "(II)I"⟩
abbrev cX11_journey : ByteArray := prog_1_method_9_code
def yX11_journey : MethodName := ⟨RX11, "journey", "(II)I"⟩
abbrev cX11_days : ByteArray := prog_1_method_10_code
def yX11_days : MethodName := ⟨RX11, "days", "(I)I"⟩
abbrev cX11_tried : ByteArray := prog_1_method_11_code
def yX11_tried : MethodName := ⟨RX11, "tried", "(II)I"⟩
abbrev cX11_personIs : ByteArray := prog_1_method_12_code
def yX11_personIs : MethodName := ⟨RX11, "personIs", "(II)I"⟩
abbrev cX11_whomItFits : ByteArray := prog_1_method_13_code
def yX11_whomItFits : MethodName := ⟨RX11, "whomItFits", "(I)I"⟩
abbrev cX11_piece : ByteArray := prog_1_method_14_code
def yX11_piece : MethodName := ⟨RX11, "piece", "(II)I"⟩
abbrev cX11_slack : ByteArray := prog_1_method_15_code
def yX11_slack : MethodName := ⟨RX11, "slack", "(III)I"⟩
abbrev cX11_locks : ByteArray := prog_1_method_16_code
def yX11_locks : MethodName := ⟨RX11, "locks", "(I)I"⟩
abbrev cX11_lowestOf : ByteArray := prog_1_method_17_code
def yX11_lowestOf : MethodName := ⟨RX11, "lowestOf", "(I)I"⟩
abbrev cX11_fitsAbove : ByteArray := prog_1_method_18_code
def yX11_fitsAbove : MethodName := ⟨RX11, "fitsAbove", "(I)I"⟩
abbrev cX11_most : ByteArray := prog_1_method_19_code
def yX11_most : MethodName := ⟨RX11, "most", "(I)I"⟩
abbrev cX11_stable : ByteArray := prog_1_method_20_code
def yX11_stable : MethodName := ⟨RX11, "stable", "(I)I"⟩
abbrev cX11_unrest : ByteArray := prog_1_method_21_code
def yX11_unrest : MethodName := ⟨RX11, "unrest", "(I)I"⟩
abbrev cX11_wouldLeave : ByteArray := prog_1_method_22_code
def yX11_wouldLeave : MethodName := ⟨RX11, "wouldLeave", "(II)Z"⟩
abbrev cX11_likingNow : ByteArray := prog_1_method_23_code
def yX11_likingNow : MethodName := ⟨RX11, "likingNow", "(I)I"⟩
abbrev cX11_search : ByteArray := prog_1_method_24_code
def yX11_search : MethodName := ⟨RX11, "search", "(II)I"⟩
abbrev cX11_sanding : ByteArray := prog_1_method_25_code
def yX11_sanding : MethodName := ⟨RX11, "sanding", "(IIIIIII)I"⟩
abbrev cX11_canSand : ByteArray := prog_1_method_26_code
def yX11_canSand : MethodName := ⟨RX11, "canSand", "(III)Z"⟩
abbrev cX11_fitOthers : ByteArray := prog_1_method_27_code
def yX11_fitOthers : MethodName := ⟨RX11, "fitOthers", "(I[II)I"⟩
abbrev cX11_steaming : ByteArray := prog_1_method_28_code
def yX11_steaming : MethodName := ⟨RX11, "steaming", "(IIII)I"⟩
abbrev cX11_worn : ByteArray := prog_1_method_29_code
def yX11_worn : MethodName := ⟨RX11, "worn", "(II)I"⟩
abbrev cX11_cutter : ByteArray := prog_1_method_30_code
def yX11_cutter : MethodName := ⟨RX11, "cutter", "(II)I"⟩
abbrev cX11_rulesAll : ByteArray := prog_1_method_31_code
def yX11_rulesAll : MethodName := ⟨RX11, "rulesAll", "(II)Z"⟩
abbrev cX11_madeBy : ByteArray := prog_1_method_32_code
def yX11_madeBy : MethodName := ⟨RX11, "madeBy", "(II)I"⟩
abbrev cX11_cut : ByteArray := prog_1_method_33_code
def yX11_cut : MethodName := ⟨RX11, "cut", "(I[I)V"⟩
abbrev cX11_sameRow : ByteArray := prog_1_method_34_code
def yX11_sameRow : MethodName := ⟨RX11, "sameRow", "([I[I)Z"⟩
abbrev cX11_copies : ByteArray := prog_1_method_35_code
def yX11_copies : MethodName := ⟨RX11, "copies", "(I)I"⟩
abbrev cX11_mate : ByteArray := prog_1_method_36_code
def yX11_mate : MethodName := ⟨RX11, "mate", "(II)I"⟩
abbrev cX11_seed : ByteArray := prog_1_method_37_code
def yX11_seed : MethodName := ⟨RX11, "seed", "(I)Z"⟩
abbrev cX11_keep : ByteArray := prog_1_method_38_code
def yX11_keep : MethodName := ⟨RX11, "keep", "()I"⟩
abbrev cX11_undo : ByteArray := prog_1_method_39_code
def yX11_undo : MethodName := ⟨RX11, "undo", "()Z"⟩
abbrev cX11_check : ByteArray := prog_1_method_40_code
def yX11_check : MethodName := ⟨RX11, "check", "(II)I"⟩
abbrev cX11_count : ByteArray := prog_1_method_41_code
def yX11_count : MethodName := ⟨RX11, "count", "(I)I"⟩
abbrev cX11_isNumber : ByteArray := prog_1_method_42_code
def yX11_isNumber : MethodName := ⟨RX11, "isNumber", "(I)Z"⟩
def RX12 : String := "PuzzleWedModel"
def TX12 : u_T := fun k => match k with
  | 0 => ("PuzzleWedModel", "now", "[I", true)
  | 1 => ("PuzzleWedModel", "aside", "[I", true)
  | 2 => ("PuzzleWedModel", "kept", "[I", true)
  | 3 => ("PuzzleWedModel", "tape", "[B", true)
  | 4 => ("PuzzleWedModel", "taped", "I", false)
  | 5 => ("PuzzleWedModel", "place0", "I", false)
  | 6 => ("PuzzleWedModel", "length0", "I", false)
  | 7 => ("PuzzleWedModel", "fault", "I", false)
  | 8 => ("PuzzleWedModel", "number0", "I", false)
  | 9 => ("PuzzleWedModel", "open", "I", false)
  | 10 => ("PuzzleWedModel", "codeMany", "I", false)
  | 11 => ("PuzzleWedModel", "waiting", "I", false)
  | 12 => ("PuzzleWedModel", "saidMany", "I", false)
  | 13 => ("PuzzleWedModel", "clauses", "I", false)
  | 14 => ("PuzzleWedModel", "said", "[I", true)
  | 15 => ("PuzzleWedModel", "waitsAt", "[I", true)
  | 16 => ("PuzzleWedModel", "saidLetter", "[I", true)
  | 17 => ("PuzzleWedModel", "saidFrom", "[I", true)
  | 18 => ("PuzzleWedModel", "saidHalf", "[I", true)
  | 19 => ("PuzzleWedModel", "saidTo", "[I", true)
  | 20 => ("PuzzleWedModel", "codes", "[I", true)
  | 21 => ("PuzzleWedModel", "clauseOf", "[I", true)
  | 22 => ("PuzzleWedModel", "codeFrom", "[I", true)
  | 23 => ("PuzzleWedModel", "codeHalf", "[I", true)
  | 24 => ("PuzzleWedModel", "codeTo", "[I", true)
  | 25 => ("PuzzleWedModel", "stack", "[I", true)
  | 26 => ("PuzzleWedModel", "facts", "[I", true)
  | 27 => ("PuzzleWedModel", "newHeight", "[I", true)
  | 28 => ("PuzzleWedModel", "newStop", "[I", true)
  | 29 => ("PuzzleWedModel", "newMany", "I", false)
  | 30 => ("PuzzleWedModel", "stops", "I", false)
  | 31 => ("PuzzleWedModel", "wedNow", "I", false)
  | 32 => ("PuzzleWedModel", "triesNow", "I", false)
  | 33 => ("PuzzleWedModel", "partsNow", "I", false)
  | 34 => ("PuzzleWedModel", "fitOf", "[I", true)
  | 35 => ("PuzzleWedModel", "slackNow", "[I", true)
  | 36 => ("PuzzleWedModel", "likeOf", "[I", true)
  | 37 => ("PuzzleWedModel", "bestOf", "[I", true)
  | 38 => ("PuzzleWedModel", "askedBy", "[I", true)
  | 39 => ("PuzzleWedModel", "getOf", "[I", true)
  | 40 => ("PuzzleWedModel", "rowNow", "[I", true)
  | 41 => ("PuzzleWedModel", "workOf", "[I", true)
  | 42 => ("PuzzleWedModel", "sanded", "[I", true)
  | 43 => ("PuzzleWedModel", "sandPiece", "I", false)
  | 44 => ("PuzzleWedModel", "sandA", "I", false)
  | 45 => ("PuzzleWedModel", "sandB", "I", false)
  | _ => ("PuzzleWedModel", "isKept", "Z", false)
def tyX12 : Nat → FieldType := fun k => match k with
  | 0 => .array .int
  | 1 => .array .int
  | 2 => .array .int
  | 3 => .array .byte
  | 4 => .int
  | 5 => .int
  | 6 => .int
  | 7 => .int
  | 8 => .int
  | 9 => .int
  | 10 => .int
  | 11 => .int
  | 12 => .int
  | 13 => .int
  | 14 => .array .int
  | 15 => .array .int
  | 16 => .array .int
  | 17 => .array .int
  | 18 => .array .int
  | 19 => .array .int
  | 20 => .array .int
  | 21 => .array .int
  | 22 => .array .int
  | 23 => .array .int
  | 24 => .array .int
  | 25 => .array .int
  | 26 => .array .int
  | 27 => .array .int
  | 28 => .array .int
  | 29 => .int
  | 30 => .int
  | 31 => .int
  | 32 => .int
  | 33 => .int
  | 34 => .array .int
  | 35 => .array .int
  | 36 => .array .int
  | 37 => .array .int
  | 38 => .array .int
  | 39 => .array .int
  | 40 => .array .int
  | 41 => .array .int
  | 42 => .array .int
  | 43 => .int
  | 44 => .int
  | 45 => .int
  | _ => .boolean
abbrev wsX120 : List Cond := u_ws RX12 TX12 47
theorem nmX12 : ∀ a, a < 47 → ∀ b, b < 47 → a ≠ b → (TX12 a).2.1 ≠ (TX12 b).2.1 := by decide +kernel
theorem tyX12_ok : ∀ k, k < 47 → parseFieldDescriptor (TX12 k).2.2.1 = some (tyX12 k) := by decide +kernel
abbrev cX12_init : ByteArray := prog_14_method_1_code
def yX12_init : MethodName := ⟨RX12, "<init>", "()V"⟩
abbrev cX12_in : ByteArray := prog_14_method_2_code
def yX12_in : MethodName := ⟨RX12, "in", "(III)Z"⟩
abbrev cX12_min : ByteArray := prog_14_method_3_code
def yX12_min : MethodName := ⟨RX12, "min", "(II)I"⟩
abbrev cX12_max : ByteArray := prog_14_method_4_code
def yX12_max : MethodName := ⟨RX12, "max", "(II)I"⟩
abbrev cX12_size : ByteArray := prog_14_method_5_code
def yX12_size : MethodName := ⟨RX12, "size", "(I)I"⟩
abbrev cX12_has : ByteArray := prog_14_method_6_code
def yX12_has : MethodName := ⟨RX12, "has", "(II)Z"⟩
abbrev cX12_bits : ByteArray := prog_14_method_7_code
def yX12_bits : MethodName := ⟨RX12, "bits", "(I)I"⟩
abbrev cX12_copiesRow : ByteArray := prog_14_method_8_code
def yX12_copiesRow : MethodName := ⟨RX12, "copiesRow", "([I[I)V"⟩
abbrev cX12_isTwelve : ByteArray := prog_14_method_9_code
def yX12_isTwelve : MethodName := ⟨RX12, "isTwelve", "(I)Z"⟩
abbrev cX12_isPerson : ByteArray := prog_14_method_10_code
def yX12_isPerson : MethodName := ⟨RX12, "isPerson", "(I)Z"⟩
abbrev cX12_lives : ByteArray := prog_14_method_11_code
def yX12_lives : MethodName := ⟨RX12, "lives", "(I)Z"⟩
abbrev cX12_isFree : ByteArray := prog_14_method_12_code
def yX12_isFree : MethodName := ⟨RX12, "isFree", "(I)Z"⟩
abbrev cX12_person : ByteArray := prog_14_method_13_code
def yX12_person : MethodName := ⟨RX12, "person", "(III)Z"⟩
abbrev cX12_wear : ByteArray := prog_14_method_14_code
def yX12_wear : MethodName := ⟨RX12, "wear", "(II)Z"⟩
abbrev cX12_parts : ByteArray := prog_14_method_15_code
def yX12_parts : MethodName := ⟨RX12, "parts", "(I)V"⟩
abbrev cX12_dies : ByteArray := prog_14_method_16_code
def yX12_dies : MethodName := ⟨RX12, "dies", "(I)Z"⟩
abbrev cX12_wedsTwo : ByteArray := prog_14_method_17_code
def yX12_wedsTwo : MethodName := ⟨RX12, "wedsTwo", "(II)V"⟩
abbrev cX12_weds : ByteArray := prog_14_method_18_code
def yX12_weds : MethodName := ⟨RX12, "weds", "(II)Z"⟩
abbrev cX12_types : ByteArray := prog_14_method_19_code
def yX12_types : MethodName := ⟨RX12, "types", "(I)V"⟩
abbrev cX12_feed : ByteArray := prog_14_method_20_code
def yX12_feed : MethodName := ⟨RX12, "feed", "(IIIII)I"⟩
abbrev cX12_here : ByteArray := prog_14_method_21_code
def yX12_here : MethodName := ⟨RX12, "here", "()I"⟩
abbrev cX12_isDigit : ByteArray := prog_14_method_22_code
def yX12_isDigit : MethodName := ⟨RX12, "isDigit", "()Z"⟩
abbrev cX12_wrongAt : ByteArray := prog_14_method_23_code
def yX12_wrongAt : MethodName := ⟨RX12, "wrongAt", "(II)Z"⟩
abbrev cX12_takes : ByteArray := prog_14_method_24_code
def yX12_takes : MethodName := ⟨RX12, "takes", "(I)Z"⟩
abbrev cX12_readsNumber : ByteArray := prog_14_method_25_code
def yX12_readsNumber : MethodName := ⟨RX12, "readsNumber", "()Z"⟩
abbrev cX12_notes : ByteArray := prog_14_method_26_code
def yX12_notes : MethodName := ⟨RX12, "notes", "(II)V"⟩
abbrev cX12_opens : ByteArray := prog_14_method_27_code
def yX12_opens : MethodName := ⟨RX12, "opens", "(I)Z"⟩
abbrev cX12_waitTop : ByteArray := prog_14_method_28_code
def yX12_waitTop : MethodName := ⟨RX12, "waitTop", "()I"⟩
abbrev cX12_factOf : ByteArray := prog_14_method_29_code
def yX12_factOf : MethodName := ⟨RX12, "factOf", "(I)I"⟩
abbrev cX12_sumSign : ByteArray := prog_14_method_30_code
def yX12_sumSign : MethodName := ⟨RX12, "sumSign", "(I)I"⟩
abbrev cX12_closesSums : ByteArray := prog_14_method_31_code
def yX12_closesSums : MethodName := ⟨RX12, "closesSums", "(Z)V"⟩
abbrev cX12_readsFactor : ByteArray := prog_14_method_32_code
def yX12_readsFactor : MethodName := ⟨RX12, "readsFactor", "()Z"⟩
abbrev cX12_hasOpenSum : ByteArray := prog_14_method_33_code
def yX12_hasOpenSum : MethodName := ⟨RX12, "hasOpenSum", "(I)Z"⟩
abbrev cX12_readsSum : ByteArray := prog_14_method_34_code
def yX12_readsSum : MethodName := ⟨RX12, "readsSum", "()Z"⟩
abbrev cX12_endsPiece : ByteArray := prog_14_method_35_code
def yX12_endsPiece : MethodName := ⟨RX12, "endsPiece", "()V"⟩
abbrev cX12_lands : ByteArray := prog_14_method_36_code
def yX12_lands : MethodName := ⟨RX12, "lands", "(Z)V"⟩
abbrev cX12_jumps : ByteArray := prog_14_method_37_code
def yX12_jumps : MethodName := ⟨RX12, "jumps", "(I)V"⟩
abbrev cX12_readsCompared : ByteArray := prog_14_method_38_code
def yX12_readsCompared : MethodName := ⟨RX12, "readsCompared", "()Z"⟩
abbrev cX12_readsCondition : ByteArray := prog_14_method_39_code
def yX12_readsCondition : MethodName := ⟨RX12, "readsCondition", "()Z"⟩
abbrev cX12_isClause : ByteArray := prog_14_method_40_code
def yX12_isClause : MethodName := ⟨RX12, "isClause", "(I)Z"⟩
abbrev cX12_readsClause : ByteArray := prog_14_method_41_code
def yX12_readsClause : MethodName := ⟨RX12, "readsClause", "()Z"⟩
abbrev cX12_law : ByteArray := prog_14_method_42_code
def yX12_law : MethodName := ⟨RX12, "law", "(I)I"⟩
abbrev cX12_reckon : ByteArray := prog_14_method_43_code
def yX12_reckon : MethodName := ⟨RX12, "reckon", "(III)I"⟩
abbrev cX12_comesTo : ByteArray := prog_14_method_44_code
def yX12_comesTo : MethodName := ⟨RX12, "comesTo", "(II)I"⟩
abbrev cX12_byLaw : ByteArray := prog_14_method_45_code
def yX12_byLaw : MethodName := ⟨RX12, "byLaw", "(II)I"⟩
abbrev cX12_heightOf : ByteArray := prog_14_method_46_code
def yX12_heightOf : MethodName := ⟨RX12, "heightOf", "(II)I"⟩
abbrev cX12_slackOf : ByteArray := prog_14_method_47_code
def yX12_slackOf : MethodName := ⟨RX12, "slackOf", "(II)I"⟩
abbrev cX12_slackBy : ByteArray := prog_14_method_48_code
def yX12_slackBy : MethodName := ⟨RX12, "slackBy", "(II)I"⟩
abbrev cX12_feels : ByteArray := prog_14_method_49_code
def yX12_feels : MethodName := ⟨RX12, "feels", "(III)V"⟩
abbrev cX12_allowed : ByteArray := prog_14_method_50_code
def yX12_allowed : MethodName := ⟨RX12, "allowed", "(II)I"⟩
abbrev cX12_fit : ByteArray := prog_14_method_51_code
def yX12_fit : MethodName := ⟨RX12, "fit", "(II)Z"⟩
abbrev cX12_likes : ByteArray := prog_14_method_52_code
def yX12_likes : MethodName := ⟨RX12, "likes", "(II)I"⟩
abbrev cX12_readsHeight : ByteArray := prog_14_method_53_code
def yX12_readsHeight : MethodName := ⟨RX12, "readsHeight", "()Z"⟩
abbrev cX12_edge : ByteArray := prog_14_method_54_code
def yX12_edge : MethodName := ⟨RX12, "edge", "(II)I"⟩
abbrev cX12_readsStop : ByteArray := prog_14_method_55_code
def yX12_readsStop : MethodName := ⟨RX12, "readsStop", "()Z"⟩
abbrev cX12_journey : ByteArray := prog_14_method_56_code
def yX12_journey : MethodName := ⟨RX12, "journey", "(II)I"⟩
abbrev cX12_travels : ByteArray := prog_14_method_57_code
def yX12_travels : MethodName := ⟨RX12, "travels", "(I)V"⟩
abbrev cX12_wearsAll : ByteArray := prog_14_method_58_code
def yX12_wearsAll : MethodName := ⟨RX12, "wearsAll", "(II)V"⟩
abbrev cX12_haveTried : ByteArray := prog_14_method_59_code
def yX12_haveTried : MethodName := ⟨RX12, "haveTried", "(II)V"⟩
abbrev cX12_wearsBy : ByteArray := prog_14_method_60_code
def yX12_wearsBy : MethodName := ⟨RX12, "wearsBy", "(II)I"⟩
abbrev cX12_triesIn : ByteArray := prog_14_method_61_code
def yX12_triesIn : MethodName := ⟨RX12, "triesIn", "(II)V"⟩
abbrev cX12_draws : ByteArray := prog_14_method_62_code
def yX12_draws : MethodName := ⟨RX12, "draws", "()I"⟩
abbrev cX12_creak : ByteArray := prog_14_method_63_code
def yX12_creak : MethodName := ⟨RX12, "creak", "(I)V"⟩
abbrev cX12_daysGo : ByteArray := prog_14_method_64_code
def yX12_daysGo : MethodName := ⟨RX12, "daysGo", "(I)V"⟩
abbrev cX12_days : ByteArray := prog_14_method_65_code
def yX12_days : MethodName := ⟨RX12, "days", "(I)I"⟩
abbrev cX12_wedTwos : ByteArray := prog_14_method_66_code
def yX12_wedTwos : MethodName := ⟨RX12, "wedTwos", "()I"⟩
abbrev cX12_tried : ByteArray := prog_14_method_67_code
def yX12_tried : MethodName := ⟨RX12, "tried", "(II)I"⟩
abbrev cX12_fitting : ByteArray := prog_14_method_68_code
def yX12_fitting : MethodName := ⟨RX12, "fitting", "(I)I"⟩
abbrev cX12_personIs : ByteArray := prog_14_method_69_code
def yX12_personIs : MethodName := ⟨RX12, "personIs", "(II)I"⟩
abbrev cX12_piece : ByteArray := prog_14_method_70_code
def yX12_piece : MethodName := ⟨RX12, "piece", "(II)I"⟩
abbrev cX12_slack : ByteArray := prog_14_method_71_code
def yX12_slack : MethodName := ⟨RX12, "slack", "(III)I"⟩
abbrev cX12_laysFits : ByteArray := prog_14_method_72_code
def yX12_laysFits : MethodName := ⟨RX12, "laysFits", "()V"⟩
abbrev cX12_locks : ByteArray := prog_14_method_73_code
def yX12_locks : MethodName := ⟨RX12, "locks", "(I)I"⟩
abbrev cX12_isOne : ByteArray := prog_14_method_74_code
def yX12_isOne : MethodName := ⟨RX12, "isOne", "(II)Z"⟩
abbrev cX12_mayGet : ByteArray := prog_14_method_75_code
def yX12_mayGet : MethodName := ⟨RX12, "mayGet", "(III)Z"⟩
abbrev cX12_laysMost : ByteArray := prog_14_method_76_code
def yX12_laysMost : MethodName := ⟨RX12, "laysMost", "()V"⟩
abbrev cX12_getsBy : ByteArray := prog_14_method_77_code
def yX12_getsBy : MethodName := ⟨RX12, "getsBy", "(I)I"⟩
abbrev cX12_most : ByteArray := prog_14_method_78_code
def yX12_most : MethodName := ⟨RX12, "most", "(I)I"⟩
abbrev cX12_nextAsked : ByteArray := prog_14_method_79_code
def yX12_nextAsked : MethodName := ⟨RX12, "nextAsked", "(I)I"⟩
abbrev cX12_keeps : ByteArray := prog_14_method_80_code
def yX12_keeps : MethodName := ⟨RX12, "keeps", "(II)Z"⟩
abbrev cX12_laysStable : ByteArray := prog_14_method_81_code
def yX12_laysStable : MethodName := ⟨RX12, "laysStable", "()V"⟩
abbrev cX12_stable : ByteArray := prog_14_method_82_code
def yX12_stable : MethodName := ⟨RX12, "stable", "(I)I"⟩
abbrev cX12_likesWed : ByteArray := prog_14_method_83_code
def yX12_likesWed : MethodName := ⟨RX12, "likesWed", "(I)I"⟩
abbrev cX12_unrest : ByteArray := prog_14_method_84_code
def yX12_unrest : MethodName := ⟨RX12, "unrest", "(I)I"⟩
abbrev cX12_areBounds : ByteArray := prog_14_method_85_code
def yX12_areBounds : MethodName := ⟨RX12, "areBounds", "(I)Z"⟩
abbrev cX12_readsRow : ByteArray := prog_14_method_86_code
def yX12_readsRow : MethodName := ⟨RX12, "readsRow", "(II)Z"⟩
abbrev cX12_sumBy : ByteArray := prog_14_method_87_code
def yX12_sumBy : MethodName := ⟨RX12, "sumBy", "(I)I"⟩
abbrev cX12_gcd : ByteArray := prog_14_method_88_code
def yX12_gcd : MethodName := ⟨RX12, "gcd", "(II)I"⟩
abbrev cX12_search : ByteArray := prog_14_method_89_code
def yX12_search : MethodName := ⟨RX12, "search", "(II)I"⟩
abbrev cX12_workAt : ByteArray := prog_14_method_90_code
def yX12_workAt : MethodName := ⟨RX12, "workAt", "(III)I"⟩
abbrev cX12_workBy : ByteArray := prog_14_method_91_code
def yX12_workBy : MethodName := ⟨RX12, "workBy", "(IIII)I"⟩
abbrev cX12_laysWork : ByteArray := prog_14_method_92_code
def yX12_laysWork : MethodName := ⟨RX12, "laysWork", "(I)V"⟩
abbrev cX12_laysSanded : ByteArray := prog_14_method_93_code
def yX12_laysSanded : MethodName := ⟨RX12, "laysSanded", "(II)V"⟩
abbrev cX12_slackOfSanded : ByteArray := prog_14_method_94_code
def yX12_slackOfSanded : MethodName := ⟨RX12, "slackOfSanded", "(I)I"⟩
abbrev cX12_sanding : ByteArray := prog_14_method_95_code
def yX12_sanding : MethodName := ⟨RX12, "sanding", "(IIIIIII)I"⟩
abbrev cX12_slackSteamed : ByteArray := prog_14_method_96_code
def yX12_slackSteamed : MethodName := ⟨RX12, "slackSteamed", "(IIII)I"⟩
abbrev cX12_steaming : ByteArray := prog_14_method_97_code
def yX12_steaming : MethodName := ⟨RX12, "steaming", "(IIII)I"⟩
abbrev cX12_worn : ByteArray := prog_14_method_98_code
def yX12_worn : MethodName := ⟨RX12, "worn", "(II)I"⟩
abbrev cX12_makes : ByteArray := prog_14_method_99_code
def yX12_makes : MethodName := ⟨RX12, "makes", "(III)Z"⟩
abbrev cX12_makesAll : ByteArray := prog_14_method_100_code
def yX12_makesAll : MethodName := ⟨RX12, "makesAll", "(II)Z"⟩
abbrev cX12_cutter : ByteArray := prog_14_method_101_code
def yX12_cutter : MethodName := ⟨RX12, "cutter", "(II)I"⟩
abbrev cX12_areSame : ByteArray := prog_14_method_102_code
def yX12_areSame : MethodName := ⟨RX12, "areSame", "(II)Z"⟩
abbrev cX12_copies : ByteArray := prog_14_method_103_code
def yX12_copies : MethodName := ⟨RX12, "copies", "(I)I"⟩
abbrev cX12_mate : ByteArray := prog_14_method_104_code
def yX12_mate : MethodName := ⟨RX12, "mate", "(II)I"⟩
abbrev cX12_seed : ByteArray := prog_14_method_105_code
def yX12_seed : MethodName := ⟨RX12, "seed", "(I)Z"⟩
abbrev cX12_keep : ByteArray := prog_14_method_106_code
def yX12_keep : MethodName := ⟨RX12, "keep", "()I"⟩
abbrev cX12_undo : ByteArray := prog_14_method_107_code
def yX12_undo : MethodName := ⟨RX12, "undo", "()Z"⟩
abbrev cX12_check : ByteArray := prog_14_method_108_code
def yX12_check : MethodName := ⟨RX12, "check", "(II)I"⟩
abbrev cX12_count : ByteArray := prog_14_method_109_code
def yX12_count : MethodName := ⟨RX12, "count", "(I)I"⟩
def RJx145de : String := "java/io/Serializable"
def TJx145de : u_T := fun k => match k with
  | _ => ("", "", "", false)
def tyJx145de : Nat → FieldType := fun k => match k with
  | _ => .int
abbrev wsJx145de0 : List Cond := u_ws RJx145de TJx145de 0
theorem nmJx145de : ∀ a, a < 0 → ∀ b, b < 0 → a ≠ b → (TJx145de a).2.1 ≠ (TJx145de b).2.1 := by decide +kernel
theorem tyJx145de_ok : ∀ k, k < 0 → parseFieldDescriptor (TJx145de k).2.2.1 = some (tyJx145de k) := by decide +kernel
def RJx9f9b0 : String := "java/lang/CharSequence"
def TJx9f9b0 : u_T := fun k => match k with
  | _ => ("", "", "", false)
def tyJx9f9b0 : Nat → FieldType := fun k => match k with
  | _ => .int
abbrev wsJx9f9b00 : List Cond := u_ws RJx9f9b0 TJx9f9b0 0
theorem nmJx9f9b0 : ∀ a, a < 0 → ∀ b, b < 0 → a ≠ b → (TJx9f9b0 a).2.1 ≠ (TJx9f9b0 b).2.1 := by decide +kernel
theorem tyJx9f9b0_ok : ∀ k, k < 0 → parseFieldDescriptor (TJx9f9b0 k).2.2.1 = some (tyJx9f9b0 k) := by decide +kernel
def RJ11 : String := "java/lang/Character"
def TJ11 : u_T := fun k => match k with
  | _ => ("", "", "", false)
def tyJ11 : Nat → FieldType := fun k => match k with
  | _ => .int
abbrev wsJ110 : List Cond := u_ws RJ11 TJ11 0
theorem nmJ11 : ∀ a, a < 0 → ∀ b, b < 0 → a ≠ b → (TJ11 a).2.1 ≠ (TJ11 b).2.1 := by decide +kernel
theorem tyJ11_ok : ∀ k, k < 0 → parseFieldDescriptor (TJ11 k).2.2.1 = some (tyJ11 k) := by decide +kernel
abbrev cJ11_isValidCodePoint_9a6ad : ByteArray := prog_15_method_11_code
def yJ11_isValidCodePoint_9a6ad : MethodName := ⟨RJ11, "isValidCodePoint", "(I)Z"⟩
abbrev cJ11_highSurrogate_5068e : ByteArray := prog_15_method_28_code
def yJ11_highSurrogate_5068e : MethodName := ⟨RJ11, "highSurrogate", "(I)C"⟩
abbrev cJ11_lowSurrogate_5068e : ByteArray := prog_15_method_29_code
def yJ11_lowSurrogate_5068e : MethodName := ⟨RJ11, "lowSurrogate", "(I)C"⟩
def RJxb160c : String := "java/lang/Comparable"
def TJxb160c : u_T := fun k => match k with
  | _ => ("", "", "", false)
def tyJxb160c : Nat → FieldType := fun k => match k with
  | _ => .int
abbrev wsJxb160c0 : List Cond := u_ws RJxb160c TJxb160c 0
theorem nmJxb160c : ∀ a, a < 0 → ∀ b, b < 0 → a ≠ b → (TJxb160c a).2.1 ≠ (TJxb160c b).2.1 := by decide +kernel
theorem tyJxb160c_ok : ∀ k, k < 0 → parseFieldDescriptor (TJxb160c k).2.2.1 = some (tyJxb160c k) := by decide +kernel
def RJ6 : String := "java/lang/Integer"
def TJ6 : u_T := fun k => match k with
  | _ => ("", "", "", false)
def tyJ6 : Nat → FieldType := fun k => match k with
  | _ => .int
abbrev wsJ60 : List Cond := u_ws RJ6 TJ6 0
theorem nmJ6 : ∀ a, a < 0 → ∀ b, b < 0 → a ≠ b → (TJ6 a).2.1 ≠ (TJ6 b).2.1 := by decide +kernel
theorem tyJ6_ok : ∀ k, k < 0 → parseFieldDescriptor (TJ6 k).2.2.1 = some (tyJ6 k) := by decide +kernel
abbrev cJ6_bitCount_0f7a4 : ByteArray := prog_16_method_49_code
def yJ6_bitCount_0f7a4 : MethodName := ⟨RJ6, "bitCount", "(I)I"⟩
def RJ9 : String := "java/lang/Math"
def TJ9 : u_T := fun k => match k with
  | _ => ("", "", "", false)
def tyJ9 : Nat → FieldType := fun k => match k with
  | _ => .int
abbrev wsJ90 : List Cond := u_ws RJ9 TJ9 0
theorem nmJ9 : ∀ a, a < 0 → ∀ b, b < 0 → a ≠ b → (TJ9 a).2.1 ≠ (TJ9 b).2.1 := by decide +kernel
theorem tyJ9_ok : ∀ k, k < 0 → parseFieldDescriptor (TJ9 k).2.2.1 = some (tyJ9 k) := by decide +kernel
abbrev cJ9_abs_0f7a4 : ByteArray := prog_17_method_59_code
def yJ9_abs_0f7a4 : MethodName := ⟨RJ9, "abs", "(I)I"⟩
abbrev cJ9_max_7cf53 : ByteArray := prog_17_method_65_code
def yJ9_max_7cf53 : MethodName := ⟨RJ9, "max", "(II)I"⟩
abbrev cJ9_min_7cf53 : ByteArray := prog_17_method_69_code
def yJ9_min_7cf53 : MethodName := ⟨RJ9, "min", "(II)I"⟩
abbrev cJ9_min_f86c9 : ByteArray := prog_17_method_70_code
def yJ9_min_f86c9 : MethodName := ⟨RJ9, "min", "(JJ)J"⟩
def RJ0 : String := "java/lang/String"
def TJ0 : u_T := fun k => match k with
  | _ => ("", "", "", false)
def tyJ0 : Nat → FieldType := fun k => match k with
  | _ => .int
abbrev wsJ00 : List Cond := u_ws RJ0 TJ0 0
theorem nmJ0 : ∀ a, a < 0 → ∀ b, b < 0 → a ≠ b → (TJ0 a).2.1 ≠ (TJ0 b).2.1 := by decide +kernel
theorem tyJ0_ok : ∀ k, k < 0 → parseFieldDescriptor (TJ0 k).2.2.1 = some (tyJ0 k) := by decide +kernel
abbrev cJ0_length_8abf5 : ByteArray := prog_18_method_54_code
def yJ0_length_8abf5 : MethodName := ⟨RJ0, "length", "()I"⟩
abbrev cJ0_indexOf_0f7a4 : ByteArray := prog_18_method_79_code
def yJ0_indexOf_0f7a4 : MethodName := ⟨RJ0, "indexOf", "(I)I"⟩
abbrev cJ0_indexOf_7cf53 : ByteArray := prog_18_method_80_code
def yJ0_indexOf_7cf53 : MethodName := ⟨RJ0, "indexOf", "(II)I"⟩
abbrev cJ0_coder_7d493 : ByteArray := prog_18_method_152_code
def yJ0_coder_7d493 : MethodName := ⟨RJ0, "coder", "()B"⟩
abbrev cJ0_isLatin1_aae02 : ByteArray := prog_18_method_154_code
def yJ0_isLatin1_aae02 : MethodName := ⟨RJ0, "isLatin1", "()Z"⟩
abbrev cJ0_checkBoundsBeginEnd_23922 : ByteArray := prog_18_method_158_code
def yJ0_checkBoundsBeginEnd_23922 : MethodName := ⟨RJ0, "checkBoundsBeginEnd", "(III)V"⟩
def RJ1 : String := "java/lang/StringLatin1"
def TJ1 : u_T := fun k => match k with
  | _ => ("", "", "", false)
def tyJ1 : Nat → FieldType := fun k => match k with
  | _ => .int
abbrev wsJ10 : List Cond := u_ws RJ1 TJ1 0
theorem nmJ1 : ∀ a, a < 0 → ∀ b, b < 0 → a ≠ b → (TJ1 a).2.1 ≠ (TJ1 b).2.1 := by decide +kernel
theorem tyJ1_ok : ∀ k, k < 0 → parseFieldDescriptor (TJ1 k).2.2.1 = some (tyJ1 k) := by decide +kernel
abbrev cJ1_canEncode_9a6ad : ByteArray := prog_19_method_4_code
def yJ1_canEncode_9a6ad : MethodName := ⟨RJ1, "canEncode", "(I)Z"⟩
abbrev cJ1_indexOf_4cfef : ByteArray := prog_19_method_22_code
def yJ1_indexOf_4cfef : MethodName := ⟨RJ1, "indexOf", "([BIII)I"⟩
abbrev cJ1_indexOfChar_4cfef : ByteArray := prog_19_method_23_code
def yJ1_indexOfChar_4cfef : MethodName := ⟨RJ1, "indexOfChar", "([BIII)I"⟩
def RJ2 : String := "java/lang/StringUTF16"
def TJ2 : u_T := fun k => match k with
  | _ => ("", "", "", false)
def tyJ2 : Nat → FieldType := fun k => match k with
  | _ => .int
abbrev wsJ20 : List Cond := u_ws RJ2 TJ2 0
theorem nmJ2 : ∀ a, a < 0 → ∀ b, b < 0 → a ≠ b → (TJ2 a).2.1 ≠ (TJ2 b).2.1 := by decide +kernel
theorem tyJ2_ok : ∀ k, k < 0 → parseFieldDescriptor (TJ2 k).2.2.1 = some (tyJ2 k) := by decide +kernel
abbrev cJ2_getChar_3b067 : ByteArray := prog_20_method_5_code
def yJ2_getChar_3b067 : MethodName := ⟨RJ2, "getChar", "([BI)C"⟩
abbrev cJ2_length_9d52b : ByteArray := prog_20_method_6_code
def yJ2_length_9d52b : MethodName := ⟨RJ2, "length", "([B)I"⟩
abbrev cJ2_indexOf_4cfef : ByteArray := prog_20_method_40_code
def yJ2_indexOf_4cfef : MethodName := ⟨RJ2, "indexOf", "([BIII)I"⟩
abbrev cJ2_indexOfChar_4cfef : ByteArray := prog_20_method_47_code
def yJ2_indexOfChar_4cfef : MethodName := ⟨RJ2, "indexOfChar", "([BIII)I"⟩
abbrev cJ2_indexOfCharUnsafe_4cfef : ByteArray := prog_20_method_48_code
def yJ2_indexOfCharUnsafe_4cfef : MethodName := ⟨RJ2, "indexOfCharUnsafe", "([BIII)I"⟩
abbrev cJ2_indexOfSupplementary_4cfef : ByteArray := prog_20_method_49_code
def yJ2_indexOfSupplementary_4cfef : MethodName := ⟨RJ2, "indexOfSupplementary", "([BIII)I"⟩
abbrev cJ2_checkBoundsBeginEnd_d044e : ByteArray := prog_20_method_93_code
def yJ2_checkBoundsBeginEnd_d044e : MethodName := ⟨RJ2, "checkBoundsBeginEnd", "(II[B)V"⟩
def RJ10 : String := "java/lang/System"
def TJ10 : u_T := fun k => match k with
  | _ => ("", "", "", false)
def tyJ10 : Nat → FieldType := fun k => match k with
  | _ => .int
abbrev wsJ100 : List Cond := u_ws RJ10 TJ10 0
theorem nmJ10 : ∀ a, a < 0 → ∀ b, b < 0 → a ≠ b → (TJ10 a).2.1 ≠ (TJ10 b).2.1 := by decide +kernel
theorem tyJ10_ok : ∀ k, k < 0 → parseFieldDescriptor (TJ10 k).2.2.1 = some (tyJ10 k) := by decide +kernel
def RJxfd54e : String := "java/lang/constant/Constable"
def TJxfd54e : u_T := fun k => match k with
  | _ => ("", "", "", false)
def tyJxfd54e : Nat → FieldType := fun k => match k with
  | _ => .int
abbrev wsJxfd54e0 : List Cond := u_ws RJxfd54e TJxfd54e 0
theorem nmJxfd54e : ∀ a, a < 0 → ∀ b, b < 0 → a ≠ b → (TJxfd54e a).2.1 ≠ (TJxfd54e b).2.1 := by decide +kernel
theorem tyJxfd54e_ok : ∀ k, k < 0 → parseFieldDescriptor (TJxfd54e k).2.2.1 = some (tyJxfd54e k) := by decide +kernel
def RJx3cf43 : String := "java/lang/constant/ConstantDesc"
def TJx3cf43 : u_T := fun k => match k with
  | _ => ("", "", "", false)
def tyJx3cf43 : Nat → FieldType := fun k => match k with
  | _ => .int
abbrev wsJx3cf430 : List Cond := u_ws RJx3cf43 TJx3cf43 0
theorem nmJx3cf43 : ∀ a, a < 0 → ∀ b, b < 0 → a ≠ b → (TJx3cf43 a).2.1 ≠ (TJx3cf43 b).2.1 := by decide +kernel
theorem tyJx3cf43_ok : ∀ k, k < 0 → parseFieldDescriptor (TJx3cf43 k).2.2.1 = some (tyJx3cf43 k) := by decide +kernel
def RJ7 : String := "java/util/Arrays"
def TJ7 : u_T := fun k => match k with
  | _ => ("", "", "", false)
def tyJ7 : Nat → FieldType := fun k => match k with
  | _ => .int
abbrev wsJ70 : List Cond := u_ws RJ7 TJ7 0
theorem nmJ7 : ∀ a, a < 0 → ∀ b, b < 0 → a ≠ b → (TJ7 a).2.1 ≠ (TJ7 b).2.1 := by decide +kernel
theorem tyJ7_ok : ∀ k, k < 0 → parseFieldDescriptor (TJ7 k).2.2.1 = some (tyJ7 k) := by decide +kernel
abbrev cJ7_fill_d0a16 : ByteArray := prog_22_method_101_code
def yJ7_fill_d0a16 : MethodName := ⟨RJ7, "fill", "([JJ)V"⟩
abbrev cJ7_fill_53178 : ByteArray := prog_22_method_103_code
def yJ7_fill_53178 : MethodName := ⟨RJ7, "fill", "([II)V"⟩
def RJ3 : String := "jdk/internal/util/Preconditions"
def TJ3 : u_T := fun k => match k with
  | _ => ("", "", "", false)
def tyJ3 : Nat → FieldType := fun k => match k with
  | _ => .int
abbrev wsJ30 : List Cond := u_ws RJ3 TJ3 0
theorem nmJ3 : ∀ a, a < 0 → ∀ b, b < 0 → a ≠ b → (TJ3 a).2.1 ≠ (TJ3 b).2.1 := by decide +kernel
theorem tyJ3_ok : ∀ k, k < 0 → parseFieldDescriptor (TJ3 k).2.2.1 = some (tyJ3 k) := by decide +kernel
abbrev cJ3_checkFromToIndex_8c36e : ByteArray := prog_23_method_12_code
def yJ3_checkFromToIndex_8c36e : MethodName := ⟨RJ3, "checkFromToIndex", "(IIILjava/util/function/BiFunction;)I"⟩
def RL : String := "PuzzleWedLaw"
abbrev cL_law : ByteArray := code
def yL_law : MethodName := ⟨RL, "law", "([I)Z"⟩
abbrev vwCl : List vw_C := [(RX0, TX0, 11), (RX1, TX1, 4), (RX2, TX2, 2), (RX3, TX3, 15), (RX4, TX4, 7), (RX5, TX5, 5), (RX6, TX6, 8), (RX8, TX8, 11), (RX9, TX9, 8), (RX10, TX10, 2), (RX11, TX11, 15), (RX12, TX12, 47)]
end
section
-- the objects of the world: kind (a class of vwCl, or 20 int[], 21 long[], 22 byte[], 23 int[][]) and length
def shT : List (Nat × Nat) := [(10, 15), (11, 47), (3, 15), (20, 12), (20, 12), (20, 12), (20, 12), (20, 12), (20, 12), (20, 12), (23, 12), (23, 12), (20, 12), (20, 12), (20, 8), (20, 8), (20, 8), (20, 8), (20, 8), (20, 8), (20, 8), (20, 8), (20, 8), (20, 8), (20, 8), (20, 8), (20, 144), (20, 144), (20, 144), (20, 144), (20, 144), (20, 144), (20, 144), (20, 144), (20, 144), (20, 144), (20, 144), (20, 144), (3, 15), (20, 12), (20, 12), (20, 12), (20, 12), (20, 12), (20, 12), (20, 12), (23, 12), (23, 12), (20, 12), (20, 12), (20, 8), (20, 8), (20, 8), (20, 8), (20, 8), (20, 8), (20, 8), (20, 8), (20, 8), (20, 8), (20, 8), (20, 8), (20, 144), (20, 144), (20, 144), (20, 144), (20, 144), (20, 144), (20, 144), (20, 144), (20, 144), (20, 144), (20, 144), (20, 144), (3, 15), (20, 12), (20, 12), (20, 12), (20, 12), (20, 12), (20, 12), (20, 12), (23, 12), (23, 12), (20, 12), (20, 12), (20, 8), (20, 8), (20, 8), (20, 8), (20, 8), (20, 8), (20, 8), (20, 8), (20, 8), (20, 8), (20, 8), (20, 8), (20, 144), (20, 144), (20, 144), (20, 144), (20, 144), (20, 144), (20, 144), (20, 144), (20, 144), (20, 144), (20, 144), (20, 144), (9, 2), (20, 260), (4, 7), (20, 512), (20, 16), (20, 16), (20, 16), (20, 64), (4, 7), (20, 512), (20, 16), (20, 16), (20, 16), (20, 64), (5, 5), (6, 8), (20, 144), (2, 2), (20, 11), (1, 4), (0, 11), (20, 12), (20, 12), (20, 12), (23, 12), (20, 12), (20, 12), (20, 12), (20, 12), (20, 12), (20, 12), (20, 12), (20, 12), (20, 12), (20, 12), (20, 12), (20, 12), (20, 4096), (20, 12), (8, 8), (20, 6), (23, 6), (20, 6), (20, 6), (20, 6), (20, 6), (20, 6), (20, 6), (20, 6), (20, 6), (7, 11), (20, 8), (21, 3721), (21, 19), (20, 19), (20, 19), (20, 8), (20, 1936), (20, 1936), (20, 1936), (22, 260), (20, 260), (20, 260), (20, 16), (20, 16), (20, 16), (20, 16), (20, 260), (20, 16), (20, 16), (20, 16), (20, 16), (20, 260), (20, 11), (20, 8), (20, 144), (20, 12), (20, 144), (20, 144), (20, 53248), (20, 12), (20, 12), (20, 6), (20, 33489), (20, 8)]
def rfT : List (List Nat) := [[2, 38, 74, 0, 110, 112, 118, 124, 125, 127, 129, 130, 149, 160, 166], [167, 168, 169, 170, 0, 0, 0, 0, 0, 0, 0, 0, 0, 0, 171, 172, 173, 174, 175, 176, 177, 178, 179, 180, 181, 182, 183, 184, 185, 0, 0, 0, 0, 0, 186, 187, 188, 189, 190, 191, 192, 193, 194, 0, 0, 0, 0], [0, 0, 3, 4, 5, 6, 7, 8, 9, 10, 11, 12, 13, 0, 0], [], [], [], [], [], [], [], [14, 15, 16, 17, 18, 19, 20, 21, 22, 23, 24, 25], [26, 27, 28, 29, 30, 31, 32, 33, 34, 35, 36, 37], [], [], [], [], [], [], [], [], [], [], [], [], [], [], [], [], [], [], [], [], [], [], [], [], [], [], [0, 0, 39, 40, 41, 42, 43, 44, 45, 46, 47, 48, 49, 0, 0], [], [], [], [], [], [], [], [50, 51, 52, 53, 54, 55, 56, 57, 58, 59, 60, 61], [62, 63, 64, 65, 66, 67, 68, 69, 70, 71, 72, 73], [], [], [], [], [], [], [], [], [], [], [], [], [], [], [], [], [], [], [], [], [], [], [], [], [], [], [0, 0, 75, 76, 77, 78, 79, 80, 81, 82, 83, 84, 85, 0, 0], [], [], [], [], [], [], [], [86, 87, 88, 89, 90, 91, 92, 93, 94, 95, 96, 97], [98, 99, 100, 101, 102, 103, 104, 105, 106, 107, 108, 109], [], [], [], [], [], [], [], [], [], [], [], [], [], [], [], [], [], [], [], [], [], [], [], [], [], [], [111, 0], [], [113, 114, 115, 116, 117, 0, 0], [], [], [], [], [], [119, 120, 121, 122, 123, 0, 0], [], [], [], [], [], [110, 0, 0, 0, 118], [110, 0, 0, 0, 126, 0, 0, 0], [], [112, 128], [], [127, 0, 0, 0], [127, 131, 0, 0, 132, 133, 0, 0, 134, 147, 148], [], [], [], [135, 136, 137, 138, 139, 140, 141, 142, 143, 144, 145, 146], [], [], [], [], [], [], [], [], [], [], [], [], [], [], [110, 0, 150, 151, 158, 159, 0, 0], [], [152, 153, 154, 155, 156, 157], [], [], [], [], [], [], [], [], [161, 0, 0, 0, 0, 162, 163, 164, 165, 0, 0], [], [], [], [], [], [], [], [], [], [], [], [], [], [], [], [], [], [], [], [], [], [], [], [], [], [], [], [], [], [], [], [], [], []]
def fkT : List (List Bool) := [[true, true, false, false, true, true, false, false, true, true, true], [true, false, false, false], [true, true], [false, false, true, true, true, true, true, true, true, true, true, true, true, false, false], [true, true, true, true, true, false, false], [true, false, false, false, true], [true, false, false, false, true, false, false, false], [true, false, false, false, false, true, true, true, true, false, false], [true, false, true, true, true, true, false, false], [true, false], [true, true, true, false, true, true, true, true, true, true, true, true, true, true, true], [true, true, true, true, false, false, false, false, false, false, false, false, false, false, true, true, true, true, true, true, true, true, true, true, true, true, true, true, true, false, false, false, false, false, true, true, true, true, true, true, true, true, true, false, false, false, false]]
def fzT : List (List Bool) := [[false, false, false, false, false, false, false, false, false, false, false], [false, false, false, false], [false, false], [false, false, false, false, false, false, false, false, false, false, false, false, false, false, false], [false, false, false, false, false, false, false], [false, false, false, false, false], [false, false, false, false, false, false, false, false], [false, true, false, false, false, false, false, false, false, false, false], [false, false, false, false, false, false, false, false], [false, false], [false, false, false, true, false, false, false, false, false, false, false, false, false, false, false], [false, false, false, false, false, false, false, false, false, false, false, false, false, false, false, false, false, false, false, false, false, false, false, false, false, false, false, false, false, false, false, false, false, false, false, false, false, false, false, false, false, false, false, false, false, false, true]]
def fnT : List (List Bool) := [[true, true, false, false, true, true, false, false, true, true, true], [true, false, false, false], [true, true], [false, false, true, true, true, true, true, true, true, true, true, true, true, false, false], [true, true, true, true, true, false, false], [true, false, false, false, true], [true, false, false, false, true, false, false, false], [true, false, false, false, false, true, true, true, true, false, false], [true, false, true, true, true, true, false, false], [true, false], [true, true, true, false, true, true, true, true, true, true, true, true, true, true, true], [true, true, true, true, false, false, false, false, false, false, false, false, false, false, true, true, true, true, true, true, true, true, true, true, true, true, true, true, true, false, false, false, false, false, true, true, true, true, true, true, true, true, true, false, false, false, false]]
abbrev shN : Nat := 195
-- (own class, place, class, field, the class that the reference names, the words' places)
def fpl : List (String × Nat × Nat × Nat × String × Nat × Nat) := [(RX3, 55, 3, 0, "PuzzleWed$Land", 149, 0), (RX11, 111, 3, 0, "PuzzleWed$Land", 150, 0), (RX11, 115, 3, 1, "PuzzleWed$Land", 151, 0), (RX3, 58, 3, 1, "PuzzleWed$Land", 152, 0), (RX3, 9, 3, 2, "PuzzleWed$Land", 153, 0), (RX0, 55, 3, 2, "PuzzleWed$Land", 154, 0), (RX11, 118, 3, 2, "PuzzleWed$Land", 155, 0), (RX1, 81, 3, 2, "PuzzleWed$Land", 156, 0), (RX2, 70, 3, 2, "PuzzleWed$Land", 157, 0), (RX3, 15, 3, 3, "PuzzleWed$Land", 158, 0), (RX11, 121, 3, 3, "PuzzleWed$Land", 159, 0), (RX1, 51, 3, 3, "PuzzleWed$Land", 160, 0), (RX2, 109, 3, 3, "PuzzleWed$Land", 161, 0), (RX3, 18, 3, 4, "PuzzleWed$Land", 162, 0), (RX1, 88, 3, 4, "PuzzleWed$Land", 163, 0), (RX2, 67, 3, 4, "PuzzleWed$Land", 164, 0), (RX11, 207, 3, 4, "PuzzleWed$Land", 165, 0), (RX3, 21, 3, 5, "PuzzleWed$Land", 166, 0), (RX1, 105, 3, 5, "PuzzleWed$Land", 167, 0), (RX2, 115, 3, 5, "PuzzleWed$Land", 168, 0), (RX11, 220, 3, 5, "PuzzleWed$Land", 169, 0), (RX3, 24, 3, 6, "PuzzleWed$Land", 170, 0), (RX11, 229, 3, 6, "PuzzleWed$Land", 171, 0), (RX3, 27, 3, 7, "PuzzleWed$Land", 172, 0), (RX2, 25, 3, 7, "PuzzleWed$Land", 173, 0), (RX11, 236, 3, 7, "PuzzleWed$Land", 174, 0), (RX3, 30, 3, 8, "PuzzleWed$Land", 175, 0), (RX11, 124, 3, 8, "PuzzleWed$Land", 176, 0), (RX2, 38, 3, 8, "PuzzleWed$Land", 177, 0), (RX3, 35, 3, 9, "PuzzleWed$Land", 178, 0), (RX2, 30, 3, 9, "PuzzleWed$Land", 179, 0), (RX11, 163, 3, 9, "PuzzleWed$Land", 180, 0), (RX3, 38, 3, 10, "PuzzleWed$Land", 181, 0), (RX1, 54, 3, 10, "PuzzleWed$Land", 182, 0), (RX11, 179, 3, 10, "PuzzleWed$Land", 183, 0), (RX3, 41, 3, 11, "PuzzleWed$Land", 184, 0), (RX1, 48, 3, 11, "PuzzleWed$Land", 185, 0), (RX11, 188, 3, 11, "PuzzleWed$Land", 186, 0), (RX3, 44, 3, 12, "PuzzleWed$Land", 187, 0), (RX1, 40, 3, 12, "PuzzleWed$Land", 188, 0), (RX11, 194, 3, 12, "PuzzleWed$Land", 189, 0), (RX1, 25, 3, 13, "PuzzleWed$Land", 190, 0), (RX2, 112, 3, 13, "PuzzleWed$Land", 191, 0), (RX3, 75, 3, 13, "PuzzleWed$Land", 192, 0), (RX11, 360, 3, 13, "PuzzleWed$Land", 193, 0), (RX3, 47, 3, 14, "PuzzleWed$Land", 194, 0), (RX11, 357, 3, 14, "PuzzleWed$Land", 195, 0), (RX10, 9, 9, 0, "PuzzleWed$Tape", 234, 0), (RX9, 46, 9, 0, "PuzzleWed$Tape", 235, 0), (RX7, 25, 9, 0, "PuzzleWed$Tape", 236, 0), (RX11, 338, 9, 0, "PuzzleWed$Tape", 237, 0), (RX10, 15, 9, 1, "PuzzleWed$Tape", 238, 0), (RX11, 141, 9, 1, "PuzzleWed$Tape", 239, 0), (RX4, 11, 4, 0, "PuzzleWed$Law", 251, 0), (RX5, 92, 4, 0, "PuzzleWed$Law", 252, 0), (RX4, 15, 4, 1, "PuzzleWed$Law", 253, 0), (RX5, 54, 4, 1, "PuzzleWed$Law", 254, 0), (RX2, 83, 4, 1, "PuzzleWed$Law", 255, 0), (RX4, 18, 4, 2, "PuzzleWed$Law", 256, 0), (RX5, 58, 4, 2, "PuzzleWed$Law", 257, 0), (RX2, 93, 4, 2, "PuzzleWed$Law", 258, 0), (RX4, 21, 4, 3, "PuzzleWed$Law", 259, 0), (RX5, 67, 4, 3, "PuzzleWed$Law", 260, 0), (RX2, 86, 4, 3, "PuzzleWed$Law", 261, 0), (RX4, 24, 4, 4, "PuzzleWed$Law", 262, 0), (RX4, 27, 4, 5, "PuzzleWed$Law", 263, 0), (RX5, 19, 4, 5, "PuzzleWed$Law", 264, 0), (RX5, 25, 4, 6, "PuzzleWed$Law", 265, 0), (RX4, 37, 4, 6, "PuzzleWed$Law", 266, 0), (RX11, 156, 4, 6, "PuzzleWed$Law", 267, 0), (RX2, 77, 4, 6, "PuzzleWed$Law", 268, 0), (RX5, 9, 5, 4, "PuzzleWed$LawReader", 293, 0), (RX7, 9, 5, 0, "PuzzleWed$Reader", 294, 0), (RX7, 9, 6, 0, "PuzzleWed$Reader", 294, 0), (RX7, 15, 5, 1, "PuzzleWed$Reader", 295, 0), (RX7, 15, 6, 1, "PuzzleWed$Reader", 295, 0), (RX5, 76, 5, 1, "PuzzleWed$LawReader", 296, 297), (RX7, 19, 5, 2, "PuzzleWed$Reader", 298, 0), (RX7, 19, 6, 2, "PuzzleWed$Reader", 298, 0), (RX6, 23, 6, 2, "PuzzleWed$ListReader", 299, 300), (RX5, 43, 5, 2, "PuzzleWed$LawReader", 301, 302), (RX7, 22, 5, 3, "PuzzleWed$Reader", 303, 0), (RX7, 22, 6, 3, "PuzzleWed$Reader", 303, 0), (RX11, 150, 5, 3, "PuzzleWed$LawReader", 304, 305), (RX11, 162, 6, 3, "PuzzleWed$ListReader", 306, 307), (RX6, 9, 6, 4, "PuzzleWed$ListReader", 325, 0), (RX11, 167, 6, 4, "PuzzleWed$ListReader", 326, 0), (RX6, 19, 6, 5, "PuzzleWed$ListReader", 327, 0), (RX11, 191, 6, 5, "PuzzleWed$ListReader", 328, 0), (RX6, 55, 6, 6, "PuzzleWed$ListReader", 329, 0), (RX6, 34, 6, 7, "PuzzleWed$ListReader", 330, 0), (RX2, 9, 2, 0, "PuzzleWed$Judge", 350, 0), (RX2, 15, 2, 1, "PuzzleWed$Judge", 351, 0), (RX1, 9, 1, 0, "PuzzleWed$Course", 363, 0), (RX1, 15, 1, 1, "PuzzleWed$Course", 364, 0), (RX11, 201, 1, 1, "PuzzleWed$Course", 365, 0), (RX1, 19, 1, 2, "PuzzleWed$Course", 366, 0), (RX11, 210, 1, 2, "PuzzleWed$Course", 367, 0), (RX1, 22, 1, 3, "PuzzleWed$Course", 368, 0), (RX11, 213, 1, 3, "PuzzleWed$Course", 369, 0), (RX0, 9, 0, 0, "PuzzleWed$Couples", 386, 0), (RX0, 15, 0, 1, "PuzzleWed$Couples", 387, 0), (RX11, 266, 0, 1, "PuzzleWed$Couples", 388, 0), (RX0, 43, 0, 2, "PuzzleWed$Couples", 389, 0), (RX11, 260, 0, 2, "PuzzleWed$Couples", 390, 0), (RX0, 46, 0, 3, "PuzzleWed$Couples", 391, 0), (RX11, 263, 0, 3, "PuzzleWed$Couples", 392, 0), (RX0, 19, 0, 4, "PuzzleWed$Couples", 393, 0), (RX0, 22, 0, 5, "PuzzleWed$Couples", 394, 0), (RX0, 36, 0, 6, "PuzzleWed$Couples", 395, 0), (RX0, 40, 0, 7, "PuzzleWed$Couples", 396, 0), (RX0, 27, 0, 8, "PuzzleWed$Couples", 397, 0), (RX0, 30, 0, 9, "PuzzleWed$Couples", 398, 0), (RX0, 33, 0, 10, "PuzzleWed$Couples", 399, 0), (RX9, 9, 8, 0, "PuzzleWed$Search", 430, 0), (RX9, 39, 8, 1, "PuzzleWed$Search", 431, 0), (RX9, 15, 8, 2, "PuzzleWed$Search", 432, 0), (RX9, 21, 8, 3, "PuzzleWed$Search", 433, 0), (RX9, 24, 8, 4, "PuzzleWed$Search", 434, 0), (RX9, 27, 8, 5, "PuzzleWed$Search", 435, 0), (RX11, 285, 8, 5, "PuzzleWed$Search", 436, 0), (RX9, 51, 8, 6, "PuzzleWed$Search", 437, 0), (RX9, 43, 8, 7, "PuzzleWed$Search", 438, 0), (RX8, 9, 7, 0, "PuzzleWed$Sander", 462, 0), (RX11, 308, 7, 0, "PuzzleWed$Sander", 463, 0), (RX8, 81, 7, 1, "PuzzleWed$Sander", 464, 0), (RX11, 302, 7, 1, "PuzzleWed$Sander", 465, 0), (RX8, 85, 7, 2, "PuzzleWed$Sander", 466, 0), (RX11, 305, 7, 2, "PuzzleWed$Sander", 467, 0), (RX8, 94, 7, 3, "PuzzleWed$Sander", 468, 0), (RX11, 323, 7, 3, "PuzzleWed$Sander", 469, 0), (RX8, 97, 7, 4, "PuzzleWed$Sander", 470, 0), (RX11, 326, 7, 4, "PuzzleWed$Sander", 471, 0), (RX8, 25, 7, 5, "PuzzleWed$Sander", 472, 0), (RX8, 15, 7, 6, "PuzzleWed$Sander", 473, 0), (RX8, 19, 7, 7, "PuzzleWed$Sander", 474, 0), (RX8, 22, 7, 8, "PuzzleWed$Sander", 475, 0), (RX8, 63, 7, 9, "PuzzleWed$Sander", 476, 0), (RX8, 67, 7, 10, "PuzzleWed$Sander", 477, 0), (RX11, 12, 10, 0, "PuzzleWed", 502, 0), (RX11, 16, 10, 1, "PuzzleWed", 503, 0), (RX11, 19, 10, 2, "PuzzleWed", 504, 0), (RX11, 22, 10, 3, "PuzzleWed", 505, 0), (RX11, 29, 10, 4, "PuzzleWed", 506, 0), (RX11, 36, 10, 5, "PuzzleWed", 507, 0), (RX11, 40, 10, 6, "PuzzleWed", 508, 0), (RX11, 48, 10, 7, "PuzzleWed", 509, 0), (RX11, 57, 10, 8, "PuzzleWed", 510, 0), (RX11, 66, 10, 9, "PuzzleWed", 511, 0), (RX11, 75, 10, 10, "PuzzleWed", 512, 0), (RX11, 82, 10, 11, "PuzzleWed", 513, 0), (RX11, 89, 10, 12, "PuzzleWed", 514, 0), (RX11, 96, 10, 13, "PuzzleWed", 515, 0), (RX11, 100, 10, 14, "PuzzleWed", 516, 0), (RX12, 7, 11, 0, "PuzzleWedModel", 1214, 0), (RX12, 13, 11, 1, "PuzzleWedModel", 1215, 0), (RX12, 16, 11, 2, "PuzzleWedModel", 1216, 0), (RX12, 19, 11, 3, "PuzzleWedModel", 1217, 0), (RX12, 126, 11, 4, "PuzzleWedModel", 1218, 0), (RX12, 133, 11, 5, "PuzzleWedModel", 1219, 0), (RX12, 136, 11, 6, "PuzzleWedModel", 1220, 0), (RX12, 143, 11, 7, "PuzzleWedModel", 1221, 0), (RX12, 149, 11, 8, "PuzzleWedModel", 1222, 0), (RX12, 160, 11, 9, "PuzzleWedModel", 1223, 0), (RX12, 156, 11, 10, "PuzzleWedModel", 1224, 0), (RX12, 163, 11, 11, "PuzzleWedModel", 1225, 0), (RX12, 213, 11, 12, "PuzzleWedModel", 1226, 0), (RX12, 225, 11, 13, "PuzzleWedModel", 1227, 0), (RX12, 23, 11, 14, "PuzzleWedModel", 1228, 0), (RX12, 26, 11, 15, "PuzzleWedModel", 1229, 0), (RX12, 29, 11, 16, "PuzzleWedModel", 1230, 0), (RX12, 32, 11, 17, "PuzzleWedModel", 1231, 0), (RX12, 35, 11, 18, "PuzzleWedModel", 1232, 0), (RX12, 38, 11, 19, "PuzzleWedModel", 1233, 0), (RX12, 41, 11, 20, "PuzzleWedModel", 1234, 0), (RX12, 44, 11, 21, "PuzzleWedModel", 1235, 0), (RX12, 47, 11, 22, "PuzzleWedModel", 1236, 0), (RX12, 50, 11, 23, "PuzzleWedModel", 1237, 0), (RX12, 53, 11, 24, "PuzzleWedModel", 1238, 0), (RX12, 56, 11, 25, "PuzzleWedModel", 1239, 0), (RX12, 59, 11, 26, "PuzzleWedModel", 1240, 0), (RX12, 62, 11, 27, "PuzzleWedModel", 1241, 0), (RX12, 65, 11, 28, "PuzzleWedModel", 1242, 0), (RX12, 268, 11, 29, "PuzzleWedModel", 1243, 0), (RX12, 274, 11, 30, "PuzzleWedModel", 1244, 0), (RX12, 289, 11, 31, "PuzzleWedModel", 1245, 0), (RX12, 280, 11, 32, "PuzzleWedModel", 1246, 0), (RX12, 302, 11, 33, "PuzzleWedModel", 1247, 0), (RX12, 68, 11, 34, "PuzzleWedModel", 1248, 0), (RX12, 71, 11, 35, "PuzzleWedModel", 1249, 0), (RX12, 74, 11, 36, "PuzzleWedModel", 1250, 0), (RX12, 78, 11, 37, "PuzzleWedModel", 1251, 0), (RX12, 81, 11, 38, "PuzzleWedModel", 1252, 0), (RX12, 84, 11, 39, "PuzzleWedModel", 1253, 0), (RX12, 87, 11, 40, "PuzzleWedModel", 1254, 0), (RX12, 91, 11, 41, "PuzzleWedModel", 1255, 0), (RX12, 94, 11, 42, "PuzzleWedModel", 1256, 0), (RX12, 379, 11, 43, "PuzzleWedModel", 1257, 0), (RX12, 370, 11, 44, "PuzzleWedModel", 1258, 0), (RX12, 373, 11, 45, "PuzzleWedModel", 1259, 0), (RX12, 408, 11, 46, "PuzzleWedModel", 1260, 0)]
def cpl : List (String × Nat × Int32 × Nat) := [(RJ2, 227, 65536, 674), (RJ11, 110, 55232, 713), (RJ11, 76, 56320, 717), (RJ6, 265, 1431655765, 903), (RJ6, 266, 858993459, 904), (RJ6, 267, 252645135, 905), (RX3, 74, 65535, 936), (RX11, 356, 65535, 1185), (RX12, 77, 53248, 1212), (RX12, 90, 33489, 1213), (RX12, 159, 1048576, 1440), (RX12, 245, 1000000000, 1542), (RX12, 298, 65536, 1595), (RX12, 333, 49152, 1647), (RX12, 407, 65535, 1763)]
def cql : List (String × Nat × Int64 × Nat) := [(RX8, 74, 16983563041, 1114), (RX8, 76, 4611686018427387904, 1120), (RX8, 54, 19, 1128)]
def nestL : List (String × Nat × MethodName × String) := [(RX3, 51, yX11_isNumber, RX11), (RX2, 63, yX11_isNumber, RX11), (RX1, 91, yX11_isNumber, RX11)]
def strL : List (String × Nat × String) := [(RX5, 46, "flwcb"), (RX5, 108, "ijsxyuvdapq")]
def strN : List Nat := [5, 11]
def strB : List (List Int32) := [[102, 108, 119, 99, 98], [105, 106, 115, 120, 121, 117, 118, 100, 97, 112, 113]]
end
section
/-! THE SMALL MACHINE: a method's code as a list, its heap as numbers (what the objects are never changes once they are made) -/
def shk (a : Nat) : Nat := (shT.getD a (99, 0)).1
def shn (a : Nat) : Nat := (shT.getD a (99, 0)).2
def rfv (a k : Nat) : Nat := (rfT.getD a []).getD k 0
def fkr (c k : Nat) : Bool := (fkT.getD c []).getD k false
def fzr (c k : Nat) : Bool := (fzT.getD c []).getD k false
def fnl (c k : Nat) : Bool := (fnT.getD c []).getD k false
theorem shT_len : shT.length = shN := by decide +kernel
theorem shk_lt {a k : Nat} (h : shk a = k) (hk : k ≠ 99) : a < shN := by
  rcases Nat.lt_or_ge a shN with q | q
  · exact q
  · refine absurd ?_ hk
    rw [← h]
    unfold shk
    rw [List.getD_eq_getElem?_getD, List.getElem?_eq_none (by rw [shT_len]; exact q)]
    rfl
abbrev MH : Type := (Nat → Nat → Int32) × (Nat → Nat → Int64)
abbrev Mth : Type := MethodName × ByteArray × Nat × Option FieldType × String
abbrev MC : Type := Option Nat × List (Option Value) × List Value × MH
abbrev ME : Type := Nat × Instr × Nat × Int32 × Int64
/-- the world: classes' numbers, the arrays' classes, the objects' addresses, the strings', their bytes' -/
abbrev MD : Type := va_G × (ClassId × ClassId × ClassId × ClassId) × (Nat → Nat) × (Nat → Nat) × (Nat → Nat)
def mv (w : MD) : Value → Value
  | .ref i => .ref (w.2.2.1 i)
  | .retAddr i => .ref (w.2.2.2.1 i)
  | .float b => .ref (w.2.2.2.2 b.toNat)
  | v => v
theorem mv_cat (w : MD) (v : Value) : (mv w v).category = v.category := by cases v <;> rfl
def mtys (w : MD) : List (ClassId × FieldType) := [(w.2.1.1, .int), (w.2.1.2.1, .long), (w.2.1.2.2.1, .byte), (w.2.1.2.2.2, .array .int)]
def entF (w : MD) (σ : MH) (a : Nat) : List Value := (List.range (shn a)).map fun k => if fkr (shk a) k = true then .ref (w.2.2.1 (rfv a k)) else .int (σ.1 a k)
def ent (w : MD) (σ : MH) (a : Nat) : va_E :=
  if shk a = 20 then .inl (w.2.1.1, shn a, .inl (σ.1 a))
  else if shk a = 21 then .inl (w.2.1.2.1, shn a, .inr (.inl (σ.2 a)))
  else if shk a = 22 then .inl (w.2.1.2.2.1, shn a, .inl (σ.1 a))
  else if shk a = 23 then .inl (w.2.1.2.2.2, shn a, .inr (.inr (.inr (.inr (fun i => some (w.2.2.1 (rfv a i)))))))
  else .inr (shk a, entF w σ a)
def wsO (w : MD) (σ : MH) : va_W := (List.range shN).map fun a => (w.2.2.1 a, ent w σ a)
theorem wsO_get {w : MD} {σ : MH} {a : Nat} (h : a < shN) : (wsO w σ)[a]? = some (w.2.2.1 a, ent w σ a) := by
  unfold wsO
  rw [List.getElem?_map, List.getElem?_range h]
  rfl
theorem wsO_len (w : MD) (σ : MH) : (wsO w σ).length = shN := by simp [wsO]
theorem wsO_some {w : MD} {σ : MH} {a : Nat} {q : Nat × va_E} (h : (wsO w σ)[a]? = some q) : a < shN ∧ q = (w.2.2.1 a, ent w σ a) := by
  have h1 : a < shN := by
    have := (List.getElem?_eq_some_iff.mp h).1
    rwa [wsO_len] at this
  rw [wsO_get h1] at h
  exact ⟨h1, (Option.some.inj h).symm⟩
def sI (σ : MH) (a i : Nat) (v : Int32) : MH := (fun b => if b = a then upd (σ.1 b) i v else σ.1 b, σ.2)
def sJ (σ : MH) (a i : Nat) (v : Int64) : MH := (σ.1, fun b => if b = a then vp_updL (σ.2 b) i v else σ.2 b)
theorem wsO_upd {w : MD} {σ σ' : MH} {a : Nat} {e : va_E} (ha : a < shN) (he : ent w σ' a = e) (ho : ∀ b, b ≠ a → ent w σ' b = ent w σ b) : (wsO w σ).set a (w.2.2.1 a, e) = wsO w σ' := by
  apply List.ext_getElem?
  intro k
  rw [List.getElem?_set]
  by_cases hk : a = k
  · subst hk
    rw [if_pos rfl, if_pos (by rw [wsO_len]; exact ha), wsO_get ha, he]
  · rw [if_neg hk]
    by_cases hl : k < shN
    · rw [wsO_get hl, wsO_get hl, ho k (fun q => hk q.symm)]
    · rw [List.getElem?_eq_none (by rw [wsO_len]; omega), List.getElem?_eq_none (by rw [wsO_len]; omega)]
theorem ent_sI_ne {w : MD} {σ : MH} {a b i : Nat} {v : Int32} (h : b ≠ a) : ent w (sI σ a i v) b = ent w σ b := by
  unfold ent entF sI
  simp only [if_neg h]
theorem ent_sJ_ne {w : MD} {σ : MH} {a b i : Nat} {v : Int64} (h : b ≠ a) : ent w (sJ σ a i v) b = ent w σ b := by
  unfold ent entF sJ
  simp only [if_neg h]
theorem ent_i {w : MD} {σ : MH} {a : Nat} (h : shk a = 20) : ent w σ a = .inl (w.2.1.1, shn a, .inl (σ.1 a)) := by
  unfold ent; rw [if_pos h]
theorem ent_j {w : MD} {σ : MH} {a : Nat} (h : shk a = 21) : ent w σ a = .inl (w.2.1.2.1, shn a, .inr (.inl (σ.2 a))) := by
  unfold ent; rw [if_neg (by omega), if_pos h]
theorem ent_b {w : MD} {σ : MH} {a : Nat} (h : shk a = 22) : ent w σ a = .inl (w.2.1.2.2.1, shn a, .inl (σ.1 a)) := by
  unfold ent; rw [if_neg (by omega), if_neg (by omega), if_pos h]
theorem ent_r {w : MD} {σ : MH} {a : Nat} (h : shk a = 23) : ent w σ a = .inl (w.2.1.2.2.2, shn a, .inr (.inr (.inr (.inr (fun i => some (w.2.2.1 (rfv a i))))))) := by
  unfold ent; rw [if_neg (by omega), if_neg (by omega), if_neg (by omega), if_pos h]
theorem ent_o {w : MD} {σ : MH} {a c : Nat} (h : shk a = c) (hc : c < 20) : ent w σ a = .inr (c, entF w σ a) := by
  unfold ent; rw [if_neg (by omega), if_neg (by omega), if_neg (by omega), if_neg (by omega), h]
theorem wsO_sI {w : MD} {σ : MH} {a i : Nat} {v : Int32} (h : shk a = 20) : (wsO w σ).set a (w.2.2.1 a, .inl (w.2.1.1, shn a, .inl (upd (σ.1 a) i v))) = wsO w (sI σ a i v) := by
  refine wsO_upd (shk_lt h (by omega)) ?_ (fun b hb => ent_sI_ne hb)
  rw [ent_i h]; simp [sI]
theorem wsO_sB {w : MD} {σ : MH} {a i : Nat} {v : Int32} (h : shk a = 22) : (wsO w σ).set a (w.2.2.1 a, .inl (w.2.1.2.2.1, shn a, .inl (upd (σ.1 a) i v))) = wsO w (sI σ a i v) := by
  refine wsO_upd (shk_lt h (by omega)) ?_ (fun b hb => ent_sI_ne hb)
  rw [ent_b h]; simp [sI]
theorem wsO_sJ {w : MD} {σ : MH} {a i : Nat} {v : Int64} (h : shk a = 21) : (wsO w σ).set a (w.2.2.1 a, .inl (w.2.1.2.1, shn a, .inr (.inl (vp_updL (σ.2 a) i v)))) = wsO w (sJ σ a i v) := by
  refine wsO_upd (shk_lt h (by omega)) ?_ (fun b hb => ent_sJ_ne hb)
  rw [ent_j h]; simp [sJ]
theorem entF_get {w : MD} {σ : MH} {a k : Nat} (hk : k < shn a) : (entF w σ a)[k]? = some (if fkr (shk a) k = true then .ref (w.2.2.1 (rfv a k)) else .int (σ.1 a k)) := by
  unfold entF
  rw [List.getElem?_map, List.getElem?_range hk]
  rfl
theorem wsO_sF {w : MD} {σ : MH} {a c k : Nat} {v : Int32} (h : shk a = c) (hc : c < 20) (hk : k < shn a) (hf : fkr c k = false) : (wsO w σ).set a (w.2.2.1 a, .inr (c, (entF w σ a).set k (.int v))) = wsO w (sI σ a k v) := by
  refine wsO_upd (shk_lt h (by omega)) ?_ (fun b hb => ent_sI_ne hb)
  rw [ent_o h hc]
  congr 2
  apply List.ext_getElem?
  intro j
  rw [List.getElem?_set]
  have hlen : (entF w σ a).length = shn a := by simp [entF]
  by_cases hj : k = j
  · subst hj
    rw [if_pos rfl, if_pos (by rw [hlen]; exact hk), entF_get hk]
    rw [h, hf]
    simp [sI, upd]
  · rw [if_neg hj]
    by_cases hl : j < shn a
    · rw [entF_get hl, entF_get hl]
      simp only [sI, upd, if_true, if_neg (fun q : j = k => hj q.symm)]
    · rw [List.getElem?_eq_none (by simp [entF]; omega), List.getElem?_eq_none (by simp [entF]; omega)]
/-- the locals: what is known of them -/
def lvm (w : MD) (ls : Array Slot) (nL : Nat) (L : List (Option Value)) : Prop := ls.size = nL ∧ lv_wf ls ∧ ∀ (i : Nat) (v : Value), L[i]? = some (some v) → ls[i]? = some (.val (mv w v))
/-- no long stands just below -/
def nlb (L : List (Option Value)) (i : Nat) : Bool := match i with
  | 0 => true
  | k + 1 => match L.getD k none with
    | some v => v.category == 1
    | none => true
theorem lvm_st1 {w : MD} {ls : Array Slot} {nL i : Nat} {L : List (Option Value)} {v : Value} (h : lvm w ls nL L) (hi : i < nL) (hc : v.category = 1) (hp : nlb L i = true) :
    ∃ ls', storeLocals ls i (mv w v) = some ls' ∧ lvm w ls' nL (L.set i (some v)) := by
  obtain ⟨h1, h2, h3⟩ := h
  have hcm : (mv w v).category = 1 := by rw [mv_cat]; exact hc
  obtain ⟨ls', e, f1, f2, f3⟩ := lv_store1 (l := []) (v := mv w v) ⟨h1, h2, fun q hq => by cases hq⟩ hi hcm
  refine ⟨ls', e, f1, f2, fun j u hj => ?_⟩
  rw [List.getElem?_set] at hj
  by_cases hij : i = j
  · subst hij
    rw [if_pos rfl] at hj
    split at hj
    · cases hj; exact f3 (i, mv w v) (by simp)
    · cases hj
  · rw [if_neg hij] at hj
    obtain ⟨ls2, e2, g1, g2, g3⟩ := lv_store1 (l := [(j, mv w u)]) (v := mv w v) ⟨h1, h2, fun q hq => by
      rw [List.mem_singleton.mp hq]; exact h3 j u hj⟩ hi hcm
    rw [e] at e2
    cases e2
    refine g3 (j, mv w u) (List.mem_cons_of_mem _ (List.mem_filter.mpr ⟨List.mem_singleton.mpr rfl, ?_⟩))
    have hne : (j == i) = false := by simp; exact fun q => hij q.symm
    simp only [hne, Bool.not_false, Bool.true_and, Bool.not_eq_true', Bool.and_eq_false_iff]
    by_cases hj1 : j + 1 = i
    · subst hj1
      right
      simp only [nlb, List.getD_eq_getElem?_getD, hj, Option.getD_some] at hp
      rw [mv_cat]
      simp only [beq_iff_eq] at hp
      rw [hp]; rfl
    · left; simpa using hj1
theorem lvm_st2 {w : MD} {ls : Array Slot} {nL i : Nat} {L : List (Option Value)} {v : Value} (h : lvm w ls nL L) (hi : i + 1 < nL) (hc : v.category = 2) (hp : nlb L i = true) :
    ∃ ls', storeLocals ls i (mv w v) = some ls' ∧ lvm w ls' nL ((L.set i (some v)).set (i + 1) none) := by
  obtain ⟨h1, h2, h3⟩ := h
  have hcm : (mv w v).category = 2 := by rw [mv_cat]; exact hc
  obtain ⟨ls', e, f1, f2, f3⟩ := lv_store2 (l := []) (v := mv w v) ⟨h1, h2, fun q hq => by cases hq⟩ hi hcm
  refine ⟨ls', e, f1, f2, fun j u hj => ?_⟩
  rw [List.getElem?_set] at hj
  by_cases hij1 : i + 1 = j
  · subst hij1
    rw [if_pos rfl] at hj
    split at hj <;> cases hj
  rw [if_neg hij1, List.getElem?_set] at hj
  by_cases hij : i = j
  · subst hij
    rw [if_pos rfl] at hj
    split at hj
    · cases hj; exact f3 (i, mv w v) (by simp)
    · cases hj
  · rw [if_neg hij] at hj
    obtain ⟨ls2, e2, g1, g2, g3⟩ := lv_store2 (l := [(j, mv w u)]) (v := mv w v) ⟨h1, h2, fun q hq => by
      rw [List.mem_singleton.mp hq]; exact h3 j u hj⟩ hi hcm
    rw [e] at e2
    cases e2
    refine g3 (j, mv w u) (List.mem_cons_of_mem _ (List.mem_filter.mpr ⟨List.mem_singleton.mpr rfl, ?_⟩))
    have hne : (j == i) = false := by simp; exact fun q => hij q.symm
    have hne1 : (j == i + 1) = false := by simp; exact fun q => hij1 q.symm
    simp only [hne, hne1, Bool.not_false, Bool.true_and, Bool.not_eq_true', Bool.and_eq_false_iff]
    by_cases hj1 : j + 1 = i
    · subst hj1
      right
      simp only [nlb, List.getD_eq_getElem?_getD, hj, Option.getD_some] at hp
      rw [mv_cat]
      simp only [beq_iff_eq] at hp
      rw [hp]; rfl
    · left; simpa using hj1
theorem lvm_get {w : MD} {ls : Array Slot} {nL i : Nat} {L : List (Option Value)} {v : Value} (h : lvm w ls nL L) (hl : L.getD i none = some v) : ls[i]? = some (.val (mv w v)) := by
  refine h.2.2 i v ?_
  rw [List.getD_eq_getElem?_getD] at hl
  cases q : L[i]? with
  | none => rw [q] at hl; cases hl
  | some o => rw [q] at hl; simp only [Option.getD_some] at hl; rw [hl]
end
section
/-! WHAT THE TABLES AND THE CODES ARE HELD AGAINST -/
def TBG : List Cond := lw_tbl.filter goodWord
theorem TBG_mem {w : Cond} {i : Nat} (h : lw_tbl[i]? = some w) (hg : goodWord w = true) : w ∈ TBG := List.mem_filter.mpr ⟨List.mem_of_getElem? h, hg⟩
theorem TBG_good : ∀ w ∈ TBG, (w.onTables && w.keeps) = true ∨ ∃ ty, w = .arrayClass ty := fun w h => good_of_word (List.mem_filter.mp h).2
theorem blt_lt {a b : Nat} (h : Nat.blt a b = true) : a < b := Nat.le_of_ble_eq_true h
abbrev PL : Type := List (Nat × Nat) × List (Nat × Int32) × List (Nat × Int64) × List (Nat × Nat)
def ilen : Instr → Nat
  | .bipush _ => 2 | .sipush _ => 3 | .ldc _ => 2 | .ldc_w _ => 3 | .ldc2_w _ => 3 | .iload _ => 2 | .lload _ => 2 | .aload _ => 2 | .istore _ => 2 | .lstore _ => 2 | .astore _ => 2
  | .iinc _ _ => 3 | .goto _ => 3 | .getfield _ => 3 | .putfield _ => 3 | .ifCond _ _ => 3 | .if_icmp _ _ => 3 | .ifnonnull _ => 3 | .ifnull _ => 3 | .invokestatic _ => 3 | .invokevirtual _ => 3 | .invokespecial _ => 3
  | _ => 1
/-- what an entry of the code list must keep, beside its decoding -/
def exE (P : PL) (pc : Nat) (I : Instr) (aux : Nat) (v : Int32) (w : Int64) : Bool :=
  match I with
  | .iconst n => decide (Int32.ofInt n = v)
  | .bipush n => decide ((Int8.ofInt n).toInt32 = v)
  | .sipush n => decide ((Int16.ofInt n).toInt32 = v)
  | .ldc n => P.2.1.any (fun q => Nat.beq q.1 n && decide (q.2 = v))
  | .ldc_w n => P.2.1.any (fun q => Nat.beq q.1 n && decide (q.2 = v))
  | .ldc2_w n => P.2.2.1.any (fun q => Nat.beq q.1 n && decide (q.2 = w))
  | .lconst n => decide (Int64.ofNat n.val = w)
  | .iinc _ n => decide (Int32.ofInt n = v)
  | .goto off => decide ((pc : Int) + off = (aux : Int))
  | .ifCond _ off => decide ((pc : Int) + off = (aux : Int))
  | .if_icmp _ off => decide ((pc : Int) + off = (aux : Int))
  | .ifnonnull off => decide ((pc : Int) + off = (aux : Int))
  | .ifnull off => decide ((pc : Int) + off = (aux : Int))
  | .arraylength => decide (Int32.ofNat aux = v)
  | .getfield n => P.1.any (fun q => Nat.beq q.1 n && Nat.beq q.2 aux)
  | .putfield n => P.1.any (fun q => Nat.beq q.1 n && Nat.beq q.2 aux)
  | _ => true
def okE (M : Mth) (P : PL) (E : ME) : Prop := decode M.2.1 E.1 = .ok (E.2.1, ilen E.2.1) ∧ exE P E.1 E.2.1 E.2.2.1 E.2.2.2.1 E.2.2.2.2 = true
/-- a field's reference: its words -/
def FOK (own : String) (idx aux : Nat) : Prop := ∃ (C : String) (T : u_T) (N : Nat) (ref : String), vwCl[aux / 64]? = some (C, T, N) ∧ aux / 64 < 20 ∧ aux % 64 < N ∧ (∀ a, shk a = aux / 64 → shn a = N) ∧ (∀ w ∈ u_ws C T N, w ∈ TBG) ∧ Cond.fieldLink own idx ref (T (aux % 64)).2.1 (T (aux % 64)).2.2.1 ∈ TBG ∧ (ref = (T (aux % 64)).1 ∨ Cond.sameField ref (T (aux % 64)).1 (T (aux % 64)).2.1 (T (aux % 64)).2.2.1 ∈ TBG) ∧
  (fnl (aux / 64) (aux % 64) = (T (aux % 64)).2.2.2) ∧ (fkr (aux / 64) (aux % 64) = false → parseFieldDescriptor (T (aux % 64)).2.2.1 = some (if fzr (aux / 64) (aux % 64) = true then .boolean else .int)) ∧ (∃ ty : Nat → FieldType, ∀ k, k < N → parseFieldDescriptor (T k).2.2.1 = some (ty k)) ∧ (∀ a, a < N → ∀ b, b < N → a ≠ b → (T a).2.1 ≠ (T b).2.1)
def PLOK (own : String) (P : PL) : Prop := (∀ q ∈ P.1, FOK own q.1 q.2) ∧ (∀ q ∈ P.2.1, Cond.constant own q.1 q.2 ∈ TBG) ∧ (∀ q ∈ P.2.2.1, Cond.constantLong own q.1 q.2 ∈ TBG) ∧ (∀ q ∈ P.2.2.2, ∃ tx, strL[q.2]? = some (own, q.1, tx))
/-- a method's code list, right -/
def BK (M : Mth) (cd : List ME) : Prop := ∃ P : PL, PLOK M.2.2.2.2 P ∧ ∀ E ∈ cd, okE M P E
/-- a callee: its words -/
def NK (N : Mth) (n : Nat) : Prop := Cond.code N.1 N.2.1 N.2.2.1 N.2.2.2.1 ∈ TBG ∧ Cond.initialized N.1.cls ∈ TBG ∧ (N.1.cls ≠ "java/lang/invoke/MethodHandle" ∧ N.1.cls ≠ "java/lang/invoke/VarHandle") ∧ (parseMethodDescriptor N.1.desc).map (fun q => q.parameters.length) = some n ∧ N.2.2.1 ≤ 45
end
section
theorem in_t1 : ∀ w ∈ tables_1_1, w ∈ lw_tbl := fun w h => List.mem_append_right _ (show w ∈ tables_1 from List.mem_append_left _ h)
theorem in_t2 : ∀ w ∈ tables_1_2, w ∈ lw_tbl := fun w h => List.mem_append_right _ (show w ∈ tables_1 from List.mem_append_right _ (List.mem_append_left _ h))
theorem in_t3 : ∀ w ∈ tables_1_3, w ∈ lw_tbl := fun w h => List.mem_append_right _ (show w ∈ tables_1 from List.mem_append_right _ (List.mem_append_right _ (List.mem_append_left _ h)))
theorem in_t4 : ∀ w ∈ tables_1_4, w ∈ lw_tbl := fun w h => List.mem_append_right _ (show w ∈ tables_1 from List.mem_append_right _ (List.mem_append_right _ (List.mem_append_right _ (List.mem_append_left _ h))))
theorem in_t5 : ∀ w ∈ tables_1_5, w ∈ lw_tbl := fun w h => List.mem_append_right _ (show w ∈ tables_1 from List.mem_append_right _ (List.mem_append_right _ (List.mem_append_right _ (List.mem_append_right _ (List.mem_append_left _ h)))))
theorem in_t6 : ∀ w ∈ tables_1_6, w ∈ lw_tbl := fun w h => List.mem_append_right _ (show w ∈ tables_1 from List.mem_append_right _ (List.mem_append_right _ (List.mem_append_right _ (List.mem_append_right _ (List.mem_append_right _ (List.mem_append_left _ h))))))
theorem in_t7 : ∀ w ∈ tables_1_7, w ∈ lw_tbl := fun w h => List.mem_append_right _ (show w ∈ tables_1 from List.mem_append_right _ (List.mem_append_right _ (List.mem_append_right _ (List.mem_append_right _ (List.mem_append_right _ (List.mem_append_right _ (h)))))))
theorem tw0 : (.selects RX5 yX5_readClause yX5_readClause : Cond) ∈ TBG := TBG_mem (i := 0) (by decide +kernel) rfl
theorem tw1 : (.selects RX5 yX5_readSum yX5_readSum : Cond) ∈ TBG := TBG_mem (i := 1) (by decide +kernel) rfl
theorem tw2 : (.selects RX5 yX5_readProduct yX5_readProduct : Cond) ∈ TBG := TBG_mem (i := 2) (by decide +kernel) rfl
theorem tw3 : (.selects RX5 yX5_readFactor yX5_readFactor : Cond) ∈ TBG := TBG_mem (i := 3) (by decide +kernel) rfl
theorem tw4 : (.selects RX5 yX5_pass yX5_pass : Cond) ∈ TBG := TBG_mem (i := 4) (by decide +kernel) rfl
theorem tw5 : (.selects RX5 yX5_readNumber yX5_readNumber : Cond) ∈ TBG := TBG_mem (i := 5) (by decide +kernel) rfl
theorem tw6 : (.selects RX5 yX5_readEither yX5_readEither : Cond) ∈ TBG := TBG_mem (i := 6) (by decide +kernel) rfl
theorem tw7 : (.selects RX5 yX5_readBoth yX5_readBoth : Cond) ∈ TBG := TBG_mem (i := 7) (by decide +kernel) rfl
theorem tw8 : (.selects RX5 yX5_readTest yX5_readTest : Cond) ∈ TBG := TBG_mem (i := 8) (by decide +kernel) rfl
theorem tw9 : (.selects RX5 yX5_readInner yX5_readInner : Cond) ∈ TBG := TBG_mem (i := 9) (by decide +kernel) rfl
theorem tw10 : (.selects RX5 yX5_emitJump yX5_emitJump : Cond) ∈ TBG := TBG_mem (i := 10) (by decide +kernel) rfl
theorem tw11 : (.selects RX5 yX5_land yX5_land : Cond) ∈ TBG := TBG_mem (i := 11) (by decide +kernel) rfl
theorem tw12 : (.selects RX6 yX6_readHeight yX6_readHeight : Cond) ∈ TBG := TBG_mem (i := 12) (by decide +kernel) rfl
theorem tw13 : (.selects RX6 yX6_readTimes yX6_readTimes : Cond) ∈ TBG := TBG_mem (i := 13) (by decide +kernel) rfl
theorem tw14 : (.selects RX6 yX6_put yX6_put : Cond) ∈ TBG := TBG_mem (i := 14) (by decide +kernel) rfl
theorem tw15 : (.selects RX1 yX1_travel yX1_travel : Cond) ∈ TBG := TBG_mem (i := 15) (by decide +kernel) rfl
theorem tw16 : (.selects RX1 yX1_meet yX1_meet : Cond) ∈ TBG := TBG_mem (i := 16) (by decide +kernel) rfl
theorem tw17 : (.selects RX2 yX2_fill yX2_fill : Cond) ∈ TBG := TBG_mem (i := 17) (by decide +kernel) rfl
theorem tw18 : (.selects RX1 yX1_strain yX1_strain : Cond) ∈ TBG := TBG_mem (i := 18) (by decide +kernel) rfl
theorem tw19 : (.selects RX11 yX11_whomItFits yX11_whomItFits : Cond) ∈ TBG := TBG_mem (i := 19) (by decide +kernel) rfl
theorem tw20 : (.selects RX11 yX11_fitsAbove yX11_fitsAbove : Cond) ∈ TBG := TBG_mem (i := 20) (by decide +kernel) rfl
theorem tw21 : (.selects RX0 yX0_gather yX0_gather : Cond) ∈ TBG := TBG_mem (i := 21) (by decide +kernel) rfl
theorem tw22 : (.selects RX0 yX0_weighAll yX0_weighAll : Cond) ∈ TBG := TBG_mem (i := 22) (by decide +kernel) rfl
theorem tw23 : (.selects RX0 yX0_setBest yX0_setBest : Cond) ∈ TBG := TBG_mem (i := 23) (by decide +kernel) rfl
theorem tw24 : (.selects RX0 yX0_bestOf yX0_bestOf : Cond) ∈ TBG := TBG_mem (i := 24) (by decide +kernel) rfl
theorem tw25 : (.selects RX0 yX0_withBond yX0_withBond : Cond) ∈ TBG := TBG_mem (i := 25) (by decide +kernel) rfl
theorem tw26 : (.selects RX0 yX0_choose yX0_choose : Cond) ∈ TBG := TBG_mem (i := 26) (by decide +kernel) rfl
theorem tw27 : (.selects RX0 yX0_askNext yX0_askNext : Cond) ∈ TBG := TBG_mem (i := 27) (by decide +kernel) rfl
theorem tw28 : (.selects RX0 yX0_prefers yX0_prefers : Cond) ∈ TBG := TBG_mem (i := 28) (by decide +kernel) rfl
theorem tw29 : (.selects RX11 yX11_wouldLeave yX11_wouldLeave : Cond) ∈ TBG := TBG_mem (i := 29) (by decide +kernel) rfl
theorem tw30 : (.selects RX11 yX11_likingNow yX11_likingNow : Cond) ∈ TBG := TBG_mem (i := 30) (by decide +kernel) rfl
theorem tw31 : (.selects RX9 yX9_weigh yX9_weigh : Cond) ∈ TBG := TBG_mem (i := 31) (by decide +kernel) rfl
theorem tw32 : (.selects RX9 yX9_nextOrder yX9_nextOrder : Cond) ∈ TBG := TBG_mem (i := 32) (by decide +kernel) rfl
theorem tw33 : (.selects RX9 yX9_swap yX9_swap : Cond) ∈ TBG := TBG_mem (i := 33) (by decide +kernel) rfl
theorem tw34 : (.selects RX9 yX9_commonDivisor yX9_commonDivisor : Cond) ∈ TBG := TBG_mem (i := 34) (by decide +kernel) rfl
theorem tw35 : (.selects RX11 yX11_canSand yX11_canSand : Cond) ∈ TBG := TBG_mem (i := 35) (by decide +kernel) rfl
theorem tw36 : (.selects RX8 yX8_weigh yX8_weigh : Cond) ∈ TBG := TBG_mem (i := 36) (by decide +kernel) rfl
theorem tw37 : (.selects RX8 yX8_bestHere yX8_bestHere : Cond) ∈ TBG := TBG_mem (i := 37) (by decide +kernel) rfl
theorem tw38 : (.selects RX8 yX8_leastOf yX8_leastOf : Cond) ∈ TBG := TBG_mem (i := 38) (by decide +kernel) rfl
theorem tw39 : (.selects RX8 yX8_read yX8_read : Cond) ∈ TBG := TBG_mem (i := 39) (by decide +kernel) rfl
theorem tw40 : (.selects RX11 yX11_fitOthers yX11_fitOthers : Cond) ∈ TBG := TBG_mem (i := 40) (by decide +kernel) rfl
theorem tw41 : (.selects RX11 yX11_rulesAll yX11_rulesAll : Cond) ∈ TBG := TBG_mem (i := 41) (by decide +kernel) rfl
theorem tw42 : (.selects RX11 yX11_cut yX11_cut : Cond) ∈ TBG := TBG_mem (i := 42) (by decide +kernel) rfl
theorem tw43 : (.selects RX11 yX11_madeBy yX11_madeBy : Cond) ∈ TBG := TBG_mem (i := 43) (by decide +kernel) rfl
theorem tw44 : (.selects RX12 yX12_isPerson yX12_isPerson : Cond) ∈ TBG := TBG_mem (i := 44) (by decide +kernel) rfl
theorem tw45 : (.selects RX12 yX12_lives yX12_lives : Cond) ∈ TBG := TBG_mem (i := 45) (by decide +kernel) rfl
theorem tw46 : (.selects RX12 yX12_parts yX12_parts : Cond) ∈ TBG := TBG_mem (i := 46) (by decide +kernel) rfl
theorem tw47 : (.selects RX12 yX12_isFree yX12_isFree : Cond) ∈ TBG := TBG_mem (i := 47) (by decide +kernel) rfl
theorem tw48 : (.selects RX12 yX12_wedsTwo yX12_wedsTwo : Cond) ∈ TBG := TBG_mem (i := 48) (by decide +kernel) rfl
theorem tw49 : (.selects RX12 yX12_types yX12_types : Cond) ∈ TBG := TBG_mem (i := 49) (by decide +kernel) rfl
theorem tw50 : (.selects RX12 yX12_readsClause yX12_readsClause : Cond) ∈ TBG := TBG_mem (i := 50) (by decide +kernel) rfl
theorem tw51 : (.selects RX12 yX12_here yX12_here : Cond) ∈ TBG := TBG_mem (i := 51) (by decide +kernel) rfl
theorem tw52 : (.selects RX12 yX12_wrongAt yX12_wrongAt : Cond) ∈ TBG := TBG_mem (i := 52) (by decide +kernel) rfl
theorem tw53 : (.selects RX12 yX12_readsSum yX12_readsSum : Cond) ∈ TBG := TBG_mem (i := 53) (by decide +kernel) rfl
theorem tw54 : (.selects RX12 yX12_readsFactor yX12_readsFactor : Cond) ∈ TBG := TBG_mem (i := 54) (by decide +kernel) rfl
theorem tw55 : (.selects RX12 yX12_opens yX12_opens : Cond) ∈ TBG := TBG_mem (i := 55) (by decide +kernel) rfl
theorem tw56 : (.selects RX12 yX12_isDigit yX12_isDigit : Cond) ∈ TBG := TBG_mem (i := 56) (by decide +kernel) rfl
theorem tw57 : (.selects RX12 yX12_readsNumber yX12_readsNumber : Cond) ∈ TBG := TBG_mem (i := 57) (by decide +kernel) rfl
theorem tw58 : (.selects RX12 yX12_notes yX12_notes : Cond) ∈ TBG := TBG_mem (i := 58) (by decide +kernel) rfl
theorem tw59 : (.selects RX12 yX12_closesSums yX12_closesSums : Cond) ∈ TBG := TBG_mem (i := 59) (by decide +kernel) rfl
theorem tw60 : (.selects RX12 yX12_waitTop yX12_waitTop : Cond) ∈ TBG := TBG_mem (i := 60) (by decide +kernel) rfl
theorem tw61 : (.selects RX12 yX12_hasOpenSum yX12_hasOpenSum : Cond) ∈ TBG := TBG_mem (i := 61) (by decide +kernel) rfl
theorem tw62 : (.selects RX12 yX12_readsCondition yX12_readsCondition : Cond) ∈ TBG := TBG_mem (i := 62) (by decide +kernel) rfl
theorem tw63 : (.selects RX12 yX12_readsCompared yX12_readsCompared : Cond) ∈ TBG := TBG_mem (i := 63) (by decide +kernel) rfl
theorem tw64 : (.selects RX12 yX12_endsPiece yX12_endsPiece : Cond) ∈ TBG := TBG_mem (i := 64) (by decide +kernel) rfl
theorem tw65 : (.selects RX12 yX12_lands yX12_lands : Cond) ∈ TBG := TBG_mem (i := 65) (by decide +kernel) rfl
theorem tw66 : (.selects RX12 yX12_jumps yX12_jumps : Cond) ∈ TBG := TBG_mem (i := 66) (by decide +kernel) rfl
theorem tw67 : (.selects RX12 yX12_takes yX12_takes : Cond) ∈ TBG := TBG_mem (i := 67) (by decide +kernel) rfl
theorem tw68 : (.selects RX12 yX12_readsHeight yX12_readsHeight : Cond) ∈ TBG := TBG_mem (i := 68) (by decide +kernel) rfl
theorem tw69 : (.selects RX12 yX12_readsStop yX12_readsStop : Cond) ∈ TBG := TBG_mem (i := 69) (by decide +kernel) rfl
theorem tw70 : (.selects RX12 yX12_daysGo yX12_daysGo : Cond) ∈ TBG := TBG_mem (i := 70) (by decide +kernel) rfl
theorem tw71 : (.selects RX12 yX12_travels yX12_travels : Cond) ∈ TBG := TBG_mem (i := 71) (by decide +kernel) rfl
theorem tw72 : (.selects RX12 yX12_triesIn yX12_triesIn : Cond) ∈ TBG := TBG_mem (i := 72) (by decide +kernel) rfl
theorem tw73 : (.selects RX12 yX12_haveTried yX12_haveTried : Cond) ∈ TBG := TBG_mem (i := 73) (by decide +kernel) rfl
theorem tw74 : (.selects RX12 yX12_fit yX12_fit : Cond) ∈ TBG := TBG_mem (i := 74) (by decide +kernel) rfl
theorem tw75 : (.selects RX12 yX12_slackBy yX12_slackBy : Cond) ∈ TBG := TBG_mem (i := 75) (by decide +kernel) rfl
theorem tw76 : (.selects RX12 yX12_slackOf yX12_slackOf : Cond) ∈ TBG := TBG_mem (i := 76) (by decide +kernel) rfl
theorem tw77 : (.selects RX12 yX12_heightOf yX12_heightOf : Cond) ∈ TBG := TBG_mem (i := 77) (by decide +kernel) rfl
theorem tw78 : (.selects RX12 yX12_allowed yX12_allowed : Cond) ∈ TBG := TBG_mem (i := 78) (by decide +kernel) rfl
theorem tw79 : (.selects RX12 yX12_feels yX12_feels : Cond) ∈ TBG := TBG_mem (i := 79) (by decide +kernel) rfl
theorem tw80 : (.selects RX12 yX12_byLaw yX12_byLaw : Cond) ∈ TBG := TBG_mem (i := 80) (by decide +kernel) rfl
theorem tw81 : (.selects RX12 yX12_comesTo yX12_comesTo : Cond) ∈ TBG := TBG_mem (i := 81) (by decide +kernel) rfl
theorem tw82 : (.selects RX12 yX12_wearsBy yX12_wearsBy : Cond) ∈ TBG := TBG_mem (i := 82) (by decide +kernel) rfl
theorem tw83 : (.selects RX12 yX12_wearsAll yX12_wearsAll : Cond) ∈ TBG := TBG_mem (i := 83) (by decide +kernel) rfl
theorem tw84 : (.selects RX12 yX12_creak yX12_creak : Cond) ∈ TBG := TBG_mem (i := 84) (by decide +kernel) rfl
theorem tw85 : (.selects RX12 yX12_draws yX12_draws : Cond) ∈ TBG := TBG_mem (i := 85) (by decide +kernel) rfl
theorem tw86 : (.selects RX12 yX12_wedTwos yX12_wedTwos : Cond) ∈ TBG := TBG_mem (i := 86) (by decide +kernel) rfl
theorem tw87 : (.selects RX12 yX12_fitting yX12_fitting : Cond) ∈ TBG := TBG_mem (i := 87) (by decide +kernel) rfl
theorem tw88 : (.selects RX12 yX12_likes yX12_likes : Cond) ∈ TBG := TBG_mem (i := 88) (by decide +kernel) rfl
theorem tw89 : (.selects RX12 yX12_laysFits yX12_laysFits : Cond) ∈ TBG := TBG_mem (i := 89) (by decide +kernel) rfl
theorem tw90 : (.selects RX12 yX12_isOne yX12_isOne : Cond) ∈ TBG := TBG_mem (i := 90) (by decide +kernel) rfl
theorem tw91 : (.selects RX12 yX12_laysMost yX12_laysMost : Cond) ∈ TBG := TBG_mem (i := 91) (by decide +kernel) rfl
theorem tw92 : (.selects RX12 yX12_mayGet yX12_mayGet : Cond) ∈ TBG := TBG_mem (i := 92) (by decide +kernel) rfl
theorem tw93 : (.selects RX12 yX12_getsBy yX12_getsBy : Cond) ∈ TBG := TBG_mem (i := 93) (by decide +kernel) rfl
theorem tw94 : (.selects RX12 yX12_laysStable yX12_laysStable : Cond) ∈ TBG := TBG_mem (i := 94) (by decide +kernel) rfl
theorem tw95 : (.selects RX12 yX12_nextAsked yX12_nextAsked : Cond) ∈ TBG := TBG_mem (i := 95) (by decide +kernel) rfl
theorem tw96 : (.selects RX12 yX12_keeps yX12_keeps : Cond) ∈ TBG := TBG_mem (i := 96) (by decide +kernel) rfl
theorem tw97 : (.selects RX12 yX12_likesWed yX12_likesWed : Cond) ∈ TBG := TBG_mem (i := 97) (by decide +kernel) rfl
theorem tw98 : (.selects RX12 yX12_areBounds yX12_areBounds : Cond) ∈ TBG := TBG_mem (i := 98) (by decide +kernel) rfl
theorem tw99 : (.selects RX12 yX12_readsRow yX12_readsRow : Cond) ∈ TBG := TBG_mem (i := 99) (by decide +kernel) rfl
theorem tw100 : (.selects RX12 yX12_sumBy yX12_sumBy : Cond) ∈ TBG := TBG_mem (i := 100) (by decide +kernel) rfl
theorem tw101 : (.selects RX12 yX12_laysWork yX12_laysWork : Cond) ∈ TBG := TBG_mem (i := 101) (by decide +kernel) rfl
theorem tw102 : (.selects RX12 yX12_workBy yX12_workBy : Cond) ∈ TBG := TBG_mem (i := 102) (by decide +kernel) rfl
theorem tw103 : (.selects RX12 yX12_workAt yX12_workAt : Cond) ∈ TBG := TBG_mem (i := 103) (by decide +kernel) rfl
theorem tw104 : (.selects RX12 yX12_laysSanded yX12_laysSanded : Cond) ∈ TBG := TBG_mem (i := 104) (by decide +kernel) rfl
theorem tw105 : (.selects RX12 yX12_slackOfSanded yX12_slackOfSanded : Cond) ∈ TBG := TBG_mem (i := 105) (by decide +kernel) rfl
theorem tw106 : (.selects RX12 yX12_slackSteamed yX12_slackSteamed : Cond) ∈ TBG := TBG_mem (i := 106) (by decide +kernel) rfl
theorem tw107 : (.selects RX12 yX12_makesAll yX12_makesAll : Cond) ∈ TBG := TBG_mem (i := 107) (by decide +kernel) rfl
theorem tw108 : (.selects RX12 yX12_makes yX12_makes : Cond) ∈ TBG := TBG_mem (i := 108) (by decide +kernel) rfl
theorem tw109 : (.selects RX12 yX12_areSame yX12_areSame : Cond) ∈ TBG := TBG_mem (i := 109) (by decide +kernel) rfl
theorem tw110 : (.initialized RL : Cond) ∈ TBG := TBG_mem (i := 110) (by decide +kernel) rfl
theorem tw111 : (.initialized RX11 : Cond) ∈ TBG := TBG_mem (i := 111) (by decide +kernel) rfl
theorem tw112 : (.initialized RX3 : Cond) ∈ TBG := TBG_mem (i := 112) (by decide +kernel) rfl
theorem tw113 : (.initialized RX10 : Cond) ∈ TBG := TBG_mem (i := 113) (by decide +kernel) rfl
theorem tw114 : (.initialized RX4 : Cond) ∈ TBG := TBG_mem (i := 114) (by decide +kernel) rfl
theorem tw115 : (.initialized RX7 : Cond) ∈ TBG := TBG_mem (i := 115) (by decide +kernel) rfl
theorem tw116 : (.initialized RX5 : Cond) ∈ TBG := TBG_mem (i := 116) (by decide +kernel) rfl
theorem tw117 : (.initialized RX6 : Cond) ∈ TBG := TBG_mem (i := 117) (by decide +kernel) rfl
theorem tw118 : (.initialized RX2 : Cond) ∈ TBG := TBG_mem (i := 118) (by decide +kernel) rfl
theorem tw119 : (.initialized RX1 : Cond) ∈ TBG := TBG_mem (i := 119) (by decide +kernel) rfl
theorem tw120 : (.initialized RX0 : Cond) ∈ TBG := TBG_mem (i := 120) (by decide +kernel) rfl
theorem tw121 : (.initialized RX9 : Cond) ∈ TBG := TBG_mem (i := 121) (by decide +kernel) rfl
theorem tw122 : (.initialized RX8 : Cond) ∈ TBG := TBG_mem (i := 122) (by decide +kernel) rfl
theorem tw123 : (.initialized RX12 : Cond) ∈ TBG := TBG_mem (i := 123) (by decide +kernel) rfl
theorem tw124 : (.initialized RJ0 : Cond) ∈ TBG := TBG_mem (i := 124) (by decide +kernel) rfl
theorem tw125 : (.initialized RJ1 : Cond) ∈ TBG := TBG_mem (i := 125) (by decide +kernel) rfl
theorem tw126 : (.initialized RJ9 : Cond) ∈ TBG := TBG_mem (i := 126) (by decide +kernel) rfl
theorem tw127 : (.initialized RJ2 : Cond) ∈ TBG := TBG_mem (i := 127) (by decide +kernel) rfl
theorem tw128 : (.initialized RJ3 : Cond) ∈ TBG := TBG_mem (i := 128) (by decide +kernel) rfl
theorem tw129 : (.initialized RJ11 : Cond) ∈ TBG := TBG_mem (i := 129) (by decide +kernel) rfl
theorem tw130 : (.initialized RJ10 : Cond) ∈ TBG := TBG_mem (i := 130) (by decide +kernel) rfl
theorem tw131 : (.initialized RJ7 : Cond) ∈ TBG := TBG_mem (i := 131) (by decide +kernel) rfl
theorem tw132 : (.initialized RJ6 : Cond) ∈ TBG := TBG_mem (i := 132) (by decide +kernel) rfl
theorem tw136 : (.instanceMethod yX11_init : Cond) ∈ TBG := TBG_mem (i := 136) (by decide +kernel) rfl
set_option maxRecDepth 20000 in
theorem tw137 : (.code yX11_init cX11_init 1 (none) : Cond) ∈ TBG := List.mem_filter.mpr ⟨in_t1 _ (List.mem_of_getElem? (i := 27) rfl), rfl⟩
theorem tw139 : (.instanceMethod ⟨"java/lang/Object", "<init>", "()V"⟩ : Cond) ∈ TBG := TBG_mem (i := 139) (by decide +kernel) rfl
theorem tw144 : (.instanceMethod yX3_init : Cond) ∈ TBG := TBG_mem (i := 144) (by decide +kernel) rfl
set_option maxRecDepth 20000 in
theorem tw145 : (.code yX3_init cX3_init 2 (none) : Cond) ∈ TBG := List.mem_filter.mpr ⟨in_t1 _ (List.mem_of_getElem? (i := 35) rfl), rfl⟩
theorem tw149 : (.fieldLink RX3 55 "PuzzleWed$Land" "told" "I" : Cond) ∈ TBG := TBG_mem (i := 149) (by decide +kernel) rfl
theorem tw150 : (.fieldLink RX11 111 "PuzzleWed$Land" "told" "I" : Cond) ∈ TBG := TBG_mem (i := 150) (by decide +kernel) rfl
theorem tw151 : (.fieldLink RX11 115 "PuzzleWed$Land" "living" "I" : Cond) ∈ TBG := TBG_mem (i := 151) (by decide +kernel) rfl
theorem tw152 : (.fieldLink RX3 58 "PuzzleWed$Land" "living" "I" : Cond) ∈ TBG := TBG_mem (i := 152) (by decide +kernel) rfl
theorem tw153 : (.fieldLink RX3 9 "PuzzleWed$Land" "side" "[I" : Cond) ∈ TBG := TBG_mem (i := 153) (by decide +kernel) rfl
theorem tw154 : (.fieldLink RX0 55 "PuzzleWed$Land" "side" "[I" : Cond) ∈ TBG := TBG_mem (i := 154) (by decide +kernel) rfl
theorem tw155 : (.fieldLink RX11 118 "PuzzleWed$Land" "side" "[I" : Cond) ∈ TBG := TBG_mem (i := 155) (by decide +kernel) rfl
theorem tw156 : (.fieldLink RX1 81 "PuzzleWed$Land" "side" "[I" : Cond) ∈ TBG := TBG_mem (i := 156) (by decide +kernel) rfl
theorem tw157 : (.fieldLink RX2 70 "PuzzleWed$Land" "side" "[I" : Cond) ∈ TBG := TBG_mem (i := 157) (by decide +kernel) rfl
theorem tw158 : (.fieldLink RX3 15 "PuzzleWed$Land" "town" "[I" : Cond) ∈ TBG := TBG_mem (i := 158) (by decide +kernel) rfl
theorem tw159 : (.fieldLink RX11 121 "PuzzleWed$Land" "town" "[I" : Cond) ∈ TBG := TBG_mem (i := 159) (by decide +kernel) rfl
theorem tw160 : (.fieldLink RX1 51 "PuzzleWed$Land" "town" "[I" : Cond) ∈ TBG := TBG_mem (i := 160) (by decide +kernel) rfl
theorem tw161 : (.fieldLink RX2 109 "PuzzleWed$Land" "town" "[I" : Cond) ∈ TBG := TBG_mem (i := 161) (by decide +kernel) rfl
theorem tw162 : (.fieldLink RX3 18 "PuzzleWed$Land" "wedTo" "[I" : Cond) ∈ TBG := TBG_mem (i := 162) (by decide +kernel) rfl
theorem tw163 : (.fieldLink RX1 88 "PuzzleWed$Land" "wedTo" "[I" : Cond) ∈ TBG := TBG_mem (i := 163) (by decide +kernel) rfl
theorem tw164 : (.fieldLink RX2 67 "PuzzleWed$Land" "wedTo" "[I" : Cond) ∈ TBG := TBG_mem (i := 164) (by decide +kernel) rfl
theorem tw165 : (.fieldLink RX11 207 "PuzzleWed$Land" "wedTo" "[I" : Cond) ∈ TBG := TBG_mem (i := 165) (by decide +kernel) rfl
theorem tw166 : (.fieldLink RX3 21 "PuzzleWed$Land" "creaks" "[I" : Cond) ∈ TBG := TBG_mem (i := 166) (by decide +kernel) rfl
theorem tw167 : (.fieldLink RX1 105 "PuzzleWed$Land" "creaks" "[I" : Cond) ∈ TBG := TBG_mem (i := 167) (by decide +kernel) rfl
theorem tw168 : (.fieldLink RX2 115 "PuzzleWed$Land" "creaks" "[I" : Cond) ∈ TBG := TBG_mem (i := 168) (by decide +kernel) rfl
theorem tw169 : (.fieldLink RX11 220 "PuzzleWed$Land" "creaks" "[I" : Cond) ∈ TBG := TBG_mem (i := 169) (by decide +kernel) rfl
theorem tw170 : (.fieldLink RX3 24 "PuzzleWed$Land" "triedBits" "[I" : Cond) ∈ TBG := TBG_mem (i := 170) (by decide +kernel) rfl
theorem tw171 : (.fieldLink RX11 229 "PuzzleWed$Land" "triedBits" "[I" : Cond) ∈ TBG := TBG_mem (i := 171) (by decide +kernel) rfl
theorem tw172 : (.fieldLink RX3 27 "PuzzleWed$Land" "holder" "[I" : Cond) ∈ TBG := TBG_mem (i := 172) (by decide +kernel) rfl
theorem tw173 : (.fieldLink RX2 25 "PuzzleWed$Land" "holder" "[I" : Cond) ∈ TBG := TBG_mem (i := 173) (by decide +kernel) rfl
theorem tw174 : (.fieldLink RX11 236 "PuzzleWed$Land" "holder" "[I" : Cond) ∈ TBG := TBG_mem (i := 174) (by decide +kernel) rfl
theorem tw175 : (.fieldLink RX3 30 "PuzzleWed$Land" "wear" "[I" : Cond) ∈ TBG := TBG_mem (i := 175) (by decide +kernel) rfl
theorem tw176 : (.fieldLink RX11 124 "PuzzleWed$Land" "wear" "[I" : Cond) ∈ TBG := TBG_mem (i := 176) (by decide +kernel) rfl
theorem tw177 : (.fieldLink RX2 38 "PuzzleWed$Land" "wear" "[I" : Cond) ∈ TBG := TBG_mem (i := 177) (by decide +kernel) rfl
theorem tw178 : (.fieldLink RX3 35 "PuzzleWed$Land" "height" "[[I" : Cond) ∈ TBG := TBG_mem (i := 178) (by decide +kernel) rfl
theorem tw179 : (.fieldLink RX2 30 "PuzzleWed$Land" "height" "[[I" : Cond) ∈ TBG := TBG_mem (i := 179) (by decide +kernel) rfl
theorem tw180 : (.fieldLink RX11 163 "PuzzleWed$Land" "height" "[[I" : Cond) ∈ TBG := TBG_mem (i := 180) (by decide +kernel) rfl
theorem tw181 : (.fieldLink RX3 38 "PuzzleWed$Land" "way" "[[I" : Cond) ∈ TBG := TBG_mem (i := 181) (by decide +kernel) rfl
theorem tw182 : (.fieldLink RX1 54 "PuzzleWed$Land" "way" "[[I" : Cond) ∈ TBG := TBG_mem (i := 182) (by decide +kernel) rfl
theorem tw183 : (.fieldLink RX11 179 "PuzzleWed$Land" "way" "[[I" : Cond) ∈ TBG := TBG_mem (i := 183) (by decide +kernel) rfl
theorem tw184 : (.fieldLink RX3 41 "PuzzleWed$Land" "wayLength" "[I" : Cond) ∈ TBG := TBG_mem (i := 184) (by decide +kernel) rfl
theorem tw185 : (.fieldLink RX1 48 "PuzzleWed$Land" "wayLength" "[I" : Cond) ∈ TBG := TBG_mem (i := 185) (by decide +kernel) rfl
theorem tw186 : (.fieldLink RX11 188 "PuzzleWed$Land" "wayLength" "[I" : Cond) ∈ TBG := TBG_mem (i := 186) (by decide +kernel) rfl
theorem tw187 : (.fieldLink RX3 44 "PuzzleWed$Land" "wayGone" "[I" : Cond) ∈ TBG := TBG_mem (i := 187) (by decide +kernel) rfl
theorem tw188 : (.fieldLink RX1 40 "PuzzleWed$Land" "wayGone" "[I" : Cond) ∈ TBG := TBG_mem (i := 188) (by decide +kernel) rfl
theorem tw189 : (.fieldLink RX11 194 "PuzzleWed$Land" "wayGone" "[I" : Cond) ∈ TBG := TBG_mem (i := 189) (by decide +kernel) rfl
theorem tw190 : (.fieldLink RX1 25 "PuzzleWed$Land" "day" "I" : Cond) ∈ TBG := TBG_mem (i := 190) (by decide +kernel) rfl
theorem tw191 : (.fieldLink RX2 112 "PuzzleWed$Land" "day" "I" : Cond) ∈ TBG := TBG_mem (i := 191) (by decide +kernel) rfl
theorem tw192 : (.fieldLink RX3 75 "PuzzleWed$Land" "day" "I" : Cond) ∈ TBG := TBG_mem (i := 192) (by decide +kernel) rfl
theorem tw193 : (.fieldLink RX11 360 "PuzzleWed$Land" "day" "I" : Cond) ∈ TBG := TBG_mem (i := 193) (by decide +kernel) rfl
theorem tw194 : (.fieldLink RX3 47 "PuzzleWed$Land" "x" "I" : Cond) ∈ TBG := TBG_mem (i := 194) (by decide +kernel) rfl
theorem tw195 : (.fieldLink RX11 357 "PuzzleWed$Land" "x" "I" : Cond) ∈ TBG := TBG_mem (i := 195) (by decide +kernel) rfl
theorem tw231 : (.instanceMethod yX10_init : Cond) ∈ TBG := TBG_mem (i := 231) (by decide +kernel) rfl
set_option maxRecDepth 20000 in
theorem tw232 : (.code yX10_init cX10_init 1 (none) : Cond) ∈ TBG := List.mem_filter.mpr ⟨in_t1 _ (List.mem_of_getElem? (i := 122) rfl), rfl⟩
theorem tw234 : (.fieldLink RX10 9 "PuzzleWed$Tape" "bytes" "[I" : Cond) ∈ TBG := TBG_mem (i := 234) (by decide +kernel) rfl
theorem tw235 : (.fieldLink RX9 46 "PuzzleWed$Tape" "bytes" "[I" : Cond) ∈ TBG := TBG_mem (i := 235) (by decide +kernel) rfl
theorem tw236 : (.fieldLink RX7 25 "PuzzleWed$Tape" "bytes" "[I" : Cond) ∈ TBG := TBG_mem (i := 236) (by decide +kernel) rfl
theorem tw237 : (.fieldLink RX11 338 "PuzzleWed$Tape" "bytes" "[I" : Cond) ∈ TBG := TBG_mem (i := 237) (by decide +kernel) rfl
theorem tw238 : (.fieldLink RX10 15 "PuzzleWed$Tape" "length" "I" : Cond) ∈ TBG := TBG_mem (i := 238) (by decide +kernel) rfl
theorem tw239 : (.fieldLink RX11 141 "PuzzleWed$Tape" "length" "I" : Cond) ∈ TBG := TBG_mem (i := 239) (by decide +kernel) rfl
theorem tw248 : (.instanceMethod yX4_init : Cond) ∈ TBG := TBG_mem (i := 248) (by decide +kernel) rfl
set_option maxRecDepth 20000 in
theorem tw249 : (.code yX4_init cX4_init 1 (none) : Cond) ∈ TBG := List.mem_filter.mpr ⟨in_t1 _ (List.mem_of_getElem? (i := 139) rfl), rfl⟩
theorem tw251 : (.fieldLink RX4 11 "PuzzleWed$Law" "code" "[I" : Cond) ∈ TBG := TBG_mem (i := 251) (by decide +kernel) rfl
theorem tw252 : (.fieldLink RX5 92 "PuzzleWed$Law" "code" "[I" : Cond) ∈ TBG := TBG_mem (i := 252) (by decide +kernel) rfl
theorem tw253 : (.fieldLink RX4 15 "PuzzleWed$Law" "letter" "[I" : Cond) ∈ TBG := TBG_mem (i := 253) (by decide +kernel) rfl
theorem tw254 : (.fieldLink RX5 54 "PuzzleWed$Law" "letter" "[I" : Cond) ∈ TBG := TBG_mem (i := 254) (by decide +kernel) rfl
theorem tw255 : (.fieldLink RX2 83 "PuzzleWed$Law" "letter" "[I" : Cond) ∈ TBG := TBG_mem (i := 255) (by decide +kernel) rfl
theorem tw256 : (.fieldLink RX4 18 "PuzzleWed$Law" "worthAt" "[I" : Cond) ∈ TBG := TBG_mem (i := 256) (by decide +kernel) rfl
theorem tw257 : (.fieldLink RX5 58 "PuzzleWed$Law" "worthAt" "[I" : Cond) ∈ TBG := TBG_mem (i := 257) (by decide +kernel) rfl
theorem tw258 : (.fieldLink RX2 93 "PuzzleWed$Law" "worthAt" "[I" : Cond) ∈ TBG := TBG_mem (i := 258) (by decide +kernel) rfl
theorem tw259 : (.fieldLink RX4 21 "PuzzleWed$Law" "whenAt" "[I" : Cond) ∈ TBG := TBG_mem (i := 259) (by decide +kernel) rfl
theorem tw260 : (.fieldLink RX5 67 "PuzzleWed$Law" "whenAt" "[I" : Cond) ∈ TBG := TBG_mem (i := 260) (by decide +kernel) rfl
theorem tw261 : (.fieldLink RX2 86 "PuzzleWed$Law" "whenAt" "[I" : Cond) ∈ TBG := TBG_mem (i := 261) (by decide +kernel) rfl
theorem tw262 : (.fieldLink RX4 24 "PuzzleWed$Law" "stack" "[I" : Cond) ∈ TBG := TBG_mem (i := 262) (by decide +kernel) rfl
theorem tw263 : (.fieldLink RX4 27 "PuzzleWed$Law" "used" "I" : Cond) ∈ TBG := TBG_mem (i := 263) (by decide +kernel) rfl
theorem tw264 : (.fieldLink RX5 19 "PuzzleWed$Law" "used" "I" : Cond) ∈ TBG := TBG_mem (i := 264) (by decide +kernel) rfl
theorem tw265 : (.fieldLink RX5 25 "PuzzleWed$Law" "clauses" "I" : Cond) ∈ TBG := TBG_mem (i := 265) (by decide +kernel) rfl
theorem tw266 : (.fieldLink RX4 37 "PuzzleWed$Law" "clauses" "I" : Cond) ∈ TBG := TBG_mem (i := 266) (by decide +kernel) rfl
theorem tw267 : (.fieldLink RX11 156 "PuzzleWed$Law" "clauses" "I" : Cond) ∈ TBG := TBG_mem (i := 267) (by decide +kernel) rfl
theorem tw268 : (.fieldLink RX2 77 "PuzzleWed$Law" "clauses" "I" : Cond) ∈ TBG := TBG_mem (i := 268) (by decide +kernel) rfl
theorem tw287 : (.instanceMethod yX5_init : Cond) ∈ TBG := TBG_mem (i := 287) (by decide +kernel) rfl
set_option maxRecDepth 20000 in
theorem tw288 : (.code yX5_init cX5_init 3 (none) : Cond) ∈ TBG := List.mem_filter.mpr ⟨in_t1 _ (List.mem_of_getElem? (i := 178) rfl), rfl⟩
theorem tw290 : (.instanceMethod yX7_init : Cond) ∈ TBG := TBG_mem (i := 290) (by decide +kernel) rfl
set_option maxRecDepth 20000 in
theorem tw291 : (.code yX7_init cX7_init 2 (none) : Cond) ∈ TBG := List.mem_filter.mpr ⟨in_t1 _ (List.mem_of_getElem? (i := 181) rfl), rfl⟩
theorem tw293 : (.fieldLink RX5 9 "PuzzleWed$LawReader" "draft" "LPuzzleWed$Law;" : Cond) ∈ TBG := TBG_mem (i := 293) (by decide +kernel) rfl
theorem tw294 : (.fieldLink RX7 9 "PuzzleWed$Reader" "tape" "LPuzzleWed$Tape;" : Cond) ∈ TBG := TBG_mem (i := 294) (by decide +kernel) rfl
theorem tw295 : (.fieldLink RX7 15 "PuzzleWed$Reader" "length" "I" : Cond) ∈ TBG := TBG_mem (i := 295) (by decide +kernel) rfl
theorem tw296 : (.fieldLink RX5 76 "PuzzleWed$LawReader" "length" "I" : Cond) ∈ TBG := TBG_mem (i := 296) (by decide +kernel) rfl
theorem tw297 : (.sameField "PuzzleWed$LawReader" "PuzzleWed$Reader" "length" "I" : Cond) ∈ TBG := TBG_mem (i := 297) (by decide +kernel) rfl
theorem tw298 : (.fieldLink RX7 19 "PuzzleWed$Reader" "at" "I" : Cond) ∈ TBG := TBG_mem (i := 298) (by decide +kernel) rfl
theorem tw299 : (.fieldLink RX6 23 "PuzzleWed$ListReader" "at" "I" : Cond) ∈ TBG := TBG_mem (i := 299) (by decide +kernel) rfl
theorem tw300 : (.sameField "PuzzleWed$ListReader" "PuzzleWed$Reader" "at" "I" : Cond) ∈ TBG := TBG_mem (i := 300) (by decide +kernel) rfl
theorem tw301 : (.fieldLink RX5 43 "PuzzleWed$LawReader" "at" "I" : Cond) ∈ TBG := TBG_mem (i := 301) (by decide +kernel) rfl
theorem tw302 : (.sameField "PuzzleWed$LawReader" "PuzzleWed$Reader" "at" "I" : Cond) ∈ TBG := TBG_mem (i := 302) (by decide +kernel) rfl
theorem tw303 : (.fieldLink RX7 22 "PuzzleWed$Reader" "fault" "I" : Cond) ∈ TBG := TBG_mem (i := 303) (by decide +kernel) rfl
theorem tw304 : (.fieldLink RX11 150 "PuzzleWed$LawReader" "fault" "I" : Cond) ∈ TBG := TBG_mem (i := 304) (by decide +kernel) rfl
theorem tw305 : (.sameField "PuzzleWed$LawReader" "PuzzleWed$Reader" "fault" "I" : Cond) ∈ TBG := TBG_mem (i := 305) (by decide +kernel) rfl
theorem tw306 : (.fieldLink RX11 162 "PuzzleWed$ListReader" "fault" "I" : Cond) ∈ TBG := TBG_mem (i := 306) (by decide +kernel) rfl
theorem tw307 : (.sameField "PuzzleWed$ListReader" "PuzzleWed$Reader" "fault" "I" : Cond) ∈ TBG := TBG_mem (i := 307) (by decide +kernel) rfl
theorem tw322 : (.instanceMethod yX6_init : Cond) ∈ TBG := TBG_mem (i := 322) (by decide +kernel) rfl
set_option maxRecDepth 20000 in
theorem tw323 : (.code yX6_init cX6_init 2 (none) : Cond) ∈ TBG := List.mem_filter.mpr ⟨in_t1 _ (List.mem_of_getElem? (i := 213) rfl), rfl⟩
theorem tw325 : (.fieldLink RX6 9 "PuzzleWed$ListReader" "list" "[I" : Cond) ∈ TBG := TBG_mem (i := 325) (by decide +kernel) rfl
theorem tw326 : (.fieldLink RX11 167 "PuzzleWed$ListReader" "list" "[I" : Cond) ∈ TBG := TBG_mem (i := 326) (by decide +kernel) rfl
theorem tw327 : (.fieldLink RX6 19 "PuzzleWed$ListReader" "filled" "I" : Cond) ∈ TBG := TBG_mem (i := 327) (by decide +kernel) rfl
theorem tw328 : (.fieldLink RX11 191 "PuzzleWed$ListReader" "filled" "I" : Cond) ∈ TBG := TBG_mem (i := 328) (by decide +kernel) rfl
theorem tw329 : (.fieldLink RX6 55 "PuzzleWed$ListReader" "value" "I" : Cond) ∈ TBG := TBG_mem (i := 329) (by decide +kernel) rfl
theorem tw330 : (.fieldLink RX6 34 "PuzzleWed$ListReader" "times" "I" : Cond) ∈ TBG := TBG_mem (i := 330) (by decide +kernel) rfl
theorem tw347 : (.instanceMethod yX2_init : Cond) ∈ TBG := TBG_mem (i := 347) (by decide +kernel) rfl
set_option maxRecDepth 20000 in
theorem tw348 : (.code yX2_init cX2_init 2 (none) : Cond) ∈ TBG := List.mem_filter.mpr ⟨in_t1 _ (List.mem_of_getElem? (i := 238) rfl), rfl⟩
theorem tw350 : (.fieldLink RX2 9 "PuzzleWed$Judge" "law" "LPuzzleWed$Law;" : Cond) ∈ TBG := TBG_mem (i := 350) (by decide +kernel) rfl
theorem tw351 : (.fieldLink RX2 15 "PuzzleWed$Judge" "letters" "[I" : Cond) ∈ TBG := TBG_mem (i := 351) (by decide +kernel) rfl
theorem tw360 : (.instanceMethod yX1_init : Cond) ∈ TBG := TBG_mem (i := 360) (by decide +kernel) rfl
set_option maxRecDepth 20000 in
theorem tw361 : (.code yX1_init cX1_init 2 (none) : Cond) ∈ TBG := List.mem_filter.mpr ⟨in_t2 _ (List.mem_of_getElem? (i := 11) rfl), rfl⟩
theorem tw363 : (.fieldLink RX1 9 "PuzzleWed$Course" "judge" "LPuzzleWed$Judge;" : Cond) ∈ TBG := TBG_mem (i := 363) (by decide +kernel) rfl
theorem tw364 : (.fieldLink RX1 15 "PuzzleWed$Course" "wed" "I" : Cond) ∈ TBG := TBG_mem (i := 364) (by decide +kernel) rfl
theorem tw365 : (.fieldLink RX11 201 "PuzzleWed$Course" "wed" "I" : Cond) ∈ TBG := TBG_mem (i := 365) (by decide +kernel) rfl
theorem tw366 : (.fieldLink RX1 19 "PuzzleWed$Course" "tries" "I" : Cond) ∈ TBG := TBG_mem (i := 366) (by decide +kernel) rfl
theorem tw367 : (.fieldLink RX11 210 "PuzzleWed$Course" "tries" "I" : Cond) ∈ TBG := TBG_mem (i := 367) (by decide +kernel) rfl
theorem tw368 : (.fieldLink RX1 22 "PuzzleWed$Course" "parted" "I" : Cond) ∈ TBG := TBG_mem (i := 368) (by decide +kernel) rfl
theorem tw369 : (.fieldLink RX11 213 "PuzzleWed$Course" "parted" "I" : Cond) ∈ TBG := TBG_mem (i := 369) (by decide +kernel) rfl
theorem tw382 : (.instanceMethod yX0_init : Cond) ∈ TBG := TBG_mem (i := 382) (by decide +kernel) rfl
set_option maxRecDepth 20000 in
theorem tw383 : (.code yX0_init cX0_init 2 (none) : Cond) ∈ TBG := List.mem_filter.mpr ⟨in_t2 _ (List.mem_of_getElem? (i := 33) rfl), rfl⟩
theorem tw386 : (.fieldLink RX0 9 "PuzzleWed$Couples" "judge" "LPuzzleWed$Judge;" : Cond) ∈ TBG := TBG_mem (i := 386) (by decide +kernel) rfl
theorem tw387 : (.fieldLink RX0 15 "PuzzleWed$Couples" "partner" "[I" : Cond) ∈ TBG := TBG_mem (i := 387) (by decide +kernel) rfl
theorem tw388 : (.fieldLink RX11 266 "PuzzleWed$Couples" "partner" "[I" : Cond) ∈ TBG := TBG_mem (i := 388) (by decide +kernel) rfl
theorem tw389 : (.fieldLink RX0 43 "PuzzleWed$Couples" "twos" "I" : Cond) ∈ TBG := TBG_mem (i := 389) (by decide +kernel) rfl
theorem tw390 : (.fieldLink RX11 260 "PuzzleWed$Couples" "twos" "I" : Cond) ∈ TBG := TBG_mem (i := 390) (by decide +kernel) rfl
theorem tw391 : (.fieldLink RX0 46 "PuzzleWed$Couples" "slackSum" "I" : Cond) ∈ TBG := TBG_mem (i := 391) (by decide +kernel) rfl
theorem tw392 : (.fieldLink RX11 263 "PuzzleWed$Couples" "slackSum" "I" : Cond) ∈ TBG := TBG_mem (i := 392) (by decide +kernel) rfl
theorem tw393 : (.fieldLink RX0 19 "PuzzleWed$Couples" "ones" "[I" : Cond) ∈ TBG := TBG_mem (i := 393) (by decide +kernel) rfl
theorem tw394 : (.fieldLink RX0 22 "PuzzleWed$Couples" "others" "[I" : Cond) ∈ TBG := TBG_mem (i := 394) (by decide +kernel) rfl
theorem tw395 : (.fieldLink RX0 36 "PuzzleWed$Couples" "oneCount" "I" : Cond) ∈ TBG := TBG_mem (i := 395) (by decide +kernel) rfl
theorem tw396 : (.fieldLink RX0 40 "PuzzleWed$Couples" "otherCount" "I" : Cond) ∈ TBG := TBG_mem (i := 396) (by decide +kernel) rfl
theorem tw397 : (.fieldLink RX0 27 "PuzzleWed$Couples" "bond" "[[I" : Cond) ∈ TBG := TBG_mem (i := 397) (by decide +kernel) rfl
theorem tw398 : (.fieldLink RX0 30 "PuzzleWed$Couples" "best" "[I" : Cond) ∈ TBG := TBG_mem (i := 398) (by decide +kernel) rfl
theorem tw399 : (.fieldLink RX0 33 "PuzzleWed$Couples" "asked" "[I" : Cond) ∈ TBG := TBG_mem (i := 399) (by decide +kernel) rfl
theorem tw426 : (.instanceMethod yX9_init : Cond) ∈ TBG := TBG_mem (i := 426) (by decide +kernel) rfl
set_option maxRecDepth 20000 in
theorem tw427 : (.code yX9_init cX9_init 2 (none) : Cond) ∈ TBG := List.mem_filter.mpr ⟨in_t2 _ (List.mem_of_getElem? (i := 77) rfl), rfl⟩
theorem tw430 : (.fieldLink RX9 9 "PuzzleWed$Search" "tape" "LPuzzleWed$Tape;" : Cond) ∈ TBG := TBG_mem (i := 430) (by decide +kernel) rfl
theorem tw431 : (.fieldLink RX9 39 "PuzzleWed$Search" "towns" "I" : Cond) ∈ TBG := TBG_mem (i := 431) (by decide +kernel) rfl
theorem tw432 : (.fieldLink RX9 15 "PuzzleWed$Search" "weight" "[I" : Cond) ∈ TBG := TBG_mem (i := 432) (by decide +kernel) rfl
theorem tw433 : (.fieldLink RX9 21 "PuzzleWed$Search" "travel" "[[I" : Cond) ∈ TBG := TBG_mem (i := 433) (by decide +kernel) rfl
theorem tw434 : (.fieldLink RX9 24 "PuzzleWed$Search" "order" "[I" : Cond) ∈ TBG := TBG_mem (i := 434) (by decide +kernel) rfl
theorem tw435 : (.fieldLink RX9 27 "PuzzleWed$Search" "bestOrder" "[I" : Cond) ∈ TBG := TBG_mem (i := 435) (by decide +kernel) rfl
theorem tw436 : (.fieldLink RX11 285 "PuzzleWed$Search" "bestOrder" "[I" : Cond) ∈ TBG := TBG_mem (i := 436) (by decide +kernel) rfl
theorem tw437 : (.fieldLink RX9 51 "PuzzleWed$Search" "bestSum" "I" : Cond) ∈ TBG := TBG_mem (i := 437) (by decide +kernel) rfl
theorem tw438 : (.fieldLink RX9 43 "PuzzleWed$Search" "weights" "I" : Cond) ∈ TBG := TBG_mem (i := 438) (by decide +kernel) rfl
theorem tw459 : (.instanceMethod yX8_init : Cond) ∈ TBG := TBG_mem (i := 459) (by decide +kernel) rfl
set_option maxRecDepth 20000 in
theorem tw460 : (.code yX8_init cX8_init 1 (none) : Cond) ∈ TBG := List.mem_filter.mpr ⟨in_t2 _ (List.mem_of_getElem? (i := 110) rfl), rfl⟩
theorem tw462 : (.fieldLink RX8 9 "PuzzleWed$Sander" "made" "[I" : Cond) ∈ TBG := TBG_mem (i := 462) (by decide +kernel) rfl
theorem tw463 : (.fieldLink RX11 308 "PuzzleWed$Sander" "made" "[I" : Cond) ∈ TBG := TBG_mem (i := 463) (by decide +kernel) rfl
theorem tw464 : (.fieldLink RX8 81 "PuzzleWed$Sander" "done" "Z" : Cond) ∈ TBG := TBG_mem (i := 464) (by decide +kernel) rfl
theorem tw465 : (.fieldLink RX11 302 "PuzzleWed$Sander" "done" "Z" : Cond) ∈ TBG := TBG_mem (i := 465) (by decide +kernel) rfl
theorem tw466 : (.fieldLink RX8 85 "PuzzleWed$Sander" "work" "I" : Cond) ∈ TBG := TBG_mem (i := 466) (by decide +kernel) rfl
theorem tw467 : (.fieldLink RX11 305 "PuzzleWed$Sander" "work" "I" : Cond) ∈ TBG := TBG_mem (i := 467) (by decide +kernel) rfl
theorem tw468 : (.fieldLink RX8 94 "PuzzleWed$Sander" "turns" "I" : Cond) ∈ TBG := TBG_mem (i := 468) (by decide +kernel) rfl
theorem tw469 : (.fieldLink RX11 323 "PuzzleWed$Sander" "turns" "I" : Cond) ∈ TBG := TBG_mem (i := 469) (by decide +kernel) rfl
theorem tw470 : (.fieldLink RX8 97 "PuzzleWed$Sander" "raising" "I" : Cond) ∈ TBG := TBG_mem (i := 470) (by decide +kernel) rfl
theorem tw471 : (.fieldLink RX11 326 "PuzzleWed$Sander" "raising" "I" : Cond) ∈ TBG := TBG_mem (i := 471) (by decide +kernel) rfl
theorem tw472 : (.fieldLink RX8 25 "PuzzleWed$Sander" "least" "[J" : Cond) ∈ TBG := TBG_mem (i := 472) (by decide +kernel) rfl
theorem tw473 : (.fieldLink RX8 15 "PuzzleWed$Sander" "cost" "[J" : Cond) ∈ TBG := TBG_mem (i := 473) (by decide +kernel) rfl
theorem tw474 : (.fieldLink RX8 19 "PuzzleWed$Sander" "gapOne" "[I" : Cond) ∈ TBG := TBG_mem (i := 474) (by decide +kernel) rfl
theorem tw475 : (.fieldLink RX8 22 "PuzzleWed$Sander" "gapOther" "[I" : Cond) ∈ TBG := TBG_mem (i := 475) (by decide +kernel) rfl
theorem tw476 : (.fieldLink RX8 63 "PuzzleWed$Sander" "low" "I" : Cond) ∈ TBG := TBG_mem (i := 476) (by decide +kernel) rfl
theorem tw477 : (.fieldLink RX8 67 "PuzzleWed$Sander" "high" "I" : Cond) ∈ TBG := TBG_mem (i := 477) (by decide +kernel) rfl
theorem tw502 : (.fieldLink RX11 12 "PuzzleWed" "land" "LPuzzleWed$Land;" : Cond) ∈ TBG := TBG_mem (i := 502) (by decide +kernel) rfl
theorem tw503 : (.fieldLink RX11 16 "PuzzleWed" "kept" "LPuzzleWed$Land;" : Cond) ∈ TBG := TBG_mem (i := 503) (by decide +kernel) rfl
theorem tw504 : (.fieldLink RX11 19 "PuzzleWed" "trial" "LPuzzleWed$Land;" : Cond) ∈ TBG := TBG_mem (i := 504) (by decide +kernel) rfl
theorem tw505 : (.fieldLink RX11 22 "PuzzleWed" "hasKept" "Z" : Cond) ∈ TBG := TBG_mem (i := 505) (by decide +kernel) rfl
theorem tw506 : (.fieldLink RX11 29 "PuzzleWed" "tape" "LPuzzleWed$Tape;" : Cond) ∈ TBG := TBG_mem (i := 506) (by decide +kernel) rfl
theorem tw507 : (.fieldLink RX11 36 "PuzzleWed" "law" "LPuzzleWed$Law;" : Cond) ∈ TBG := TBG_mem (i := 507) (by decide +kernel) rfl
theorem tw508 : (.fieldLink RX11 40 "PuzzleWed" "draft" "LPuzzleWed$Law;" : Cond) ∈ TBG := TBG_mem (i := 508) (by decide +kernel) rfl
theorem tw509 : (.fieldLink RX11 48 "PuzzleWed" "lawReader" "LPuzzleWed$LawReader;" : Cond) ∈ TBG := TBG_mem (i := 509) (by decide +kernel) rfl
theorem tw510 : (.fieldLink RX11 57 "PuzzleWed" "listReader" "LPuzzleWed$ListReader;" : Cond) ∈ TBG := TBG_mem (i := 510) (by decide +kernel) rfl
theorem tw511 : (.fieldLink RX11 66 "PuzzleWed" "judge" "LPuzzleWed$Judge;" : Cond) ∈ TBG := TBG_mem (i := 511) (by decide +kernel) rfl
theorem tw512 : (.fieldLink RX11 75 "PuzzleWed" "course" "LPuzzleWed$Course;" : Cond) ∈ TBG := TBG_mem (i := 512) (by decide +kernel) rfl
theorem tw513 : (.fieldLink RX11 82 "PuzzleWed" "couples" "LPuzzleWed$Couples;" : Cond) ∈ TBG := TBG_mem (i := 513) (by decide +kernel) rfl
theorem tw514 : (.fieldLink RX11 89 "PuzzleWed" "quest" "LPuzzleWed$Search;" : Cond) ∈ TBG := TBG_mem (i := 514) (by decide +kernel) rfl
theorem tw515 : (.fieldLink RX11 96 "PuzzleWed" "sander" "LPuzzleWed$Sander;" : Cond) ∈ TBG := TBG_mem (i := 515) (by decide +kernel) rfl
theorem tw516 : (.fieldLink RX11 100 "PuzzleWed" "row" "[I" : Cond) ∈ TBG := TBG_mem (i := 516) (by decide +kernel) rfl
theorem tw548 : (.methodLink RL 13 yX11_person : Cond) ∈ TBG := TBG_mem (i := 548) (by decide +kernel) rfl
theorem tw549 : (.instanceMethod yX11_person : Cond) ∈ TBG := TBG_mem (i := 549) (by decide +kernel) rfl
theorem tw550 : (.selects RX11 yX11_person yX11_person : Cond) ∈ TBG := TBG_mem (i := 550) (by decide +kernel) rfl
set_option maxRecDepth 20000 in
theorem tw551 : (.code yX11_person cX11_person 4 (some .boolean) : Cond) ∈ TBG := List.mem_filter.mpr ⟨in_t2 _ (List.mem_of_getElem? (i := 201) rfl), rfl⟩
theorem tw552 : (.methodLink RX11 104 yX11_isNumber : Cond) ∈ TBG := TBG_mem (i := 552) (by decide +kernel) rfl
theorem tw553 : (.static yX11_isNumber : Cond) ∈ TBG := TBG_mem (i := 553) (by decide +kernel) rfl
set_option maxRecDepth 20000 in
theorem tw554 : (.code yX11_isNumber cX11_isNumber 1 (some .boolean) : Cond) ∈ TBG := List.mem_filter.mpr ⟨in_t2 _ (List.mem_of_getElem? (i := 204) rfl), rfl⟩
theorem tw555 : (.methodLink RX11 108 yX3_isTold : Cond) ∈ TBG := TBG_mem (i := 555) (by decide +kernel) rfl
theorem tw556 : (.instanceMethod yX3_isTold : Cond) ∈ TBG := TBG_mem (i := 556) (by decide +kernel) rfl
theorem tw557 : (.selects RX3 yX3_isTold yX3_isTold : Cond) ∈ TBG := TBG_mem (i := 557) (by decide +kernel) rfl
set_option maxRecDepth 20000 in
theorem tw558 : (.code yX3_isTold cX3_isTold 2 (some .boolean) : Cond) ∈ TBG := List.mem_filter.mpr ⟨in_t2 _ (List.mem_of_getElem? (i := 208) rfl), rfl⟩
theorem tw560 : (.methodLink RL 18 yX11_wear : Cond) ∈ TBG := TBG_mem (i := 560) (by decide +kernel) rfl
theorem tw561 : (.instanceMethod yX11_wear : Cond) ∈ TBG := TBG_mem (i := 561) (by decide +kernel) rfl
theorem tw562 : (.selects RX11 yX11_wear yX11_wear : Cond) ∈ TBG := TBG_mem (i := 562) (by decide +kernel) rfl
set_option maxRecDepth 20000 in
theorem tw563 : (.code yX11_wear cX11_wear 3 (some .boolean) : Cond) ∈ TBG := List.mem_filter.mpr ⟨in_t2 _ (List.mem_of_getElem? (i := 213) rfl), rfl⟩
theorem tw564 : (.methodLink RL 23 yX11_dies : Cond) ∈ TBG := TBG_mem (i := 564) (by decide +kernel) rfl
theorem tw565 : (.instanceMethod yX11_dies : Cond) ∈ TBG := TBG_mem (i := 565) (by decide +kernel) rfl
theorem tw566 : (.selects RX11 yX11_dies yX11_dies : Cond) ∈ TBG := TBG_mem (i := 566) (by decide +kernel) rfl
set_option maxRecDepth 20000 in
theorem tw567 : (.code yX11_dies cX11_dies 2 (some .boolean) : Cond) ∈ TBG := List.mem_filter.mpr ⟨in_t2 _ (List.mem_of_getElem? (i := 217) rfl), rfl⟩
theorem tw568 : (.methodLink RX11 127 yX3_isAlive : Cond) ∈ TBG := TBG_mem (i := 568) (by decide +kernel) rfl
theorem tw569 : (.instanceMethod yX3_isAlive : Cond) ∈ TBG := TBG_mem (i := 569) (by decide +kernel) rfl
theorem tw570 : (.selects RX3 yX3_isAlive yX3_isAlive : Cond) ∈ TBG := TBG_mem (i := 570) (by decide +kernel) rfl
set_option maxRecDepth 20000 in
theorem tw571 : (.code yX3_isAlive cX3_isAlive 2 (some .boolean) : Cond) ∈ TBG := List.mem_filter.mpr ⟨in_t2 _ (List.mem_of_getElem? (i := 221) rfl), rfl⟩
theorem tw572 : (.methodLink RX11 130 yX3_bury : Cond) ∈ TBG := TBG_mem (i := 572) (by decide +kernel) rfl
theorem tw573 : (.instanceMethod yX3_bury : Cond) ∈ TBG := TBG_mem (i := 573) (by decide +kernel) rfl
theorem tw574 : (.selects RX3 yX3_bury yX3_bury : Cond) ∈ TBG := TBG_mem (i := 574) (by decide +kernel) rfl
set_option maxRecDepth 20000 in
theorem tw575 : (.code yX3_bury cX3_bury 4 (none) : Cond) ∈ TBG := List.mem_filter.mpr ⟨in_t2 _ (List.mem_of_getElem? (i := 225) rfl), rfl⟩
theorem tw576 : (.methodLink RX3 64 yX3_separate : Cond) ∈ TBG := TBG_mem (i := 576) (by decide +kernel) rfl
theorem tw577 : (.instanceMethod yX3_separate : Cond) ∈ TBG := TBG_mem (i := 577) (by decide +kernel) rfl
theorem tw578 : (.selects RX3 yX3_separate yX3_separate : Cond) ∈ TBG := TBG_mem (i := 578) (by decide +kernel) rfl
set_option maxRecDepth 20000 in
theorem tw579 : (.code yX3_separate cX3_separate 3 (none) : Cond) ∈ TBG := List.mem_filter.mpr ⟨in_t2 _ (List.mem_of_getElem? (i := 229) rfl), rfl⟩
theorem tw580 : (.methodLink RL 28 yX11_weds : Cond) ∈ TBG := TBG_mem (i := 580) (by decide +kernel) rfl
theorem tw581 : (.instanceMethod yX11_weds : Cond) ∈ TBG := TBG_mem (i := 581) (by decide +kernel) rfl
theorem tw582 : (.selects RX11 yX11_weds yX11_weds : Cond) ∈ TBG := TBG_mem (i := 582) (by decide +kernel) rfl
set_option maxRecDepth 20000 in
theorem tw583 : (.code yX11_weds cX11_weds 3 (some .boolean) : Cond) ∈ TBG := List.mem_filter.mpr ⟨in_t2 _ (List.mem_of_getElem? (i := 233) rfl), rfl⟩
theorem tw584 : (.methodLink RX11 134 yX3_isFree : Cond) ∈ TBG := TBG_mem (i := 584) (by decide +kernel) rfl
theorem tw585 : (.instanceMethod yX3_isFree : Cond) ∈ TBG := TBG_mem (i := 585) (by decide +kernel) rfl
theorem tw586 : (.selects RX3 yX3_isFree yX3_isFree : Cond) ∈ TBG := TBG_mem (i := 586) (by decide +kernel) rfl
set_option maxRecDepth 20000 in
theorem tw587 : (.code yX3_isFree cX3_isFree 2 (some .boolean) : Cond) ∈ TBG := List.mem_filter.mpr ⟨in_t2 _ (List.mem_of_getElem? (i := 237) rfl), rfl⟩
theorem tw588 : (.methodLink RX3 61 yX3_isAlive : Cond) ∈ TBG := TBG_mem (i := 588) (by decide +kernel) rfl
theorem tw589 : (.methodLink RX11 137 yX3_join : Cond) ∈ TBG := TBG_mem (i := 589) (by decide +kernel) rfl
theorem tw590 : (.instanceMethod yX3_join : Cond) ∈ TBG := TBG_mem (i := 590) (by decide +kernel) rfl
theorem tw591 : (.selects RX3 yX3_join yX3_join : Cond) ∈ TBG := TBG_mem (i := 591) (by decide +kernel) rfl
set_option maxRecDepth 20000 in
theorem tw592 : (.code yX3_join cX3_join 3 (none) : Cond) ∈ TBG := List.mem_filter.mpr ⟨in_t3 _ (List.mem_of_getElem? (i := 2) rfl), rfl⟩
theorem tw593 : (.methodLink RL 32 yX11_feed : Cond) ∈ TBG := TBG_mem (i := 593) (by decide +kernel) rfl
theorem tw594 : (.instanceMethod yX11_feed : Cond) ∈ TBG := TBG_mem (i := 594) (by decide +kernel) rfl
theorem tw595 : (.selects RX11 yX11_feed yX11_feed : Cond) ∈ TBG := TBG_mem (i := 595) (by decide +kernel) rfl
set_option maxRecDepth 20000 in
theorem tw596 : (.code yX11_feed cX11_feed 6 (some .int) : Cond) ∈ TBG := List.mem_filter.mpr ⟨in_t3 _ (List.mem_of_getElem? (i := 6) rfl), rfl⟩
theorem tw597 : (.methodLink RX11 144 yX10_add : Cond) ∈ TBG := TBG_mem (i := 597) (by decide +kernel) rfl
theorem tw598 : (.instanceMethod yX10_add : Cond) ∈ TBG := TBG_mem (i := 598) (by decide +kernel) rfl
theorem tw599 : (.selects RX10 yX10_add yX10_add : Cond) ∈ TBG := TBG_mem (i := 599) (by decide +kernel) rfl
set_option maxRecDepth 20000 in
theorem tw600 : (.code yX10_add cX10_add 3 (none) : Cond) ∈ TBG := List.mem_filter.mpr ⟨in_t3 _ (List.mem_of_getElem? (i := 10) rfl), rfl⟩
theorem tw601 : (.methodLink RL 37 yX11_law : Cond) ∈ TBG := TBG_mem (i := 601) (by decide +kernel) rfl
theorem tw602 : (.instanceMethod yX11_law : Cond) ∈ TBG := TBG_mem (i := 602) (by decide +kernel) rfl
theorem tw603 : (.selects RX11 yX11_law yX11_law : Cond) ∈ TBG := TBG_mem (i := 603) (by decide +kernel) rfl
set_option maxRecDepth 20000 in
theorem tw604 : (.code yX11_law cX11_law 3 (some .int) : Cond) ∈ TBG := List.mem_filter.mpr ⟨in_t3 _ (List.mem_of_getElem? (i := 14) rfl), rfl⟩
theorem tw605 : (.methodLink RX11 147 yX5_readLaw : Cond) ∈ TBG := TBG_mem (i := 605) (by decide +kernel) rfl
theorem tw606 : (.instanceMethod yX5_readLaw : Cond) ∈ TBG := TBG_mem (i := 606) (by decide +kernel) rfl
theorem tw607 : (.selects RX5 yX5_readLaw yX5_readLaw : Cond) ∈ TBG := TBG_mem (i := 607) (by decide +kernel) rfl
set_option maxRecDepth 20000 in
theorem tw608 : (.code yX5_readLaw cX5_readLaw 3 (some .boolean) : Cond) ∈ TBG := List.mem_filter.mpr ⟨in_t3 _ (List.mem_of_getElem? (i := 18) rfl), rfl⟩
theorem tw609 : (.methodLink RX5 15 ⟨"PuzzleWed$LawReader", "begin", "(I)V"⟩ : Cond) ∈ TBG := TBG_mem (i := 609) (by decide +kernel) rfl
theorem tw610 : (.sameMethod RX5 RX7 "begin" "(I)V" : Cond) ∈ TBG := TBG_mem (i := 610) (by decide +kernel) rfl
theorem tw612 : (.selects RX5 ⟨"PuzzleWed$LawReader", "begin", "(I)V"⟩ yX7_begin : Cond) ∈ TBG := TBG_mem (i := 612) (by decide +kernel) rfl
theorem tw613 : (.instanceMethod yX7_begin : Cond) ∈ TBG := TBG_mem (i := 613) (by decide +kernel) rfl
set_option maxRecDepth 20000 in
theorem tw614 : (.code yX7_begin cX7_begin 2 (none) : Cond) ∈ TBG := List.mem_filter.mpr ⟨in_t3 _ (List.mem_of_getElem? (i := 24) rfl), rfl⟩
theorem tw615 : (.methodLink RX5 28 yX5_readClause : Cond) ∈ TBG := TBG_mem (i := 615) (by decide +kernel) rfl
theorem tw617 : (.instanceMethod yX5_readClause : Cond) ∈ TBG := TBG_mem (i := 617) (by decide +kernel) rfl
set_option maxRecDepth 20000 in
theorem tw618 : (.code yX5_readClause cX5_readClause 2 (some .boolean) : Cond) ∈ TBG := List.mem_filter.mpr ⟨in_t3 _ (List.mem_of_getElem? (i := 28) rfl), rfl⟩
theorem tw619 : (.methodLink RX5 32 ⟨"PuzzleWed$LawReader", "isEnd", "()Z"⟩ : Cond) ∈ TBG := TBG_mem (i := 619) (by decide +kernel) rfl
theorem tw620 : (.sameMethod RX5 RX7 "isEnd" "()Z" : Cond) ∈ TBG := TBG_mem (i := 620) (by decide +kernel) rfl
theorem tw622 : (.selects RX5 ⟨"PuzzleWed$LawReader", "isEnd", "()Z"⟩ yX7_isEnd : Cond) ∈ TBG := TBG_mem (i := 622) (by decide +kernel) rfl
theorem tw623 : (.instanceMethod yX7_isEnd : Cond) ∈ TBG := TBG_mem (i := 623) (by decide +kernel) rfl
set_option maxRecDepth 20000 in
theorem tw624 : (.code yX7_isEnd cX7_isEnd 1 (some .boolean) : Cond) ∈ TBG := List.mem_filter.mpr ⟨in_t3 _ (List.mem_of_getElem? (i := 34) rfl), rfl⟩
theorem tw626 : (.methodLink RX5 35 ⟨"PuzzleWed$LawReader", "sign", "()I"⟩ : Cond) ∈ TBG := TBG_mem (i := 626) (by decide +kernel) rfl
theorem tw627 : (.sameMethod RX5 RX7 "sign" "()I" : Cond) ∈ TBG := TBG_mem (i := 627) (by decide +kernel) rfl
theorem tw629 : (.selects RX5 ⟨"PuzzleWed$LawReader", "sign", "()I"⟩ yX7_sign : Cond) ∈ TBG := TBG_mem (i := 629) (by decide +kernel) rfl
theorem tw630 : (.instanceMethod yX7_sign : Cond) ∈ TBG := TBG_mem (i := 630) (by decide +kernel) rfl
set_option maxRecDepth 20000 in
theorem tw631 : (.code yX7_sign cX7_sign 1 (some .int) : Cond) ∈ TBG := List.mem_filter.mpr ⟨in_t3 _ (List.mem_of_getElem? (i := 41) rfl), rfl⟩
theorem tw632 : (.methodLink RX5 48 yJ0_indexOf_0f7a4 : Cond) ∈ TBG := TBG_mem (i := 632) (by decide +kernel) rfl
theorem tw633 : (.instanceMethod yJ0_indexOf_0f7a4 : Cond) ∈ TBG := TBG_mem (i := 633) (by decide +kernel) rfl
theorem tw634 : (.selects RJ0 yJ0_indexOf_0f7a4 yJ0_indexOf_0f7a4 : Cond) ∈ TBG := TBG_mem (i := 634) (by decide +kernel) rfl
set_option maxRecDepth 20000 in
theorem tw635 : (.code yJ0_indexOf_0f7a4 cJ0_indexOf_0f7a4 2 (some .int) : Cond) ∈ TBG := List.mem_filter.mpr ⟨in_t3 _ (List.mem_of_getElem? (i := 45) rfl), rfl⟩
theorem tw636 : (.methodLink RJ0 633 yJ0_indexOf_7cf53 : Cond) ∈ TBG := TBG_mem (i := 636) (by decide +kernel) rfl
theorem tw637 : (.instanceMethod yJ0_indexOf_7cf53 : Cond) ∈ TBG := TBG_mem (i := 637) (by decide +kernel) rfl
theorem tw638 : (.selects RJ0 yJ0_indexOf_7cf53 yJ0_indexOf_7cf53 : Cond) ∈ TBG := TBG_mem (i := 638) (by decide +kernel) rfl
set_option maxRecDepth 20000 in
theorem tw639 : (.code yJ0_indexOf_7cf53 cJ0_indexOf_7cf53 3 (some .int) : Cond) ∈ TBG := List.mem_filter.mpr ⟨in_t3 _ (List.mem_of_getElem? (i := 49) rfl), rfl⟩
theorem tw640 : (.methodLink RJ0 492 yJ0_isLatin1_aae02 : Cond) ∈ TBG := TBG_mem (i := 640) (by decide +kernel) rfl
theorem tw641 : (.instanceMethod yJ0_isLatin1_aae02 : Cond) ∈ TBG := TBG_mem (i := 641) (by decide +kernel) rfl
theorem tw642 : (.selects RJ0 yJ0_isLatin1_aae02 yJ0_isLatin1_aae02 : Cond) ∈ TBG := TBG_mem (i := 642) (by decide +kernel) rfl
set_option maxRecDepth 20000 in
theorem tw643 : (.code yJ0_isLatin1_aae02 cJ0_isLatin1_aae02 1 (some .boolean) : Cond) ∈ TBG := List.mem_filter.mpr ⟨in_t3 _ (List.mem_of_getElem? (i := 53) rfl), rfl⟩
theorem tw644 : (.fieldLink RJ0 38 "java/lang/String" "COMPACT_STRINGS" "Z" : Cond) ∈ TBG := TBG_mem (i := 644) (by decide +kernel) rfl
theorem tw646 : (.methodLink RJ0 505 yJ0_length_8abf5 : Cond) ∈ TBG := TBG_mem (i := 646) (by decide +kernel) rfl
theorem tw647 : (.instanceMethod yJ0_length_8abf5 : Cond) ∈ TBG := TBG_mem (i := 647) (by decide +kernel) rfl
theorem tw648 : (.selects RJ0 yJ0_length_8abf5 yJ0_length_8abf5 : Cond) ∈ TBG := TBG_mem (i := 648) (by decide +kernel) rfl
set_option maxRecDepth 20000 in
theorem tw649 : (.code yJ0_length_8abf5 cJ0_length_8abf5 1 (some .int) : Cond) ∈ TBG := List.mem_filter.mpr ⟨in_t3 _ (List.mem_of_getElem? (i := 59) rfl), rfl⟩
theorem tw650 : (.methodLink RJ0 335 yJ0_coder_7d493 : Cond) ∈ TBG := TBG_mem (i := 650) (by decide +kernel) rfl
theorem tw651 : (.instanceMethod yJ0_coder_7d493 : Cond) ∈ TBG := TBG_mem (i := 651) (by decide +kernel) rfl
theorem tw652 : (.selects RJ0 yJ0_coder_7d493 yJ0_coder_7d493 : Cond) ∈ TBG := TBG_mem (i := 652) (by decide +kernel) rfl
set_option maxRecDepth 20000 in
theorem tw653 : (.code yJ0_coder_7d493 cJ0_coder_7d493 1 (some .byte) : Cond) ∈ TBG := List.mem_filter.mpr ⟨in_t3 _ (List.mem_of_getElem? (i := 63) rfl), rfl⟩
theorem tw654 : (.methodLink RJ0 637 yJ1_indexOf_4cfef : Cond) ∈ TBG := TBG_mem (i := 654) (by decide +kernel) rfl
theorem tw655 : (.static yJ1_indexOf_4cfef : Cond) ∈ TBG := TBG_mem (i := 655) (by decide +kernel) rfl
set_option maxRecDepth 20000 in
theorem tw656 : (.code yJ1_indexOf_4cfef cJ1_indexOf_4cfef 4 (some .int) : Cond) ∈ TBG := List.mem_filter.mpr ⟨in_t3 _ (List.mem_of_getElem? (i := 66) rfl), rfl⟩
theorem tw657 : (.methodLink RJ1 88 yJ1_canEncode_9a6ad : Cond) ∈ TBG := TBG_mem (i := 657) (by decide +kernel) rfl
theorem tw658 : (.static yJ1_canEncode_9a6ad : Cond) ∈ TBG := TBG_mem (i := 658) (by decide +kernel) rfl
set_option maxRecDepth 20000 in
theorem tw659 : (.code yJ1_canEncode_9a6ad cJ1_canEncode_9a6ad 1 (some .boolean) : Cond) ∈ TBG := List.mem_filter.mpr ⟨in_t3 _ (List.mem_of_getElem? (i := 69) rfl), rfl⟩
theorem tw660 : (.methodLink RJ1 92 yJ9_max_7cf53 : Cond) ∈ TBG := TBG_mem (i := 660) (by decide +kernel) rfl
theorem tw661 : (.static yJ9_max_7cf53 : Cond) ∈ TBG := TBG_mem (i := 661) (by decide +kernel) rfl
set_option maxRecDepth 20000 in
theorem tw662 : (.code yJ9_max_7cf53 cJ9_max_7cf53 2 (some .int) : Cond) ∈ TBG := List.mem_filter.mpr ⟨in_t3 _ (List.mem_of_getElem? (i := 72) rfl), rfl⟩
theorem tw663 : (.methodLink RJ1 38 yJ9_min_7cf53 : Cond) ∈ TBG := TBG_mem (i := 663) (by decide +kernel) rfl
theorem tw664 : (.static yJ9_min_7cf53 : Cond) ∈ TBG := TBG_mem (i := 664) (by decide +kernel) rfl
set_option maxRecDepth 20000 in
theorem tw665 : (.code yJ9_min_7cf53 cJ9_min_7cf53 2 (some .int) : Cond) ∈ TBG := List.mem_filter.mpr ⟨in_t3 _ (List.mem_of_getElem? (i := 75) rfl), rfl⟩
theorem tw666 : (.methodLink RJ1 95 yJ1_indexOfChar_4cfef : Cond) ∈ TBG := TBG_mem (i := 666) (by decide +kernel) rfl
theorem tw667 : (.static yJ1_indexOfChar_4cfef : Cond) ∈ TBG := TBG_mem (i := 667) (by decide +kernel) rfl
set_option maxRecDepth 20000 in
theorem tw668 : (.code yJ1_indexOfChar_4cfef cJ1_indexOfChar_4cfef 6 (some .int) : Cond) ∈ TBG := List.mem_filter.mpr ⟨in_t3 _ (List.mem_of_getElem? (i := 78) rfl), rfl⟩
theorem tw669 : (.methodLink RJ0 640 yJ2_indexOf_4cfef : Cond) ∈ TBG := TBG_mem (i := 669) (by decide +kernel) rfl
theorem tw670 : (.static yJ2_indexOf_4cfef : Cond) ∈ TBG := TBG_mem (i := 670) (by decide +kernel) rfl
set_option maxRecDepth 20000 in
theorem tw671 : (.code yJ2_indexOf_4cfef cJ2_indexOf_4cfef 4 (some .int) : Cond) ∈ TBG := List.mem_filter.mpr ⟨in_t3 _ (List.mem_of_getElem? (i := 81) rfl), rfl⟩
theorem tw672 : (.methodLink RJ2 224 yJ9_max_7cf53 : Cond) ∈ TBG := TBG_mem (i := 672) (by decide +kernel) rfl
theorem tw673 : (.methodLink RJ2 183 yJ9_min_7cf53 : Cond) ∈ TBG := TBG_mem (i := 673) (by decide +kernel) rfl
theorem tw674 : (.constant RJ2 227 (65536) : Cond) ∈ TBG := TBG_mem (i := 674) (by decide +kernel) rfl
theorem tw675 : (.methodLink RJ2 228 yJ2_indexOfChar_4cfef : Cond) ∈ TBG := TBG_mem (i := 675) (by decide +kernel) rfl
theorem tw676 : (.static yJ2_indexOfChar_4cfef : Cond) ∈ TBG := TBG_mem (i := 676) (by decide +kernel) rfl
set_option maxRecDepth 20000 in
theorem tw677 : (.code yJ2_indexOfChar_4cfef cJ2_indexOfChar_4cfef 4 (some .int) : Cond) ∈ TBG := List.mem_filter.mpr ⟨in_t3 _ (List.mem_of_getElem? (i := 87) rfl), rfl⟩
theorem tw678 : (.methodLink RJ2 96 yJ2_checkBoundsBeginEnd_d044e : Cond) ∈ TBG := TBG_mem (i := 678) (by decide +kernel) rfl
theorem tw679 : (.static yJ2_checkBoundsBeginEnd_d044e : Cond) ∈ TBG := TBG_mem (i := 679) (by decide +kernel) rfl
set_option maxRecDepth 20000 in
theorem tw680 : (.code yJ2_checkBoundsBeginEnd_d044e cJ2_checkBoundsBeginEnd_d044e 3 (none) : Cond) ∈ TBG := List.mem_filter.mpr ⟨in_t3 _ (List.mem_of_getElem? (i := 90) rfl), rfl⟩
theorem tw681 : (.methodLink RJ2 48 yJ2_length_9d52b : Cond) ∈ TBG := TBG_mem (i := 681) (by decide +kernel) rfl
theorem tw682 : (.static yJ2_length_9d52b : Cond) ∈ TBG := TBG_mem (i := 682) (by decide +kernel) rfl
set_option maxRecDepth 20000 in
theorem tw683 : (.code yJ2_length_9d52b cJ2_length_9d52b 1 (some .int) : Cond) ∈ TBG := List.mem_filter.mpr ⟨in_t3 _ (List.mem_of_getElem? (i := 93) rfl), rfl⟩
theorem tw684 : (.methodLink RJ2 241 yJ0_checkBoundsBeginEnd_23922 : Cond) ∈ TBG := TBG_mem (i := 684) (by decide +kernel) rfl
theorem tw685 : (.static yJ0_checkBoundsBeginEnd_23922 : Cond) ∈ TBG := TBG_mem (i := 685) (by decide +kernel) rfl
set_option maxRecDepth 20000 in
theorem tw686 : (.code yJ0_checkBoundsBeginEnd_23922 cJ0_checkBoundsBeginEnd_23922 3 (none) : Cond) ∈ TBG := List.mem_filter.mpr ⟨in_t3 _ (List.mem_of_getElem? (i := 96) rfl), rfl⟩
theorem tw689 : (.methodLink RJ0 1062 yJ3_checkFromToIndex_8c36e : Cond) ∈ TBG := TBG_mem (i := 689) (by decide +kernel) rfl
theorem tw690 : (.static yJ3_checkFromToIndex_8c36e : Cond) ∈ TBG := TBG_mem (i := 690) (by decide +kernel) rfl
set_option maxRecDepth 20000 in
theorem tw691 : (.code yJ3_checkFromToIndex_8c36e cJ3_checkFromToIndex_8c36e 4 (some .int) : Cond) ∈ TBG := List.mem_filter.mpr ⟨in_t3 _ (List.mem_of_getElem? (i := 101) rfl), rfl⟩
theorem tw692 : (.methodLink RJ2 244 yJ2_indexOfCharUnsafe_4cfef : Cond) ∈ TBG := TBG_mem (i := 692) (by decide +kernel) rfl
theorem tw693 : (.static yJ2_indexOfCharUnsafe_4cfef : Cond) ∈ TBG := TBG_mem (i := 693) (by decide +kernel) rfl
set_option maxRecDepth 20000 in
theorem tw694 : (.code yJ2_indexOfCharUnsafe_4cfef cJ2_indexOfCharUnsafe_4cfef 5 (some .int) : Cond) ∈ TBG := List.mem_filter.mpr ⟨in_t3 _ (List.mem_of_getElem? (i := 104) rfl), rfl⟩
theorem tw695 : (.methodLink RJ2 71 yJ2_getChar_3b067 : Cond) ∈ TBG := TBG_mem (i := 695) (by decide +kernel) rfl
theorem tw696 : (.static yJ2_getChar_3b067 : Cond) ∈ TBG := TBG_mem (i := 696) (by decide +kernel) rfl
set_option maxRecDepth 20000 in
theorem tw697 : (.code yJ2_getChar_3b067 cJ2_getChar_3b067 2 (some .char) : Cond) ∈ TBG := List.mem_filter.mpr ⟨in_t3 _ (List.mem_of_getElem? (i := 107) rfl), rfl⟩
theorem tw704 : (.methodLink RJ2 232 yJ2_indexOfSupplementary_4cfef : Cond) ∈ TBG := TBG_mem (i := 704) (by decide +kernel) rfl
theorem tw705 : (.static yJ2_indexOfSupplementary_4cfef : Cond) ∈ TBG := TBG_mem (i := 705) (by decide +kernel) rfl
set_option maxRecDepth 20000 in
theorem tw706 : (.code yJ2_indexOfSupplementary_4cfef cJ2_indexOfSupplementary_4cfef 7 (some .int) : Cond) ∈ TBG := List.mem_filter.mpr ⟨in_t3 _ (List.mem_of_getElem? (i := 116) rfl), rfl⟩
theorem tw707 : (.methodLink RJ2 164 yJ11_isValidCodePoint_9a6ad : Cond) ∈ TBG := TBG_mem (i := 707) (by decide +kernel) rfl
theorem tw708 : (.static yJ11_isValidCodePoint_9a6ad : Cond) ∈ TBG := TBG_mem (i := 708) (by decide +kernel) rfl
set_option maxRecDepth 20000 in
theorem tw709 : (.code yJ11_isValidCodePoint_9a6ad cJ11_isValidCodePoint_9a6ad 2 (some .boolean) : Cond) ∈ TBG := List.mem_filter.mpr ⟨in_t3 _ (List.mem_of_getElem? (i := 119) rfl), rfl⟩
theorem tw710 : (.methodLink RJ2 157 yJ11_highSurrogate_5068e : Cond) ∈ TBG := TBG_mem (i := 710) (by decide +kernel) rfl
theorem tw711 : (.static yJ11_highSurrogate_5068e : Cond) ∈ TBG := TBG_mem (i := 711) (by decide +kernel) rfl
set_option maxRecDepth 20000 in
theorem tw712 : (.code yJ11_highSurrogate_5068e cJ11_highSurrogate_5068e 1 (some .char) : Cond) ∈ TBG := List.mem_filter.mpr ⟨in_t3 _ (List.mem_of_getElem? (i := 122) rfl), rfl⟩
theorem tw713 : (.constant RJ11 110 (55232) : Cond) ∈ TBG := TBG_mem (i := 713) (by decide +kernel) rfl
theorem tw714 : (.methodLink RJ2 161 yJ11_lowSurrogate_5068e : Cond) ∈ TBG := TBG_mem (i := 714) (by decide +kernel) rfl
theorem tw715 : (.static yJ11_lowSurrogate_5068e : Cond) ∈ TBG := TBG_mem (i := 715) (by decide +kernel) rfl
set_option maxRecDepth 20000 in
theorem tw716 : (.code yJ11_lowSurrogate_5068e cJ11_lowSurrogate_5068e 1 (some .char) : Cond) ∈ TBG := List.mem_filter.mpr ⟨in_t3 _ (List.mem_of_getElem? (i := 126) rfl), rfl⟩
theorem tw717 : (.constant RJ11 76 (56320) : Cond) ∈ TBG := TBG_mem (i := 717) (by decide +kernel) rfl
theorem tw718 : (.methodLink RX5 39 ⟨"PuzzleWed$LawReader", "fail", "(I)Z"⟩ : Cond) ∈ TBG := TBG_mem (i := 718) (by decide +kernel) rfl
theorem tw719 : (.sameMethod RX5 RX7 "fail" "(I)Z" : Cond) ∈ TBG := TBG_mem (i := 719) (by decide +kernel) rfl
theorem tw721 : (.selects RX5 ⟨"PuzzleWed$LawReader", "fail", "(I)Z"⟩ yX7_fail : Cond) ∈ TBG := TBG_mem (i := 721) (by decide +kernel) rfl
theorem tw722 : (.instanceMethod yX7_fail : Cond) ∈ TBG := TBG_mem (i := 722) (by decide +kernel) rfl
set_option maxRecDepth 20000 in
theorem tw723 : (.code yX7_fail cX7_fail 2 (some .boolean) : Cond) ∈ TBG := List.mem_filter.mpr ⟨in_t3 _ (List.mem_of_getElem? (i := 133) rfl), rfl⟩
theorem tw724 : (.methodLink RX7 31 yX7_failAt : Cond) ∈ TBG := TBG_mem (i := 724) (by decide +kernel) rfl
theorem tw725 : (.instanceMethod yX7_failAt : Cond) ∈ TBG := TBG_mem (i := 725) (by decide +kernel) rfl
theorem tw726 : (.sameMethod RX7 RX7 "failAt" "(II)Z" : Cond) ∈ TBG := TBG_mem (i := 726) (by decide +kernel) rfl
theorem tw727 : (.selects RX5 yX7_failAt yX7_failAt : Cond) ∈ TBG := TBG_mem (i := 727) (by decide +kernel) rfl
theorem tw728 : (.selects RX6 yX7_failAt yX7_failAt : Cond) ∈ TBG := TBG_mem (i := 728) (by decide +kernel) rfl
set_option maxRecDepth 20000 in
theorem tw729 : (.code yX7_failAt cX7_failAt 3 (some .boolean) : Cond) ∈ TBG := List.mem_filter.mpr ⟨in_t3 _ (List.mem_of_getElem? (i := 139) rfl), rfl⟩
theorem tw730 : (.methodLink RX5 61 yX5_readSum : Cond) ∈ TBG := TBG_mem (i := 730) (by decide +kernel) rfl
theorem tw732 : (.instanceMethod yX5_readSum : Cond) ∈ TBG := TBG_mem (i := 732) (by decide +kernel) rfl
set_option maxRecDepth 20000 in
theorem tw733 : (.code yX5_readSum cX5_readSum 4 (some .boolean) : Cond) ∈ TBG := List.mem_filter.mpr ⟨in_t3 _ (List.mem_of_getElem? (i := 143) rfl), rfl⟩
theorem tw734 : (.methodLink RX5 99 yX5_readProduct : Cond) ∈ TBG := TBG_mem (i := 734) (by decide +kernel) rfl
theorem tw736 : (.instanceMethod yX5_readProduct : Cond) ∈ TBG := TBG_mem (i := 736) (by decide +kernel) rfl
set_option maxRecDepth 20000 in
theorem tw737 : (.code yX5_readProduct cX5_readProduct 4 (some .boolean) : Cond) ∈ TBG := List.mem_filter.mpr ⟨in_t3 _ (List.mem_of_getElem? (i := 147) rfl), rfl⟩
theorem tw738 : (.methodLink RX5 102 yX5_readFactor : Cond) ∈ TBG := TBG_mem (i := 738) (by decide +kernel) rfl
theorem tw740 : (.instanceMethod yX5_readFactor : Cond) ∈ TBG := TBG_mem (i := 740) (by decide +kernel) rfl
set_option maxRecDepth 20000 in
theorem tw741 : (.code yX5_readFactor cX5_readFactor 4 (some .boolean) : Cond) ∈ TBG := List.mem_filter.mpr ⟨in_t3 _ (List.mem_of_getElem? (i := 151) rfl), rfl⟩
theorem tw742 : (.methodLink RX5 70 yX5_pass : Cond) ∈ TBG := TBG_mem (i := 742) (by decide +kernel) rfl
theorem tw744 : (.instanceMethod yX5_pass : Cond) ∈ TBG := TBG_mem (i := 744) (by decide +kernel) rfl
set_option maxRecDepth 20000 in
theorem tw745 : (.code yX5_pass cX5_pass 2 (some .boolean) : Cond) ∈ TBG := List.mem_filter.mpr ⟨in_t3 _ (List.mem_of_getElem? (i := 155) rfl), rfl⟩
theorem tw746 : (.methodLink RX5 105 yX5_readNumber : Cond) ∈ TBG := TBG_mem (i := 746) (by decide +kernel) rfl
theorem tw748 : (.instanceMethod yX5_readNumber : Cond) ∈ TBG := TBG_mem (i := 748) (by decide +kernel) rfl
set_option maxRecDepth 20000 in
theorem tw749 : (.code yX5_readNumber cX5_readNumber 4 (some .boolean) : Cond) ∈ TBG := List.mem_filter.mpr ⟨in_t3 _ (List.mem_of_getElem? (i := 159) rfl), rfl⟩
theorem tw750 : (.methodLink RX5 64 yX4_emit : Cond) ∈ TBG := TBG_mem (i := 750) (by decide +kernel) rfl
theorem tw751 : (.instanceMethod yX4_emit : Cond) ∈ TBG := TBG_mem (i := 751) (by decide +kernel) rfl
theorem tw752 : (.selects RX4 yX4_emit yX4_emit : Cond) ∈ TBG := TBG_mem (i := 752) (by decide +kernel) rfl
set_option maxRecDepth 20000 in
theorem tw753 : (.code yX4_emit cX4_emit 2 (none) : Cond) ∈ TBG := List.mem_filter.mpr ⟨in_t3 _ (List.mem_of_getElem? (i := 163) rfl), rfl⟩
theorem tw755 : (.methodLink RX5 73 yX5_readEither : Cond) ∈ TBG := TBG_mem (i := 755) (by decide +kernel) rfl
theorem tw757 : (.instanceMethod yX5_readEither : Cond) ∈ TBG := TBG_mem (i := 757) (by decide +kernel) rfl
set_option maxRecDepth 20000 in
theorem tw758 : (.code yX5_readEither cX5_readEither 4 (some .boolean) : Cond) ∈ TBG := List.mem_filter.mpr ⟨in_t3 _ (List.mem_of_getElem? (i := 168) rfl), rfl⟩
theorem tw759 : (.methodLink RX5 79 yX5_readBoth : Cond) ∈ TBG := TBG_mem (i := 759) (by decide +kernel) rfl
theorem tw761 : (.instanceMethod yX5_readBoth : Cond) ∈ TBG := TBG_mem (i := 761) (by decide +kernel) rfl
set_option maxRecDepth 20000 in
theorem tw762 : (.code yX5_readBoth cX5_readBoth 4 (some .boolean) : Cond) ∈ TBG := List.mem_filter.mpr ⟨in_t3 _ (List.mem_of_getElem? (i := 172) rfl), rfl⟩
theorem tw763 : (.methodLink RX5 89 yX5_readTest : Cond) ∈ TBG := TBG_mem (i := 763) (by decide +kernel) rfl
theorem tw765 : (.instanceMethod yX5_readTest : Cond) ∈ TBG := TBG_mem (i := 765) (by decide +kernel) rfl
set_option maxRecDepth 20000 in
theorem tw766 : (.code yX5_readTest cX5_readTest 4 (some .boolean) : Cond) ∈ TBG := List.mem_filter.mpr ⟨in_t3 _ (List.mem_of_getElem? (i := 176) rfl), rfl⟩
theorem tw767 : (.methodLink RX5 95 yX5_readInner : Cond) ∈ TBG := TBG_mem (i := 767) (by decide +kernel) rfl
theorem tw769 : (.instanceMethod yX5_readInner : Cond) ∈ TBG := TBG_mem (i := 769) (by decide +kernel) rfl
set_option maxRecDepth 20000 in
theorem tw770 : (.code yX5_readInner cX5_readInner 3 (some .boolean) : Cond) ∈ TBG := List.mem_filter.mpr ⟨in_t3 _ (List.mem_of_getElem? (i := 180) rfl), rfl⟩
theorem tw771 : (.methodLink RX5 82 yX5_emitJump : Cond) ∈ TBG := TBG_mem (i := 771) (by decide +kernel) rfl
theorem tw773 : (.instanceMethod yX5_emitJump : Cond) ∈ TBG := TBG_mem (i := 773) (by decide +kernel) rfl
set_option maxRecDepth 20000 in
theorem tw774 : (.code yX5_emitJump cX5_emitJump 3 (some .int) : Cond) ∈ TBG := List.mem_filter.mpr ⟨in_t3 _ (List.mem_of_getElem? (i := 184) rfl), rfl⟩
theorem tw775 : (.methodLink RX5 86 yX5_land : Cond) ∈ TBG := TBG_mem (i := 775) (by decide +kernel) rfl
theorem tw777 : (.instanceMethod yX5_land : Cond) ∈ TBG := TBG_mem (i := 777) (by decide +kernel) rfl
set_option maxRecDepth 20000 in
theorem tw778 : (.code yX5_land cX5_land 2 (none) : Cond) ∈ TBG := List.mem_filter.mpr ⟨in_t3 _ (List.mem_of_getElem? (i := 188) rfl), rfl⟩
theorem tw779 : (.methodLink RX11 153 yX4_copyFrom : Cond) ∈ TBG := TBG_mem (i := 779) (by decide +kernel) rfl
theorem tw780 : (.instanceMethod yX4_copyFrom : Cond) ∈ TBG := TBG_mem (i := 780) (by decide +kernel) rfl
theorem tw781 : (.selects RX4 yX4_copyFrom yX4_copyFrom : Cond) ∈ TBG := TBG_mem (i := 781) (by decide +kernel) rfl
set_option maxRecDepth 20000 in
theorem tw782 : (.code yX4_copyFrom cX4_copyFrom 2 (none) : Cond) ∈ TBG := List.mem_filter.mpr ⟨in_t3 _ (List.mem_of_getElem? (i := 192) rfl), rfl⟩
theorem tw783 : (.methodLink RX4 31 ⟨"java/lang/System", "arraycopy", "(Ljava/lang/Object;ILjava/lang/Object;II)V"⟩ : Cond) ∈ TBG := TBG_mem (i := 783) (by decide +kernel) rfl
theorem tw784 : (.static ⟨"java/lang/System", "arraycopy", "(Ljava/lang/Object;ILjava/lang/Object;II)V"⟩ : Cond) ∈ TBG := TBG_mem (i := 784) (by decide +kernel) rfl
theorem tw785 : (.native ⟨"java/lang/System", "arraycopy", "(Ljava/lang/Object;ILjava/lang/Object;II)V"⟩ : Cond) ∈ TBG := TBG_mem (i := 785) (by decide +kernel) rfl
theorem tw787 : (.methodLink RL 42 yX11_edge : Cond) ∈ TBG := TBG_mem (i := 787) (by decide +kernel) rfl
theorem tw788 : (.instanceMethod yX11_edge : Cond) ∈ TBG := TBG_mem (i := 788) (by decide +kernel) rfl
theorem tw789 : (.selects RX11 yX11_edge yX11_edge : Cond) ∈ TBG := TBG_mem (i := 789) (by decide +kernel) rfl
set_option maxRecDepth 20000 in
theorem tw790 : (.code yX11_edge cX11_edge 6 (some .int) : Cond) ∈ TBG := List.mem_filter.mpr ⟨in_t3 _ (List.mem_of_getElem? (i := 200) rfl), rfl⟩
theorem tw791 : (.methodLink RX11 159 yX6_readEdge : Cond) ∈ TBG := TBG_mem (i := 791) (by decide +kernel) rfl
theorem tw792 : (.instanceMethod yX6_readEdge : Cond) ∈ TBG := TBG_mem (i := 792) (by decide +kernel) rfl
theorem tw793 : (.selects RX6 yX6_readEdge yX6_readEdge : Cond) ∈ TBG := TBG_mem (i := 793) (by decide +kernel) rfl
set_option maxRecDepth 20000 in
theorem tw794 : (.code yX6_readEdge cX6_readEdge 4 (some .boolean) : Cond) ∈ TBG := List.mem_filter.mpr ⟨in_t3 _ (List.mem_of_getElem? (i := 204) rfl), rfl⟩
theorem tw795 : (.methodLink RX6 15 ⟨"PuzzleWed$ListReader", "begin", "(I)V"⟩ : Cond) ∈ TBG := TBG_mem (i := 795) (by decide +kernel) rfl
theorem tw796 : (.sameMethod RX6 RX7 "begin" "(I)V" : Cond) ∈ TBG := TBG_mem (i := 796) (by decide +kernel) rfl
theorem tw797 : (.selects RX6 ⟨"PuzzleWed$ListReader", "begin", "(I)V"⟩ yX7_begin : Cond) ∈ TBG := TBG_mem (i := 797) (by decide +kernel) rfl
theorem tw798 : (.methodLink RX6 26 yX6_readHeight : Cond) ∈ TBG := TBG_mem (i := 798) (by decide +kernel) rfl
theorem tw800 : (.instanceMethod yX6_readHeight : Cond) ∈ TBG := TBG_mem (i := 800) (by decide +kernel) rfl
set_option maxRecDepth 20000 in
theorem tw801 : (.code yX6_readHeight cX6_readHeight 3 (some .boolean) : Cond) ∈ TBG := List.mem_filter.mpr ⟨in_t3 _ (List.mem_of_getElem? (i := 211) rfl), rfl⟩
theorem tw802 : (.methodLink RX6 51 ⟨"PuzzleWed$ListReader", "sign", "()I"⟩ : Cond) ∈ TBG := TBG_mem (i := 802) (by decide +kernel) rfl
theorem tw803 : (.sameMethod RX6 RX7 "sign" "()I" : Cond) ∈ TBG := TBG_mem (i := 803) (by decide +kernel) rfl
theorem tw804 : (.selects RX6 ⟨"PuzzleWed$ListReader", "sign", "()I"⟩ yX7_sign : Cond) ∈ TBG := TBG_mem (i := 804) (by decide +kernel) rfl
theorem tw805 : (.methodLink RX6 48 ⟨"PuzzleWed$ListReader", "fail", "(I)Z"⟩ : Cond) ∈ TBG := TBG_mem (i := 805) (by decide +kernel) rfl
theorem tw806 : (.sameMethod RX6 RX7 "fail" "(I)Z" : Cond) ∈ TBG := TBG_mem (i := 806) (by decide +kernel) rfl
theorem tw807 : (.selects RX6 ⟨"PuzzleWed$ListReader", "fail", "(I)Z"⟩ yX7_fail : Cond) ∈ TBG := TBG_mem (i := 807) (by decide +kernel) rfl
theorem tw808 : (.methodLink RX6 30 yX6_readTimes : Cond) ∈ TBG := TBG_mem (i := 808) (by decide +kernel) rfl
theorem tw810 : (.instanceMethod yX6_readTimes : Cond) ∈ TBG := TBG_mem (i := 810) (by decide +kernel) rfl
set_option maxRecDepth 20000 in
theorem tw811 : (.code yX6_readTimes cX6_readTimes 3 (some .boolean) : Cond) ∈ TBG := List.mem_filter.mpr ⟨in_t3 _ (List.mem_of_getElem? (i := 221) rfl), rfl⟩
theorem tw812 : (.methodLink RX6 37 ⟨"PuzzleWed$ListReader", "failAt", "(II)Z"⟩ : Cond) ∈ TBG := TBG_mem (i := 812) (by decide +kernel) rfl
theorem tw813 : (.sameMethod RX6 RX7 "failAt" "(II)Z" : Cond) ∈ TBG := TBG_mem (i := 813) (by decide +kernel) rfl
theorem tw815 : (.selects RX6 ⟨"PuzzleWed$ListReader", "failAt", "(II)Z"⟩ yX7_failAt : Cond) ∈ TBG := TBG_mem (i := 815) (by decide +kernel) rfl
theorem tw816 : (.methodLink RX6 41 yX6_put : Cond) ∈ TBG := TBG_mem (i := 816) (by decide +kernel) rfl
theorem tw818 : (.instanceMethod yX6_put : Cond) ∈ TBG := TBG_mem (i := 818) (by decide +kernel) rfl
set_option maxRecDepth 20000 in
theorem tw819 : (.code yX6_put cX6_put 2 (none) : Cond) ∈ TBG := List.mem_filter.mpr ⟨in_t3 _ (List.mem_of_getElem? (i := 229) rfl), rfl⟩
theorem tw820 : (.methodLink RX6 45 ⟨"PuzzleWed$ListReader", "isEnd", "()Z"⟩ : Cond) ∈ TBG := TBG_mem (i := 820) (by decide +kernel) rfl
theorem tw821 : (.sameMethod RX6 RX7 "isEnd" "()Z" : Cond) ∈ TBG := TBG_mem (i := 821) (by decide +kernel) rfl
theorem tw822 : (.selects RX6 ⟨"PuzzleWed$ListReader", "isEnd", "()Z"⟩ yX7_isEnd : Cond) ∈ TBG := TBG_mem (i := 822) (by decide +kernel) rfl
theorem tw823 : (.methodLink RX11 170 yJ9_abs_0f7a4 : Cond) ∈ TBG := TBG_mem (i := 823) (by decide +kernel) rfl
theorem tw824 : (.static yJ9_abs_0f7a4 : Cond) ∈ TBG := TBG_mem (i := 824) (by decide +kernel) rfl
set_option maxRecDepth 20000 in
theorem tw825 : (.code yJ9_abs_0f7a4 cJ9_abs_0f7a4 1 (some .int) : Cond) ∈ TBG := List.mem_filter.mpr ⟨in_t3 _ (List.mem_of_getElem? (i := 235) rfl), rfl⟩
theorem tw826 : (.methodLink RL 47 yX11_journey : Cond) ∈ TBG := TBG_mem (i := 826) (by decide +kernel) rfl
theorem tw827 : (.instanceMethod yX11_journey : Cond) ∈ TBG := TBG_mem (i := 827) (by decide +kernel) rfl
theorem tw828 : (.selects RX11 yX11_journey yX11_journey : Cond) ∈ TBG := TBG_mem (i := 828) (by decide +kernel) rfl
set_option maxRecDepth 20000 in
theorem tw829 : (.code yX11_journey cX11_journey 4 (some .int) : Cond) ∈ TBG := List.mem_filter.mpr ⟨in_t3 _ (List.mem_of_getElem? (i := 239) rfl), rfl⟩
theorem tw830 : (.methodLink RX11 176 yX6_readWay : Cond) ∈ TBG := TBG_mem (i := 830) (by decide +kernel) rfl
theorem tw831 : (.instanceMethod yX6_readWay : Cond) ∈ TBG := TBG_mem (i := 831) (by decide +kernel) rfl
theorem tw832 : (.selects RX6 yX6_readWay yX6_readWay : Cond) ∈ TBG := TBG_mem (i := 832) (by decide +kernel) rfl
set_option maxRecDepth 20000 in
theorem tw833 : (.code yX6_readWay cX6_readWay 4 (some .boolean) : Cond) ∈ TBG := List.mem_filter.mpr ⟨in_t4 _ (List.mem_of_getElem? (i := 3) rfl), rfl⟩
theorem tw834 : (.methodLink RX11 182 ⟨"java/lang/System", "arraycopy", "(Ljava/lang/Object;ILjava/lang/Object;II)V"⟩ : Cond) ∈ TBG := TBG_mem (i := 834) (by decide +kernel) rfl
theorem tw835 : (.methodLink RL 51 yX11_days : Cond) ∈ TBG := TBG_mem (i := 835) (by decide +kernel) rfl
theorem tw836 : (.instanceMethod yX11_days : Cond) ∈ TBG := TBG_mem (i := 836) (by decide +kernel) rfl
theorem tw837 : (.selects RX11 yX11_days yX11_days : Cond) ∈ TBG := TBG_mem (i := 837) (by decide +kernel) rfl
set_option maxRecDepth 20000 in
theorem tw838 : (.code yX11_days cX11_days 2 (some .int) : Cond) ∈ TBG := List.mem_filter.mpr ⟨in_t4 _ (List.mem_of_getElem? (i := 8) rfl), rfl⟩
theorem tw839 : (.methodLink RX11 197 yX1_pass : Cond) ∈ TBG := TBG_mem (i := 839) (by decide +kernel) rfl
theorem tw840 : (.instanceMethod yX1_pass : Cond) ∈ TBG := TBG_mem (i := 840) (by decide +kernel) rfl
theorem tw841 : (.selects RX1 yX1_pass yX1_pass : Cond) ∈ TBG := TBG_mem (i := 841) (by decide +kernel) rfl
set_option maxRecDepth 20000 in
theorem tw842 : (.code yX1_pass cX1_pass 4 (none) : Cond) ∈ TBG := List.mem_filter.mpr ⟨in_t4 _ (List.mem_of_getElem? (i := 12) rfl), rfl⟩
theorem tw843 : (.methodLink RX1 30 yX1_travel : Cond) ∈ TBG := TBG_mem (i := 843) (by decide +kernel) rfl
theorem tw845 : (.instanceMethod yX1_travel : Cond) ∈ TBG := TBG_mem (i := 845) (by decide +kernel) rfl
set_option maxRecDepth 20000 in
theorem tw846 : (.code yX1_travel cX1_travel 4 (none) : Cond) ∈ TBG := List.mem_filter.mpr ⟨in_t4 _ (List.mem_of_getElem? (i := 16) rfl), rfl⟩
theorem tw847 : (.methodLink RX1 44 yX3_isFree : Cond) ∈ TBG := TBG_mem (i := 847) (by decide +kernel) rfl
theorem tw848 : (.methodLink RX1 34 yX1_meet : Cond) ∈ TBG := TBG_mem (i := 848) (by decide +kernel) rfl
theorem tw850 : (.instanceMethod yX1_meet : Cond) ∈ TBG := TBG_mem (i := 850) (by decide +kernel) rfl
set_option maxRecDepth 20000 in
theorem tw851 : (.code yX1_meet cX1_meet 6 (none) : Cond) ∈ TBG := List.mem_filter.mpr ⟨in_t4 _ (List.mem_of_getElem? (i := 21) rfl), rfl⟩
theorem tw852 : (.methodLink RX1 58 yX1_nextFor : Cond) ∈ TBG := TBG_mem (i := 852) (by decide +kernel) rfl
theorem tw853 : (.static yX1_nextFor : Cond) ∈ TBG := TBG_mem (i := 853) (by decide +kernel) rfl
set_option maxRecDepth 20000 in
theorem tw854 : (.code yX1_nextFor cX1_nextFor 4 (some .int) : Cond) ∈ TBG := List.mem_filter.mpr ⟨in_t4 _ (List.mem_of_getElem? (i := 24) rfl), rfl⟩
theorem tw855 : (.methodLink RX1 84 yX3_hasTried : Cond) ∈ TBG := TBG_mem (i := 855) (by decide +kernel) rfl
theorem tw856 : (.instanceMethod yX3_hasTried : Cond) ∈ TBG := TBG_mem (i := 856) (by decide +kernel) rfl
theorem tw857 : (.selects RX3 yX3_hasTried yX3_hasTried : Cond) ∈ TBG := TBG_mem (i := 857) (by decide +kernel) rfl
set_option maxRecDepth 20000 in
theorem tw858 : (.code yX3_hasTried cX3_hasTried 3 (some .boolean) : Cond) ∈ TBG := List.mem_filter.mpr ⟨in_t4 _ (List.mem_of_getElem? (i := 28) rfl), rfl⟩
theorem tw859 : (.methodLink RX1 62 yX3_markTried : Cond) ∈ TBG := TBG_mem (i := 859) (by decide +kernel) rfl
theorem tw860 : (.instanceMethod yX3_markTried : Cond) ∈ TBG := TBG_mem (i := 860) (by decide +kernel) rfl
theorem tw861 : (.selects RX3 yX3_markTried yX3_markTried : Cond) ∈ TBG := TBG_mem (i := 861) (by decide +kernel) rfl
set_option maxRecDepth 20000 in
theorem tw862 : (.code yX3_markTried cX3_markTried 3 (none) : Cond) ∈ TBG := List.mem_filter.mpr ⟨in_t4 _ (List.mem_of_getElem? (i := 32) rfl), rfl⟩
theorem tw863 : (.methodLink RX1 66 yX2_fit : Cond) ∈ TBG := TBG_mem (i := 863) (by decide +kernel) rfl
theorem tw864 : (.instanceMethod yX2_fit : Cond) ∈ TBG := TBG_mem (i := 864) (by decide +kernel) rfl
theorem tw865 : (.selects RX2 yX2_fit yX2_fit : Cond) ∈ TBG := TBG_mem (i := 865) (by decide +kernel) rfl
set_option maxRecDepth 20000 in
theorem tw866 : (.code yX2_fit cX2_fit 5 (some .boolean) : Cond) ∈ TBG := List.mem_filter.mpr ⟨in_t4 _ (List.mem_of_getElem? (i := 36) rfl), rfl⟩
theorem tw867 : (.methodLink RX2 48 yX2_slackOf : Cond) ∈ TBG := TBG_mem (i := 867) (by decide +kernel) rfl
theorem tw868 : (.instanceMethod yX2_slackOf : Cond) ∈ TBG := TBG_mem (i := 868) (by decide +kernel) rfl
theorem tw869 : (.selects RX2 yX2_slackOf yX2_slackOf : Cond) ∈ TBG := TBG_mem (i := 869) (by decide +kernel) rfl
set_option maxRecDepth 20000 in
theorem tw870 : (.code yX2_slackOf cX2_slackOf 9 (some .int) : Cond) ∈ TBG := List.mem_filter.mpr ⟨in_t4 _ (List.mem_of_getElem? (i := 40) rfl), rfl⟩
theorem tw871 : (.methodLink RX2 34 yX2_gap : Cond) ∈ TBG := TBG_mem (i := 871) (by decide +kernel) rfl
theorem tw872 : (.static yX2_gap : Cond) ∈ TBG := TBG_mem (i := 872) (by decide +kernel) rfl
set_option maxRecDepth 20000 in
theorem tw873 : (.code yX2_gap cX2_gap 4 (some .int) : Cond) ∈ TBG := List.mem_filter.mpr ⟨in_t4 _ (List.mem_of_getElem? (i := 43) rfl), rfl⟩
theorem tw874 : (.methodLink RX2 19 yJ9_abs_0f7a4 : Cond) ∈ TBG := TBG_mem (i := 874) (by decide +kernel) rfl
theorem tw875 : (.methodLink RX2 41 yJ9_max_7cf53 : Cond) ∈ TBG := TBG_mem (i := 875) (by decide +kernel) rfl
theorem tw876 : (.methodLink RX2 45 yJ9_min_7cf53 : Cond) ∈ TBG := TBG_mem (i := 876) (by decide +kernel) rfl
theorem tw877 : (.methodLink RX2 52 yX2_allowance : Cond) ∈ TBG := TBG_mem (i := 877) (by decide +kernel) rfl
theorem tw878 : (.instanceMethod yX2_allowance : Cond) ∈ TBG := TBG_mem (i := 878) (by decide +kernel) rfl
theorem tw879 : (.selects RX2 yX2_allowance yX2_allowance : Cond) ∈ TBG := TBG_mem (i := 879) (by decide +kernel) rfl
set_option maxRecDepth 20000 in
theorem tw880 : (.code yX2_allowance cX2_allowance 5 (some .int) : Cond) ∈ TBG := List.mem_filter.mpr ⟨in_t4 _ (List.mem_of_getElem? (i := 50) rfl), rfl⟩
theorem tw881 : (.methodLink RX2 55 yX2_isFirst : Cond) ∈ TBG := TBG_mem (i := 881) (by decide +kernel) rfl
theorem tw882 : (.static yX2_isFirst : Cond) ∈ TBG := TBG_mem (i := 882) (by decide +kernel) rfl
set_option maxRecDepth 20000 in
theorem tw883 : (.code yX2_isFirst cX2_isFirst 3 (some .boolean) : Cond) ∈ TBG := List.mem_filter.mpr ⟨in_t4 _ (List.mem_of_getElem? (i := 53) rfl), rfl⟩
theorem tw885 : (.methodLink RX2 59 yX2_rule : Cond) ∈ TBG := TBG_mem (i := 885) (by decide +kernel) rfl
theorem tw886 : (.instanceMethod yX2_rule : Cond) ∈ TBG := TBG_mem (i := 886) (by decide +kernel) rfl
theorem tw887 : (.selects RX2 yX2_rule yX2_rule : Cond) ∈ TBG := TBG_mem (i := 887) (by decide +kernel) rfl
set_option maxRecDepth 20000 in
theorem tw888 : (.code yX2_rule cX2_rule 8 (some .int) : Cond) ∈ TBG := List.mem_filter.mpr ⟨in_t4 _ (List.mem_of_getElem? (i := 58) rfl), rfl⟩
theorem tw889 : (.methodLink RX2 73 yX2_fill : Cond) ∈ TBG := TBG_mem (i := 889) (by decide +kernel) rfl
theorem tw891 : (.instanceMethod yX2_fill : Cond) ∈ TBG := TBG_mem (i := 891) (by decide +kernel) rfl
set_option maxRecDepth 20000 in
theorem tw892 : (.code yX2_fill cX2_fill 5 (none) : Cond) ∈ TBG := List.mem_filter.mpr ⟨in_t4 _ (List.mem_of_getElem? (i := 62) rfl), rfl⟩
theorem tw893 : (.methodLink RX2 96 yJ7_fill_53178 : Cond) ∈ TBG := TBG_mem (i := 893) (by decide +kernel) rfl
theorem tw894 : (.static yJ7_fill_53178 : Cond) ∈ TBG := TBG_mem (i := 894) (by decide +kernel) rfl
set_option maxRecDepth 20000 in
theorem tw895 : (.code yJ7_fill_53178 cJ7_fill_53178 4 (none) : Cond) ∈ TBG := List.mem_filter.mpr ⟨in_t4 _ (List.mem_of_getElem? (i := 65) rfl), rfl⟩
theorem tw896 : (.methodLink RX2 101 yX3_piecesOf : Cond) ∈ TBG := TBG_mem (i := 896) (by decide +kernel) rfl
theorem tw897 : (.instanceMethod yX3_piecesOf : Cond) ∈ TBG := TBG_mem (i := 897) (by decide +kernel) rfl
theorem tw898 : (.selects RX3 yX3_piecesOf yX3_piecesOf : Cond) ∈ TBG := TBG_mem (i := 898) (by decide +kernel) rfl
set_option maxRecDepth 20000 in
theorem tw899 : (.code yX3_piecesOf cX3_piecesOf 4 (some .int) : Cond) ∈ TBG := List.mem_filter.mpr ⟨in_t4 _ (List.mem_of_getElem? (i := 69) rfl), rfl⟩
theorem tw900 : (.methodLink RX2 104 yJ6_bitCount_0f7a4 : Cond) ∈ TBG := TBG_mem (i := 900) (by decide +kernel) rfl
theorem tw901 : (.static yJ6_bitCount_0f7a4 : Cond) ∈ TBG := TBG_mem (i := 901) (by decide +kernel) rfl
set_option maxRecDepth 20000 in
theorem tw902 : (.code yJ6_bitCount_0f7a4 cJ6_bitCount_0f7a4 1 (some .int) : Cond) ∈ TBG := List.mem_filter.mpr ⟨in_t4 _ (List.mem_of_getElem? (i := 72) rfl), rfl⟩
theorem tw903 : (.constant RJ6 265 (1431655765) : Cond) ∈ TBG := TBG_mem (i := 903) (by decide +kernel) rfl
theorem tw904 : (.constant RJ6 266 (858993459) : Cond) ∈ TBG := TBG_mem (i := 904) (by decide +kernel) rfl
theorem tw905 : (.constant RJ6 267 (252645135) : Cond) ∈ TBG := TBG_mem (i := 905) (by decide +kernel) rfl
theorem tw906 : (.methodLink RX2 89 yX4_run : Cond) ∈ TBG := TBG_mem (i := 906) (by decide +kernel) rfl
theorem tw907 : (.instanceMethod yX4_run : Cond) ∈ TBG := TBG_mem (i := 907) (by decide +kernel) rfl
theorem tw908 : (.selects RX4 yX4_run yX4_run : Cond) ∈ TBG := TBG_mem (i := 908) (by decide +kernel) rfl
set_option maxRecDepth 20000 in
theorem tw909 : (.code yX4_run cX4_run 9 (some .int) : Cond) ∈ TBG := List.mem_filter.mpr ⟨in_t4 _ (List.mem_of_getElem? (i := 79) rfl), rfl⟩
theorem tw910 : (.methodLink RX4 40 yX4_valueOf : Cond) ∈ TBG := TBG_mem (i := 910) (by decide +kernel) rfl
theorem tw911 : (.static yX4_valueOf : Cond) ∈ TBG := TBG_mem (i := 911) (by decide +kernel) rfl
set_option maxRecDepth 20000 in
theorem tw912 : (.code yX4_valueOf cX4_valueOf 2 (some .int) : Cond) ∈ TBG := List.mem_filter.mpr ⟨in_t4 _ (List.mem_of_getElem? (i := 82) rfl), rfl⟩
theorem tw913 : (.methodLink RX4 44 yX4_reckon : Cond) ∈ TBG := TBG_mem (i := 913) (by decide +kernel) rfl
theorem tw914 : (.static yX4_reckon : Cond) ∈ TBG := TBG_mem (i := 914) (by decide +kernel) rfl
set_option maxRecDepth 20000 in
theorem tw915 : (.code yX4_reckon cX4_reckon 3 (some .int) : Cond) ∈ TBG := List.mem_filter.mpr ⟨in_t4 _ (List.mem_of_getElem? (i := 85) rfl), rfl⟩
theorem tw916 : (.methodLink RX1 72 yX3_join : Cond) ∈ TBG := TBG_mem (i := 916) (by decide +kernel) rfl
theorem tw917 : (.methodLink RX1 75 yX2_wearOf : Cond) ∈ TBG := TBG_mem (i := 917) (by decide +kernel) rfl
theorem tw918 : (.instanceMethod yX2_wearOf : Cond) ∈ TBG := TBG_mem (i := 918) (by decide +kernel) rfl
theorem tw919 : (.selects RX2 yX2_wearOf yX2_wearOf : Cond) ∈ TBG := TBG_mem (i := 919) (by decide +kernel) rfl
set_option maxRecDepth 20000 in
theorem tw920 : (.code yX2_wearOf cX2_wearOf 6 (some .int) : Cond) ∈ TBG := List.mem_filter.mpr ⟨in_t4 _ (List.mem_of_getElem? (i := 90) rfl), rfl⟩
theorem tw921 : (.methodLink RX1 78 yX3_wearDown : Cond) ∈ TBG := TBG_mem (i := 921) (by decide +kernel) rfl
theorem tw922 : (.instanceMethod yX3_wearDown : Cond) ∈ TBG := TBG_mem (i := 922) (by decide +kernel) rfl
theorem tw923 : (.selects RX3 yX3_wearDown yX3_wearDown : Cond) ∈ TBG := TBG_mem (i := 923) (by decide +kernel) rfl
set_option maxRecDepth 20000 in
theorem tw924 : (.code yX3_wearDown cX3_wearDown 4 (none) : Cond) ∈ TBG := List.mem_filter.mpr ⟨in_t4 _ (List.mem_of_getElem? (i := 94) rfl), rfl⟩
theorem tw925 : (.methodLink RX3 68 yJ9_min_7cf53 : Cond) ∈ TBG := TBG_mem (i := 925) (by decide +kernel) rfl
theorem tw926 : (.methodLink RX1 37 yX1_strain : Cond) ∈ TBG := TBG_mem (i := 926) (by decide +kernel) rfl
theorem tw928 : (.instanceMethod yX1_strain : Cond) ∈ TBG := TBG_mem (i := 928) (by decide +kernel) rfl
set_option maxRecDepth 20000 in
theorem tw929 : (.code yX1_strain cX1_strain 5 (none) : Cond) ∈ TBG := List.mem_filter.mpr ⟨in_t4 _ (List.mem_of_getElem? (i := 99) rfl), rfl⟩
theorem tw931 : (.methodLink RX1 94 yX2_slackOf : Cond) ∈ TBG := TBG_mem (i := 931) (by decide +kernel) rfl
theorem tw932 : (.methodLink RX1 97 yX3_draw : Cond) ∈ TBG := TBG_mem (i := 932) (by decide +kernel) rfl
theorem tw933 : (.instanceMethod yX3_draw : Cond) ∈ TBG := TBG_mem (i := 933) (by decide +kernel) rfl
theorem tw934 : (.selects RX3 yX3_draw yX3_draw : Cond) ∈ TBG := TBG_mem (i := 934) (by decide +kernel) rfl
set_option maxRecDepth 20000 in
theorem tw935 : (.code yX3_draw cX3_draw 1 (some .int) : Cond) ∈ TBG := List.mem_filter.mpr ⟨in_t4 _ (List.mem_of_getElem? (i := 105) rfl), rfl⟩
theorem tw936 : (.constant RX3 74 (65535) : Cond) ∈ TBG := TBG_mem (i := 936) (by decide +kernel) rfl
theorem tw937 : (.methodLink RX1 101 yX2_rule : Cond) ∈ TBG := TBG_mem (i := 937) (by decide +kernel) rfl
theorem tw938 : (.methodLink RX1 108 yJ9_min_7cf53 : Cond) ∈ TBG := TBG_mem (i := 938) (by decide +kernel) rfl
theorem tw939 : (.methodLink RX1 114 yX3_separate : Cond) ∈ TBG := TBG_mem (i := 939) (by decide +kernel) rfl
theorem tw940 : (.methodLink RL 55 yX11_tried : Cond) ∈ TBG := TBG_mem (i := 940) (by decide +kernel) rfl
theorem tw941 : (.instanceMethod yX11_tried : Cond) ∈ TBG := TBG_mem (i := 941) (by decide +kernel) rfl
theorem tw942 : (.selects RX11 yX11_tried yX11_tried : Cond) ∈ TBG := TBG_mem (i := 942) (by decide +kernel) rfl
set_option maxRecDepth 20000 in
theorem tw943 : (.code yX11_tried cX11_tried 6 (some .int) : Cond) ∈ TBG := List.mem_filter.mpr ⟨in_t4 _ (List.mem_of_getElem? (i := 113) rfl), rfl⟩
theorem tw944 : (.methodLink RX11 204 yX3_copyFrom : Cond) ∈ TBG := TBG_mem (i := 944) (by decide +kernel) rfl
theorem tw945 : (.instanceMethod yX3_copyFrom : Cond) ∈ TBG := TBG_mem (i := 945) (by decide +kernel) rfl
theorem tw946 : (.selects RX3 yX3_copyFrom yX3_copyFrom : Cond) ∈ TBG := TBG_mem (i := 946) (by decide +kernel) rfl
set_option maxRecDepth 20000 in
theorem tw947 : (.code yX3_copyFrom cX3_copyFrom 3 (none) : Cond) ∈ TBG := List.mem_filter.mpr ⟨in_t4 _ (List.mem_of_getElem? (i := 117) rfl), rfl⟩
theorem tw948 : (.methodLink RX3 78 ⟨"java/lang/System", "arraycopy", "(Ljava/lang/Object;ILjava/lang/Object;II)V"⟩ : Cond) ∈ TBG := TBG_mem (i := 948) (by decide +kernel) rfl
theorem tw949 : (.methodLink RX11 216 yX3_countTwos : Cond) ∈ TBG := TBG_mem (i := 949) (by decide +kernel) rfl
theorem tw950 : (.instanceMethod yX3_countTwos : Cond) ∈ TBG := TBG_mem (i := 950) (by decide +kernel) rfl
theorem tw951 : (.selects RX3 yX3_countTwos yX3_countTwos : Cond) ∈ TBG := TBG_mem (i := 951) (by decide +kernel) rfl
set_option maxRecDepth 20000 in
theorem tw952 : (.code yX3_countTwos cX3_countTwos 3 (some .int) : Cond) ∈ TBG := List.mem_filter.mpr ⟨in_t4 _ (List.mem_of_getElem? (i := 122) rfl), rfl⟩
theorem tw953 : (.methodLink RL 59 yX11_personIs : Cond) ∈ TBG := TBG_mem (i := 953) (by decide +kernel) rfl
theorem tw954 : (.instanceMethod yX11_personIs : Cond) ∈ TBG := TBG_mem (i := 954) (by decide +kernel) rfl
theorem tw955 : (.selects RX11 yX11_personIs yX11_personIs : Cond) ∈ TBG := TBG_mem (i := 955) (by decide +kernel) rfl
set_option maxRecDepth 20000 in
theorem tw956 : (.code yX11_personIs cX11_personIs 3 (some .int) : Cond) ∈ TBG := List.mem_filter.mpr ⟨in_t4 _ (List.mem_of_getElem? (i := 126) rfl), rfl⟩
theorem tw957 : (.methodLink RX11 223 yX3_piecesOf : Cond) ∈ TBG := TBG_mem (i := 957) (by decide +kernel) rfl
theorem tw958 : (.methodLink RX11 226 yX11_whomItFits : Cond) ∈ TBG := TBG_mem (i := 958) (by decide +kernel) rfl
theorem tw960 : (.instanceMethod yX11_whomItFits : Cond) ∈ TBG := TBG_mem (i := 960) (by decide +kernel) rfl
set_option maxRecDepth 20000 in
theorem tw961 : (.code yX11_whomItFits cX11_whomItFits 4 (some .int) : Cond) ∈ TBG := List.mem_filter.mpr ⟨in_t4 _ (List.mem_of_getElem? (i := 131) rfl), rfl⟩
theorem tw962 : (.methodLink RX11 232 yX2_fit : Cond) ∈ TBG := TBG_mem (i := 962) (by decide +kernel) rfl
theorem tw963 : (.methodLink RL 63 yX11_piece : Cond) ∈ TBG := TBG_mem (i := 963) (by decide +kernel) rfl
theorem tw964 : (.instanceMethod yX11_piece : Cond) ∈ TBG := TBG_mem (i := 964) (by decide +kernel) rfl
theorem tw965 : (.selects RX11 yX11_piece yX11_piece : Cond) ∈ TBG := TBG_mem (i := 965) (by decide +kernel) rfl
set_option maxRecDepth 20000 in
theorem tw966 : (.code yX11_piece cX11_piece 3 (some .int) : Cond) ∈ TBG := List.mem_filter.mpr ⟨in_t4 _ (List.mem_of_getElem? (i := 136) rfl), rfl⟩
theorem tw967 : (.methodLink RL 67 yX11_slack : Cond) ∈ TBG := TBG_mem (i := 967) (by decide +kernel) rfl
theorem tw968 : (.instanceMethod yX11_slack : Cond) ∈ TBG := TBG_mem (i := 968) (by decide +kernel) rfl
theorem tw969 : (.selects RX11 yX11_slack yX11_slack : Cond) ∈ TBG := TBG_mem (i := 969) (by decide +kernel) rfl
set_option maxRecDepth 20000 in
theorem tw970 : (.code yX11_slack cX11_slack 5 (some .int) : Cond) ∈ TBG := List.mem_filter.mpr ⟨in_t4 _ (List.mem_of_getElem? (i := 140) rfl), rfl⟩
theorem tw971 : (.methodLink RX11 239 yX2_slackOf : Cond) ∈ TBG := TBG_mem (i := 971) (by decide +kernel) rfl
theorem tw972 : (.methodLink RX11 243 yX2_liking : Cond) ∈ TBG := TBG_mem (i := 972) (by decide +kernel) rfl
theorem tw973 : (.instanceMethod yX2_liking : Cond) ∈ TBG := TBG_mem (i := 973) (by decide +kernel) rfl
theorem tw974 : (.selects RX2 yX2_liking yX2_liking : Cond) ∈ TBG := TBG_mem (i := 974) (by decide +kernel) rfl
set_option maxRecDepth 20000 in
theorem tw975 : (.code yX2_liking cX2_liking 4 (some .int) : Cond) ∈ TBG := List.mem_filter.mpr ⟨in_t4 _ (List.mem_of_getElem? (i := 145) rfl), rfl⟩
theorem tw976 : (.methodLink RL 72 yX11_locks : Cond) ∈ TBG := TBG_mem (i := 976) (by decide +kernel) rfl
theorem tw977 : (.instanceMethod yX11_locks : Cond) ∈ TBG := TBG_mem (i := 977) (by decide +kernel) rfl
theorem tw978 : (.selects RX11 yX11_locks yX11_locks : Cond) ∈ TBG := TBG_mem (i := 978) (by decide +kernel) rfl
set_option maxRecDepth 20000 in
theorem tw979 : (.code yX11_locks cX11_locks 8 (some .int) : Cond) ∈ TBG := List.mem_filter.mpr ⟨in_t4 _ (List.mem_of_getElem? (i := 149) rfl), rfl⟩
theorem tw980 : (.methodLink RX11 246 yX11_fitsAbove : Cond) ∈ TBG := TBG_mem (i := 980) (by decide +kernel) rfl
theorem tw982 : (.instanceMethod yX11_fitsAbove : Cond) ∈ TBG := TBG_mem (i := 982) (by decide +kernel) rfl
set_option maxRecDepth 20000 in
theorem tw983 : (.code yX11_fitsAbove cX11_fitsAbove 4 (some .int) : Cond) ∈ TBG := List.mem_filter.mpr ⟨in_t4 _ (List.mem_of_getElem? (i := 153) rfl), rfl⟩
theorem tw984 : (.methodLink RX11 249 yX11_lowestOf : Cond) ∈ TBG := TBG_mem (i := 984) (by decide +kernel) rfl
theorem tw985 : (.static yX11_lowestOf : Cond) ∈ TBG := TBG_mem (i := 985) (by decide +kernel) rfl
set_option maxRecDepth 20000 in
theorem tw986 : (.code yX11_lowestOf cX11_lowestOf 2 (some .int) : Cond) ∈ TBG := List.mem_filter.mpr ⟨in_t4 _ (List.mem_of_getElem? (i := 156) rfl), rfl⟩
theorem tw987 : (.methodLink RX11 252 yJ6_bitCount_0f7a4 : Cond) ∈ TBG := TBG_mem (i := 987) (by decide +kernel) rfl
theorem tw988 : (.methodLink RL 76 yX11_most : Cond) ∈ TBG := TBG_mem (i := 988) (by decide +kernel) rfl
theorem tw989 : (.instanceMethod yX11_most : Cond) ∈ TBG := TBG_mem (i := 989) (by decide +kernel) rfl
theorem tw990 : (.selects RX11 yX11_most yX11_most : Cond) ∈ TBG := TBG_mem (i := 990) (by decide +kernel) rfl
set_option maxRecDepth 20000 in
theorem tw991 : (.code yX11_most cX11_most 3 (some .int) : Cond) ∈ TBG := List.mem_filter.mpr ⟨in_t4 _ (List.mem_of_getElem? (i := 161) rfl), rfl⟩
theorem tw992 : (.methodLink RX11 257 yX0_findMost : Cond) ∈ TBG := TBG_mem (i := 992) (by decide +kernel) rfl
theorem tw993 : (.instanceMethod yX0_findMost : Cond) ∈ TBG := TBG_mem (i := 993) (by decide +kernel) rfl
theorem tw994 : (.selects RX0 yX0_findMost yX0_findMost : Cond) ∈ TBG := TBG_mem (i := 994) (by decide +kernel) rfl
set_option maxRecDepth 20000 in
theorem tw995 : (.code yX0_findMost cX0_findMost 5 (none) : Cond) ∈ TBG := List.mem_filter.mpr ⟨in_t4 _ (List.mem_of_getElem? (i := 165) rfl), rfl⟩
theorem tw996 : (.methodLink RX0 58 yX0_gather : Cond) ∈ TBG := TBG_mem (i := 996) (by decide +kernel) rfl
theorem tw998 : (.instanceMethod yX0_gather : Cond) ∈ TBG := TBG_mem (i := 998) (by decide +kernel) rfl
set_option maxRecDepth 20000 in
theorem tw999 : (.code yX0_gather cX0_gather 3 (none) : Cond) ∈ TBG := List.mem_filter.mpr ⟨in_t4 _ (List.mem_of_getElem? (i := 169) rfl), rfl⟩
theorem tw1000 : (.methodLink RX0 49 yX3_isAlive : Cond) ∈ TBG := TBG_mem (i := 1000) (by decide +kernel) rfl
theorem tw1001 : (.methodLink RX0 62 yX2_fit : Cond) ∈ TBG := TBG_mem (i := 1001) (by decide +kernel) rfl
theorem tw1002 : (.methodLink RX0 68 yX2_slackOf : Cond) ∈ TBG := TBG_mem (i := 1002) (by decide +kernel) rfl
theorem tw1003 : (.methodLink RX0 72 yX0_weighAll : Cond) ∈ TBG := TBG_mem (i := 1003) (by decide +kernel) rfl
theorem tw1005 : (.instanceMethod yX0_weighAll : Cond) ∈ TBG := TBG_mem (i := 1005) (by decide +kernel) rfl
set_option maxRecDepth 20000 in
theorem tw1006 : (.code yX0_weighAll cX0_weighAll 6 (none) : Cond) ∈ TBG := List.mem_filter.mpr ⟨in_t4 _ (List.mem_of_getElem? (i := 176) rfl), rfl⟩
theorem tw1007 : (.methodLink RX0 79 yX0_setBest : Cond) ∈ TBG := TBG_mem (i := 1007) (by decide +kernel) rfl
theorem tw1009 : (.instanceMethod yX0_setBest : Cond) ∈ TBG := TBG_mem (i := 1009) (by decide +kernel) rfl
set_option maxRecDepth 20000 in
theorem tw1010 : (.code yX0_setBest cX0_setBest 5 (none) : Cond) ∈ TBG := List.mem_filter.mpr ⟨in_t4 _ (List.mem_of_getElem? (i := 180) rfl), rfl⟩
theorem tw1011 : (.methodLink RX0 83 yX0_bestOf : Cond) ∈ TBG := TBG_mem (i := 1011) (by decide +kernel) rfl
theorem tw1013 : (.instanceMethod yX0_bestOf : Cond) ∈ TBG := TBG_mem (i := 1013) (by decide +kernel) rfl
set_option maxRecDepth 20000 in
theorem tw1014 : (.code yX0_bestOf cX0_bestOf 4 (some .int) : Cond) ∈ TBG := List.mem_filter.mpr ⟨in_t4 _ (List.mem_of_getElem? (i := 184) rfl), rfl⟩
theorem tw1015 : (.methodLink RX0 86 yX0_withBond : Cond) ∈ TBG := TBG_mem (i := 1015) (by decide +kernel) rfl
theorem tw1017 : (.instanceMethod yX0_withBond : Cond) ∈ TBG := TBG_mem (i := 1017) (by decide +kernel) rfl
set_option maxRecDepth 20000 in
theorem tw1018 : (.code yX0_withBond cX0_withBond 4 (some .int) : Cond) ∈ TBG := List.mem_filter.mpr ⟨in_t4 _ (List.mem_of_getElem? (i := 188) rfl), rfl⟩
theorem tw1019 : (.methodLink RX0 90 yJ9_max_7cf53 : Cond) ∈ TBG := TBG_mem (i := 1019) (by decide +kernel) rfl
theorem tw1020 : (.methodLink RX0 75 yX0_choose : Cond) ∈ TBG := TBG_mem (i := 1020) (by decide +kernel) rfl
theorem tw1022 : (.instanceMethod yX0_choose : Cond) ∈ TBG := TBG_mem (i := 1022) (by decide +kernel) rfl
set_option maxRecDepth 20000 in
theorem tw1023 : (.code yX0_choose cX0_choose 4 (some .int) : Cond) ∈ TBG := List.mem_filter.mpr ⟨in_t4 _ (List.mem_of_getElem? (i := 193) rfl), rfl⟩
theorem tw1024 : (.methodLink RL 80 yX11_stable : Cond) ∈ TBG := TBG_mem (i := 1024) (by decide +kernel) rfl
theorem tw1025 : (.instanceMethod yX11_stable : Cond) ∈ TBG := TBG_mem (i := 1025) (by decide +kernel) rfl
theorem tw1026 : (.selects RX11 yX11_stable yX11_stable : Cond) ∈ TBG := TBG_mem (i := 1026) (by decide +kernel) rfl
set_option maxRecDepth 20000 in
theorem tw1027 : (.code yX11_stable cX11_stable 3 (some .int) : Cond) ∈ TBG := List.mem_filter.mpr ⟨in_t4 _ (List.mem_of_getElem? (i := 197) rfl), rfl⟩
theorem tw1028 : (.methodLink RX11 269 yX0_findStable : Cond) ∈ TBG := TBG_mem (i := 1028) (by decide +kernel) rfl
theorem tw1029 : (.instanceMethod yX0_findStable : Cond) ∈ TBG := TBG_mem (i := 1029) (by decide +kernel) rfl
theorem tw1030 : (.selects RX0 yX0_findStable yX0_findStable : Cond) ∈ TBG := TBG_mem (i := 1030) (by decide +kernel) rfl
set_option maxRecDepth 20000 in
theorem tw1031 : (.code yX0_findStable cX0_findStable 7 (none) : Cond) ∈ TBG := List.mem_filter.mpr ⟨in_t4 _ (List.mem_of_getElem? (i := 201) rfl), rfl⟩
theorem tw1032 : (.methodLink RX0 95 yX2_liking : Cond) ∈ TBG := TBG_mem (i := 1032) (by decide +kernel) rfl
theorem tw1033 : (.methodLink RX0 98 yX0_askNext : Cond) ∈ TBG := TBG_mem (i := 1033) (by decide +kernel) rfl
theorem tw1035 : (.instanceMethod yX0_askNext : Cond) ∈ TBG := TBG_mem (i := 1035) (by decide +kernel) rfl
set_option maxRecDepth 20000 in
theorem tw1036 : (.code yX0_askNext cX0_askNext 6 (some .boolean) : Cond) ∈ TBG := List.mem_filter.mpr ⟨in_t4 _ (List.mem_of_getElem? (i := 206) rfl), rfl⟩
theorem tw1037 : (.methodLink RX0 101 yX0_prefers : Cond) ∈ TBG := TBG_mem (i := 1037) (by decide +kernel) rfl
theorem tw1039 : (.instanceMethod yX0_prefers : Cond) ∈ TBG := TBG_mem (i := 1039) (by decide +kernel) rfl
set_option maxRecDepth 20000 in
theorem tw1040 : (.code yX0_prefers cX0_prefers 4 (some .boolean) : Cond) ∈ TBG := List.mem_filter.mpr ⟨in_t4 _ (List.mem_of_getElem? (i := 210) rfl), rfl⟩
theorem tw1041 : (.methodLink RL 84 yX11_unrest : Cond) ∈ TBG := TBG_mem (i := 1041) (by decide +kernel) rfl
theorem tw1042 : (.instanceMethod yX11_unrest : Cond) ∈ TBG := TBG_mem (i := 1042) (by decide +kernel) rfl
theorem tw1043 : (.selects RX11 yX11_unrest yX11_unrest : Cond) ∈ TBG := TBG_mem (i := 1043) (by decide +kernel) rfl
set_option maxRecDepth 20000 in
theorem tw1044 : (.code yX11_unrest cX11_unrest 6 (some .int) : Cond) ∈ TBG := List.mem_filter.mpr ⟨in_t4 _ (List.mem_of_getElem? (i := 214) rfl), rfl⟩
theorem tw1045 : (.methodLink RX11 272 yX11_wouldLeave : Cond) ∈ TBG := TBG_mem (i := 1045) (by decide +kernel) rfl
theorem tw1047 : (.instanceMethod yX11_wouldLeave : Cond) ∈ TBG := TBG_mem (i := 1047) (by decide +kernel) rfl
set_option maxRecDepth 20000 in
theorem tw1048 : (.code yX11_wouldLeave cX11_wouldLeave 3 (some .boolean) : Cond) ∈ TBG := List.mem_filter.mpr ⟨in_t4 _ (List.mem_of_getElem? (i := 218) rfl), rfl⟩
theorem tw1049 : (.methodLink RX11 276 yX11_likingNow : Cond) ∈ TBG := TBG_mem (i := 1049) (by decide +kernel) rfl
theorem tw1051 : (.instanceMethod yX11_likingNow : Cond) ∈ TBG := TBG_mem (i := 1051) (by decide +kernel) rfl
set_option maxRecDepth 20000 in
theorem tw1052 : (.code yX11_likingNow cX11_likingNow 3 (some .int) : Cond) ∈ TBG := List.mem_filter.mpr ⟨in_t4 _ (List.mem_of_getElem? (i := 222) rfl), rfl⟩
theorem tw1053 : (.methodLink RL 88 yX11_search : Cond) ∈ TBG := TBG_mem (i := 1053) (by decide +kernel) rfl
theorem tw1054 : (.instanceMethod yX11_search : Cond) ∈ TBG := TBG_mem (i := 1054) (by decide +kernel) rfl
theorem tw1055 : (.selects RX11 yX11_search yX11_search : Cond) ∈ TBG := TBG_mem (i := 1055) (by decide +kernel) rfl
set_option maxRecDepth 20000 in
theorem tw1056 : (.code yX11_search cX11_search 5 (some .int) : Cond) ∈ TBG := List.mem_filter.mpr ⟨in_t4 _ (List.mem_of_getElem? (i := 226) rfl), rfl⟩
theorem tw1057 : (.methodLink RX11 279 yX9_accept : Cond) ∈ TBG := TBG_mem (i := 1057) (by decide +kernel) rfl
theorem tw1058 : (.instanceMethod yX9_accept : Cond) ∈ TBG := TBG_mem (i := 1058) (by decide +kernel) rfl
theorem tw1059 : (.selects RX9 yX9_accept yX9_accept : Cond) ∈ TBG := TBG_mem (i := 1059) (by decide +kernel) rfl
set_option maxRecDepth 20000 in
theorem tw1060 : (.code yX9_accept cX9_accept 5 (some .boolean) : Cond) ∈ TBG := List.mem_filter.mpr ⟨in_t4 _ (List.mem_of_getElem? (i := 230) rfl), rfl⟩
theorem tw1061 : (.methodLink RX9 30 yJ9_min_7cf53 : Cond) ∈ TBG := TBG_mem (i := 1061) (by decide +kernel) rfl
theorem tw1062 : (.methodLink RX9 36 yJ9_max_7cf53 : Cond) ∈ TBG := TBG_mem (i := 1062) (by decide +kernel) rfl
theorem tw1063 : (.methodLink RX11 282 yX9_find : Cond) ∈ TBG := TBG_mem (i := 1063) (by decide +kernel) rfl
theorem tw1064 : (.instanceMethod yX9_find : Cond) ∈ TBG := TBG_mem (i := 1064) (by decide +kernel) rfl
theorem tw1065 : (.selects RX9 yX9_find yX9_find : Cond) ∈ TBG := TBG_mem (i := 1065) (by decide +kernel) rfl
set_option maxRecDepth 20000 in
theorem tw1066 : (.code yX9_find cX9_find 3 (none) : Cond) ∈ TBG := List.mem_filter.mpr ⟨in_t4 _ (List.mem_of_getElem? (i := 236) rfl), rfl⟩
theorem tw1067 : (.methodLink RX9 54 yX9_weigh : Cond) ∈ TBG := TBG_mem (i := 1067) (by decide +kernel) rfl
theorem tw1069 : (.instanceMethod yX9_weigh : Cond) ∈ TBG := TBG_mem (i := 1069) (by decide +kernel) rfl
set_option maxRecDepth 20000 in
theorem tw1070 : (.code yX9_weigh cX9_weigh 4 (none) : Cond) ∈ TBG := List.mem_filter.mpr ⟨in_t5 _ (List.mem_of_getElem? (i := 0) rfl), rfl⟩
theorem tw1071 : (.methodLink RX9 61 ⟨"java/lang/System", "arraycopy", "(Ljava/lang/Object;ILjava/lang/Object;II)V"⟩ : Cond) ∈ TBG := TBG_mem (i := 1071) (by decide +kernel) rfl
theorem tw1072 : (.methodLink RX9 57 yX9_nextOrder : Cond) ∈ TBG := TBG_mem (i := 1072) (by decide +kernel) rfl
theorem tw1074 : (.instanceMethod yX9_nextOrder : Cond) ∈ TBG := TBG_mem (i := 1074) (by decide +kernel) rfl
set_option maxRecDepth 20000 in
theorem tw1075 : (.code yX9_nextOrder cX9_nextOrder 5 (some .boolean) : Cond) ∈ TBG := List.mem_filter.mpr ⟨in_t5 _ (List.mem_of_getElem? (i := 5) rfl), rfl⟩
theorem tw1076 : (.methodLink RX9 67 yX9_swap : Cond) ∈ TBG := TBG_mem (i := 1076) (by decide +kernel) rfl
theorem tw1078 : (.instanceMethod yX9_swap : Cond) ∈ TBG := TBG_mem (i := 1078) (by decide +kernel) rfl
set_option maxRecDepth 20000 in
theorem tw1079 : (.code yX9_swap cX9_swap 4 (none) : Cond) ∈ TBG := List.mem_filter.mpr ⟨in_t5 _ (List.mem_of_getElem? (i := 9) rfl), rfl⟩
theorem tw1080 : (.methodLink RX11 288 yX9_above : Cond) ∈ TBG := TBG_mem (i := 1080) (by decide +kernel) rfl
theorem tw1081 : (.instanceMethod yX9_above : Cond) ∈ TBG := TBG_mem (i := 1081) (by decide +kernel) rfl
theorem tw1082 : (.selects RX9 yX9_above yX9_above : Cond) ∈ TBG := TBG_mem (i := 1082) (by decide +kernel) rfl
set_option maxRecDepth 20000 in
theorem tw1083 : (.code yX9_above cX9_above 2 (some .int) : Cond) ∈ TBG := List.mem_filter.mpr ⟨in_t5 _ (List.mem_of_getElem? (i := 13) rfl), rfl⟩
theorem tw1084 : (.methodLink RX9 71 yX9_commonDivisor : Cond) ∈ TBG := TBG_mem (i := 1084) (by decide +kernel) rfl
theorem tw1086 : (.instanceMethod yX9_commonDivisor : Cond) ∈ TBG := TBG_mem (i := 1086) (by decide +kernel) rfl
set_option maxRecDepth 20000 in
theorem tw1087 : (.code yX9_commonDivisor cX9_commonDivisor 5 (some .int) : Cond) ∈ TBG := List.mem_filter.mpr ⟨in_t5 _ (List.mem_of_getElem? (i := 17) rfl), rfl⟩
theorem tw1088 : (.methodLink RX11 291 yX9_below : Cond) ∈ TBG := TBG_mem (i := 1088) (by decide +kernel) rfl
theorem tw1089 : (.instanceMethod yX9_below : Cond) ∈ TBG := TBG_mem (i := 1089) (by decide +kernel) rfl
theorem tw1090 : (.selects RX9 yX9_below yX9_below : Cond) ∈ TBG := TBG_mem (i := 1090) (by decide +kernel) rfl
set_option maxRecDepth 20000 in
theorem tw1091 : (.code yX9_below cX9_below 2 (some .int) : Cond) ∈ TBG := List.mem_filter.mpr ⟨in_t5 _ (List.mem_of_getElem? (i := 21) rfl), rfl⟩
theorem tw1092 : (.methodLink RL 92 yX11_sanding : Cond) ∈ TBG := TBG_mem (i := 1092) (by decide +kernel) rfl
theorem tw1093 : (.instanceMethod yX11_sanding : Cond) ∈ TBG := TBG_mem (i := 1093) (by decide +kernel) rfl
theorem tw1094 : (.selects RX11 yX11_sanding yX11_sanding : Cond) ∈ TBG := TBG_mem (i := 1094) (by decide +kernel) rfl
set_option maxRecDepth 20000 in
theorem tw1095 : (.code yX11_sanding cX11_sanding 11 (some .int) : Cond) ∈ TBG := List.mem_filter.mpr ⟨in_t5 _ (List.mem_of_getElem? (i := 25) rfl), rfl⟩
theorem tw1096 : (.methodLink RX11 294 yX11_canSand : Cond) ∈ TBG := TBG_mem (i := 1096) (by decide +kernel) rfl
theorem tw1098 : (.instanceMethod yX11_canSand : Cond) ∈ TBG := TBG_mem (i := 1098) (by decide +kernel) rfl
set_option maxRecDepth 20000 in
theorem tw1099 : (.code yX11_canSand cX11_canSand 4 (some .boolean) : Cond) ∈ TBG := List.mem_filter.mpr ⟨in_t5 _ (List.mem_of_getElem? (i := 29) rfl), rfl⟩
theorem tw1100 : (.methodLink RX11 298 yX8_sand : Cond) ∈ TBG := TBG_mem (i := 1100) (by decide +kernel) rfl
theorem tw1101 : (.instanceMethod yX8_sand : Cond) ∈ TBG := TBG_mem (i := 1101) (by decide +kernel) rfl
theorem tw1102 : (.selects RX8 yX8_sand yX8_sand : Cond) ∈ TBG := TBG_mem (i := 1102) (by decide +kernel) rfl
set_option maxRecDepth 20000 in
theorem tw1103 : (.code yX8_sand cX8_sand 14 (none) : Cond) ∈ TBG := List.mem_filter.mpr ⟨in_t5 _ (List.mem_of_getElem? (i := 33) rfl), rfl⟩
theorem tw1104 : (.methodLink RX8 28 yJ9_min_7cf53 : Cond) ∈ TBG := TBG_mem (i := 1104) (by decide +kernel) rfl
theorem tw1105 : (.methodLink RX8 34 yJ9_max_7cf53 : Cond) ∈ TBG := TBG_mem (i := 1105) (by decide +kernel) rfl
theorem tw1106 : (.methodLink RX8 37 yJ7_fill_d0a16 : Cond) ∈ TBG := TBG_mem (i := 1106) (by decide +kernel) rfl
theorem tw1107 : (.static yJ7_fill_d0a16 : Cond) ∈ TBG := TBG_mem (i := 1107) (by decide +kernel) rfl
set_option maxRecDepth 20000 in
theorem tw1108 : (.code yJ7_fill_d0a16 cJ7_fill_d0a16 5 (none) : Cond) ∈ TBG := List.mem_filter.mpr ⟨in_t5 _ (List.mem_of_getElem? (i := 38) rfl), rfl⟩
theorem tw1109 : (.methodLink RX8 43 yX8_weigh : Cond) ∈ TBG := TBG_mem (i := 1109) (by decide +kernel) rfl
theorem tw1111 : (.instanceMethod yX8_weigh : Cond) ∈ TBG := TBG_mem (i := 1111) (by decide +kernel) rfl
set_option maxRecDepth 20000 in
theorem tw1112 : (.code yX8_weigh cX8_weigh 8 (none) : Cond) ∈ TBG := List.mem_filter.mpr ⟨in_t5 _ (List.mem_of_getElem? (i := 42) rfl), rfl⟩
theorem tw1113 : (.methodLink RX8 70 yJ9_abs_0f7a4 : Cond) ∈ TBG := TBG_mem (i := 1113) (by decide +kernel) rfl
theorem tw1114 : (.constantLong RX8 74 (16983563041) : Cond) ∈ TBG := TBG_mem (i := 1114) (by decide +kernel) rfl
theorem tw1115 : (.methodLink RX8 47 yJ7_fill_53178 : Cond) ∈ TBG := TBG_mem (i := 1115) (by decide +kernel) rfl
theorem tw1116 : (.methodLink RX8 50 yX8_bestHere : Cond) ∈ TBG := TBG_mem (i := 1116) (by decide +kernel) rfl
theorem tw1118 : (.instanceMethod yX8_bestHere : Cond) ∈ TBG := TBG_mem (i := 1118) (by decide +kernel) rfl
set_option maxRecDepth 20000 in
theorem tw1119 : (.code yX8_bestHere cX8_bestHere 8 (some .long) : Cond) ∈ TBG := List.mem_filter.mpr ⟨in_t5 _ (List.mem_of_getElem? (i := 49) rfl), rfl⟩
theorem tw1120 : (.constantLong RX8 76 (4611686018427387904) : Cond) ∈ TBG := TBG_mem (i := 1120) (by decide +kernel) rfl
theorem tw1121 : (.methodLink RX8 56 yX8_leastOf : Cond) ∈ TBG := TBG_mem (i := 1121) (by decide +kernel) rfl
theorem tw1123 : (.instanceMethod yX8_leastOf : Cond) ∈ TBG := TBG_mem (i := 1123) (by decide +kernel) rfl
set_option maxRecDepth 20000 in
theorem tw1124 : (.code yX8_leastOf cX8_leastOf 3 (some .long) : Cond) ∈ TBG := List.mem_filter.mpr ⟨in_t5 _ (List.mem_of_getElem? (i := 54) rfl), rfl⟩
theorem tw1125 : (.methodLink RX8 78 yJ9_min_f86c9 : Cond) ∈ TBG := TBG_mem (i := 1125) (by decide +kernel) rfl
theorem tw1126 : (.static yJ9_min_f86c9 : Cond) ∈ TBG := TBG_mem (i := 1126) (by decide +kernel) rfl
set_option maxRecDepth 20000 in
theorem tw1127 : (.code yJ9_min_f86c9 cJ9_min_f86c9 4 (some .long) : Cond) ∈ TBG := List.mem_filter.mpr ⟨in_t5 _ (List.mem_of_getElem? (i := 57) rfl), rfl⟩
theorem tw1128 : (.constantLong RX8 54 (19) : Cond) ∈ TBG := TBG_mem (i := 1128) (by decide +kernel) rfl
theorem tw1129 : (.methodLink RX8 59 yX8_read : Cond) ∈ TBG := TBG_mem (i := 1129) (by decide +kernel) rfl
theorem tw1131 : (.instanceMethod yX8_read : Cond) ∈ TBG := TBG_mem (i := 1131) (by decide +kernel) rfl
set_option maxRecDepth 20000 in
theorem tw1132 : (.code yX8_read cX8_read 6 (none) : Cond) ∈ TBG := List.mem_filter.mpr ⟨in_t5 _ (List.mem_of_getElem? (i := 62) rfl), rfl⟩
theorem tw1133 : (.methodLink RX11 311 yX11_fitOthers : Cond) ∈ TBG := TBG_mem (i := 1133) (by decide +kernel) rfl
theorem tw1135 : (.instanceMethod yX11_fitOthers : Cond) ∈ TBG := TBG_mem (i := 1135) (by decide +kernel) rfl
set_option maxRecDepth 20000 in
theorem tw1136 : (.code yX11_fitOthers cX11_fitOthers 7 (some .int) : Cond) ∈ TBG := List.mem_filter.mpr ⟨in_t5 _ (List.mem_of_getElem? (i := 66) rfl), rfl⟩
theorem tw1137 : (.methodLink RX11 315 yX2_gap : Cond) ∈ TBG := TBG_mem (i := 1137) (by decide +kernel) rfl
theorem tw1138 : (.methodLink RL 97 yX11_steaming : Cond) ∈ TBG := TBG_mem (i := 1138) (by decide +kernel) rfl
theorem tw1139 : (.instanceMethod yX11_steaming : Cond) ∈ TBG := TBG_mem (i := 1139) (by decide +kernel) rfl
theorem tw1140 : (.selects RX11 yX11_steaming yX11_steaming : Cond) ∈ TBG := TBG_mem (i := 1140) (by decide +kernel) rfl
set_option maxRecDepth 20000 in
theorem tw1141 : (.code yX11_steaming cX11_steaming 5 (some .int) : Cond) ∈ TBG := List.mem_filter.mpr ⟨in_t5 _ (List.mem_of_getElem? (i := 71) rfl), rfl⟩
theorem tw1142 : (.methodLink RX11 319 yX8_steam : Cond) ∈ TBG := TBG_mem (i := 1142) (by decide +kernel) rfl
theorem tw1143 : (.instanceMethod yX8_steam : Cond) ∈ TBG := TBG_mem (i := 1143) (by decide +kernel) rfl
theorem tw1144 : (.selects RX8 yX8_steam yX8_steam : Cond) ∈ TBG := TBG_mem (i := 1144) (by decide +kernel) rfl
set_option maxRecDepth 20000 in
theorem tw1145 : (.code yX8_steam cX8_steam 9 (none) : Cond) ∈ TBG := List.mem_filter.mpr ⟨in_t5 _ (List.mem_of_getElem? (i := 75) rfl), rfl⟩
theorem tw1146 : (.methodLink RX8 88 yX2_gap : Cond) ∈ TBG := TBG_mem (i := 1146) (by decide +kernel) rfl
theorem tw1147 : (.methodLink RL 102 yX11_worn : Cond) ∈ TBG := TBG_mem (i := 1147) (by decide +kernel) rfl
theorem tw1148 : (.instanceMethod yX11_worn : Cond) ∈ TBG := TBG_mem (i := 1148) (by decide +kernel) rfl
theorem tw1149 : (.selects RX11 yX11_worn yX11_worn : Cond) ∈ TBG := TBG_mem (i := 1149) (by decide +kernel) rfl
set_option maxRecDepth 20000 in
theorem tw1150 : (.code yX11_worn cX11_worn 7 (some .int) : Cond) ∈ TBG := List.mem_filter.mpr ⟨in_t5 _ (List.mem_of_getElem? (i := 80) rfl), rfl⟩
theorem tw1151 : (.methodLink RX11 329 yX2_allowance : Cond) ∈ TBG := TBG_mem (i := 1151) (by decide +kernel) rfl
theorem tw1152 : (.methodLink RX11 332 yX2_wearOf : Cond) ∈ TBG := TBG_mem (i := 1152) (by decide +kernel) rfl
theorem tw1153 : (.methodLink RX11 335 yX3_wearDown : Cond) ∈ TBG := TBG_mem (i := 1153) (by decide +kernel) rfl
theorem tw1154 : (.methodLink RL 106 yX11_cutter : Cond) ∈ TBG := TBG_mem (i := 1154) (by decide +kernel) rfl
theorem tw1155 : (.instanceMethod yX11_cutter : Cond) ∈ TBG := TBG_mem (i := 1155) (by decide +kernel) rfl
theorem tw1156 : (.selects RX11 yX11_cutter yX11_cutter : Cond) ∈ TBG := TBG_mem (i := 1156) (by decide +kernel) rfl
set_option maxRecDepth 20000 in
theorem tw1157 : (.code yX11_cutter cX11_cutter 7 (some .int) : Cond) ∈ TBG := List.mem_filter.mpr ⟨in_t5 _ (List.mem_of_getElem? (i := 87) rfl), rfl⟩
theorem tw1158 : (.methodLink RX11 341 yX11_rulesAll : Cond) ∈ TBG := TBG_mem (i := 1158) (by decide +kernel) rfl
theorem tw1160 : (.instanceMethod yX11_rulesAll : Cond) ∈ TBG := TBG_mem (i := 1160) (by decide +kernel) rfl
set_option maxRecDepth 20000 in
theorem tw1161 : (.code yX11_rulesAll cX11_rulesAll 6 (some .boolean) : Cond) ∈ TBG := List.mem_filter.mpr ⟨in_t5 _ (List.mem_of_getElem? (i := 91) rfl), rfl⟩
theorem tw1162 : (.methodLink RX11 348 yX11_cut : Cond) ∈ TBG := TBG_mem (i := 1162) (by decide +kernel) rfl
theorem tw1164 : (.instanceMethod yX11_cut : Cond) ∈ TBG := TBG_mem (i := 1164) (by decide +kernel) rfl
set_option maxRecDepth 20000 in
theorem tw1165 : (.code yX11_cut cX11_cut 7 (none) : Cond) ∈ TBG := List.mem_filter.mpr ⟨in_t5 _ (List.mem_of_getElem? (i := 95) rfl), rfl⟩
theorem tw1166 : (.methodLink RX11 352 yX11_sameRow : Cond) ∈ TBG := TBG_mem (i := 1166) (by decide +kernel) rfl
theorem tw1167 : (.static yX11_sameRow : Cond) ∈ TBG := TBG_mem (i := 1167) (by decide +kernel) rfl
set_option maxRecDepth 20000 in
theorem tw1168 : (.code yX11_sameRow cX11_sameRow 3 (some .boolean) : Cond) ∈ TBG := List.mem_filter.mpr ⟨in_t5 _ (List.mem_of_getElem? (i := 98) rfl), rfl⟩
theorem tw1169 : (.methodLink RX11 344 yX11_madeBy : Cond) ∈ TBG := TBG_mem (i := 1169) (by decide +kernel) rfl
theorem tw1171 : (.instanceMethod yX11_madeBy : Cond) ∈ TBG := TBG_mem (i := 1171) (by decide +kernel) rfl
set_option maxRecDepth 20000 in
theorem tw1172 : (.code yX11_madeBy cX11_madeBy 4 (some .int) : Cond) ∈ TBG := List.mem_filter.mpr ⟨in_t5 _ (List.mem_of_getElem? (i := 102) rfl), rfl⟩
theorem tw1173 : (.methodLink RL 110 yX11_copies : Cond) ∈ TBG := TBG_mem (i := 1173) (by decide +kernel) rfl
theorem tw1174 : (.instanceMethod yX11_copies : Cond) ∈ TBG := TBG_mem (i := 1174) (by decide +kernel) rfl
theorem tw1175 : (.selects RX11 yX11_copies yX11_copies : Cond) ∈ TBG := TBG_mem (i := 1175) (by decide +kernel) rfl
set_option maxRecDepth 20000 in
theorem tw1176 : (.code yX11_copies cX11_copies 7 (some .int) : Cond) ∈ TBG := List.mem_filter.mpr ⟨in_t5 _ (List.mem_of_getElem? (i := 106) rfl), rfl⟩
theorem tw1177 : (.methodLink RL 114 yX11_mate : Cond) ∈ TBG := TBG_mem (i := 1177) (by decide +kernel) rfl
theorem tw1178 : (.instanceMethod yX11_mate : Cond) ∈ TBG := TBG_mem (i := 1178) (by decide +kernel) rfl
theorem tw1179 : (.selects RX11 yX11_mate yX11_mate : Cond) ∈ TBG := TBG_mem (i := 1179) (by decide +kernel) rfl
set_option maxRecDepth 20000 in
theorem tw1180 : (.code yX11_mate cX11_mate 3 (some .int) : Cond) ∈ TBG := List.mem_filter.mpr ⟨in_t5 _ (List.mem_of_getElem? (i := 110) rfl), rfl⟩
theorem tw1181 : (.methodLink RL 118 yX11_seed : Cond) ∈ TBG := TBG_mem (i := 1181) (by decide +kernel) rfl
theorem tw1182 : (.instanceMethod yX11_seed : Cond) ∈ TBG := TBG_mem (i := 1182) (by decide +kernel) rfl
theorem tw1183 : (.selects RX11 yX11_seed yX11_seed : Cond) ∈ TBG := TBG_mem (i := 1183) (by decide +kernel) rfl
set_option maxRecDepth 20000 in
theorem tw1184 : (.code yX11_seed cX11_seed 2 (some .boolean) : Cond) ∈ TBG := List.mem_filter.mpr ⟨in_t5 _ (List.mem_of_getElem? (i := 114) rfl), rfl⟩
theorem tw1185 : (.constant RX11 356 (65535) : Cond) ∈ TBG := TBG_mem (i := 1185) (by decide +kernel) rfl
theorem tw1186 : (.methodLink RL 122 yX11_keep : Cond) ∈ TBG := TBG_mem (i := 1186) (by decide +kernel) rfl
theorem tw1187 : (.instanceMethod yX11_keep : Cond) ∈ TBG := TBG_mem (i := 1187) (by decide +kernel) rfl
theorem tw1188 : (.selects RX11 yX11_keep yX11_keep : Cond) ∈ TBG := TBG_mem (i := 1188) (by decide +kernel) rfl
set_option maxRecDepth 20000 in
theorem tw1189 : (.code yX11_keep cX11_keep 1 (some .int) : Cond) ∈ TBG := List.mem_filter.mpr ⟨in_t5 _ (List.mem_of_getElem? (i := 119) rfl), rfl⟩
theorem tw1190 : (.methodLink RL 127 yX11_undo : Cond) ∈ TBG := TBG_mem (i := 1190) (by decide +kernel) rfl
theorem tw1191 : (.instanceMethod yX11_undo : Cond) ∈ TBG := TBG_mem (i := 1191) (by decide +kernel) rfl
theorem tw1192 : (.selects RX11 yX11_undo yX11_undo : Cond) ∈ TBG := TBG_mem (i := 1192) (by decide +kernel) rfl
set_option maxRecDepth 20000 in
theorem tw1193 : (.code yX11_undo cX11_undo 1 (some .boolean) : Cond) ∈ TBG := List.mem_filter.mpr ⟨in_t5 _ (List.mem_of_getElem? (i := 123) rfl), rfl⟩
theorem tw1194 : (.methodLink RL 132 yX11_check : Cond) ∈ TBG := TBG_mem (i := 1194) (by decide +kernel) rfl
theorem tw1195 : (.instanceMethod yX11_check : Cond) ∈ TBG := TBG_mem (i := 1195) (by decide +kernel) rfl
theorem tw1196 : (.selects RX11 yX11_check yX11_check : Cond) ∈ TBG := TBG_mem (i := 1196) (by decide +kernel) rfl
set_option maxRecDepth 20000 in
theorem tw1197 : (.code yX11_check cX11_check 4 (some .int) : Cond) ∈ TBG := List.mem_filter.mpr ⟨in_t5 _ (List.mem_of_getElem? (i := 127) rfl), rfl⟩
theorem tw1198 : (.methodLink RL 136 yX11_count : Cond) ∈ TBG := TBG_mem (i := 1198) (by decide +kernel) rfl
theorem tw1199 : (.instanceMethod yX11_count : Cond) ∈ TBG := TBG_mem (i := 1199) (by decide +kernel) rfl
theorem tw1200 : (.selects RX11 yX11_count yX11_count : Cond) ∈ TBG := TBG_mem (i := 1200) (by decide +kernel) rfl
set_option maxRecDepth 20000 in
theorem tw1201 : (.code yX11_count cX11_count 2 (some .int) : Cond) ∈ TBG := List.mem_filter.mpr ⟨in_t5 _ (List.mem_of_getElem? (i := 131) rfl), rfl⟩
theorem tw1202 : (.methodLink RX11 363 yX3_whoIsIn : Cond) ∈ TBG := TBG_mem (i := 1202) (by decide +kernel) rfl
theorem tw1203 : (.instanceMethod yX3_whoIsIn : Cond) ∈ TBG := TBG_mem (i := 1203) (by decide +kernel) rfl
theorem tw1204 : (.selects RX3 yX3_whoIsIn yX3_whoIsIn : Cond) ∈ TBG := TBG_mem (i := 1204) (by decide +kernel) rfl
set_option maxRecDepth 20000 in
theorem tw1205 : (.code yX3_whoIsIn cX3_whoIsIn 4 (some .int) : Cond) ∈ TBG := List.mem_filter.mpr ⟨in_t5 _ (List.mem_of_getElem? (i := 135) rfl), rfl⟩
theorem tw1209 : (.instanceMethod yX12_init : Cond) ∈ TBG := TBG_mem (i := 1209) (by decide +kernel) rfl
set_option maxRecDepth 20000 in
theorem tw1210 : (.code yX12_init cX12_init 2 (none) : Cond) ∈ TBG := List.mem_filter.mpr ⟨in_t5 _ (List.mem_of_getElem? (i := 140) rfl), rfl⟩
theorem tw1212 : (.constant RX12 77 (53248) : Cond) ∈ TBG := TBG_mem (i := 1212) (by decide +kernel) rfl
theorem tw1213 : (.constant RX12 90 (33489) : Cond) ∈ TBG := TBG_mem (i := 1213) (by decide +kernel) rfl
theorem tw1214 : (.fieldLink RX12 7 "PuzzleWedModel" "now" "[I" : Cond) ∈ TBG := TBG_mem (i := 1214) (by decide +kernel) rfl
theorem tw1215 : (.fieldLink RX12 13 "PuzzleWedModel" "aside" "[I" : Cond) ∈ TBG := TBG_mem (i := 1215) (by decide +kernel) rfl
theorem tw1216 : (.fieldLink RX12 16 "PuzzleWedModel" "kept" "[I" : Cond) ∈ TBG := TBG_mem (i := 1216) (by decide +kernel) rfl
theorem tw1217 : (.fieldLink RX12 19 "PuzzleWedModel" "tape" "[B" : Cond) ∈ TBG := TBG_mem (i := 1217) (by decide +kernel) rfl
theorem tw1218 : (.fieldLink RX12 126 "PuzzleWedModel" "taped" "I" : Cond) ∈ TBG := TBG_mem (i := 1218) (by decide +kernel) rfl
theorem tw1219 : (.fieldLink RX12 133 "PuzzleWedModel" "place0" "I" : Cond) ∈ TBG := TBG_mem (i := 1219) (by decide +kernel) rfl
theorem tw1220 : (.fieldLink RX12 136 "PuzzleWedModel" "length0" "I" : Cond) ∈ TBG := TBG_mem (i := 1220) (by decide +kernel) rfl
theorem tw1221 : (.fieldLink RX12 143 "PuzzleWedModel" "fault" "I" : Cond) ∈ TBG := TBG_mem (i := 1221) (by decide +kernel) rfl
theorem tw1222 : (.fieldLink RX12 149 "PuzzleWedModel" "number0" "I" : Cond) ∈ TBG := TBG_mem (i := 1222) (by decide +kernel) rfl
theorem tw1223 : (.fieldLink RX12 160 "PuzzleWedModel" "open" "I" : Cond) ∈ TBG := TBG_mem (i := 1223) (by decide +kernel) rfl
theorem tw1224 : (.fieldLink RX12 156 "PuzzleWedModel" "codeMany" "I" : Cond) ∈ TBG := TBG_mem (i := 1224) (by decide +kernel) rfl
theorem tw1225 : (.fieldLink RX12 163 "PuzzleWedModel" "waiting" "I" : Cond) ∈ TBG := TBG_mem (i := 1225) (by decide +kernel) rfl
theorem tw1226 : (.fieldLink RX12 213 "PuzzleWedModel" "saidMany" "I" : Cond) ∈ TBG := TBG_mem (i := 1226) (by decide +kernel) rfl
theorem tw1227 : (.fieldLink RX12 225 "PuzzleWedModel" "clauses" "I" : Cond) ∈ TBG := TBG_mem (i := 1227) (by decide +kernel) rfl
theorem tw1228 : (.fieldLink RX12 23 "PuzzleWedModel" "said" "[I" : Cond) ∈ TBG := TBG_mem (i := 1228) (by decide +kernel) rfl
theorem tw1229 : (.fieldLink RX12 26 "PuzzleWedModel" "waitsAt" "[I" : Cond) ∈ TBG := TBG_mem (i := 1229) (by decide +kernel) rfl
theorem tw1230 : (.fieldLink RX12 29 "PuzzleWedModel" "saidLetter" "[I" : Cond) ∈ TBG := TBG_mem (i := 1230) (by decide +kernel) rfl
theorem tw1231 : (.fieldLink RX12 32 "PuzzleWedModel" "saidFrom" "[I" : Cond) ∈ TBG := TBG_mem (i := 1231) (by decide +kernel) rfl
theorem tw1232 : (.fieldLink RX12 35 "PuzzleWedModel" "saidHalf" "[I" : Cond) ∈ TBG := TBG_mem (i := 1232) (by decide +kernel) rfl
theorem tw1233 : (.fieldLink RX12 38 "PuzzleWedModel" "saidTo" "[I" : Cond) ∈ TBG := TBG_mem (i := 1233) (by decide +kernel) rfl
theorem tw1234 : (.fieldLink RX12 41 "PuzzleWedModel" "codes" "[I" : Cond) ∈ TBG := TBG_mem (i := 1234) (by decide +kernel) rfl
theorem tw1235 : (.fieldLink RX12 44 "PuzzleWedModel" "clauseOf" "[I" : Cond) ∈ TBG := TBG_mem (i := 1235) (by decide +kernel) rfl
theorem tw1236 : (.fieldLink RX12 47 "PuzzleWedModel" "codeFrom" "[I" : Cond) ∈ TBG := TBG_mem (i := 1236) (by decide +kernel) rfl
theorem tw1237 : (.fieldLink RX12 50 "PuzzleWedModel" "codeHalf" "[I" : Cond) ∈ TBG := TBG_mem (i := 1237) (by decide +kernel) rfl
theorem tw1238 : (.fieldLink RX12 53 "PuzzleWedModel" "codeTo" "[I" : Cond) ∈ TBG := TBG_mem (i := 1238) (by decide +kernel) rfl
theorem tw1239 : (.fieldLink RX12 56 "PuzzleWedModel" "stack" "[I" : Cond) ∈ TBG := TBG_mem (i := 1239) (by decide +kernel) rfl
theorem tw1240 : (.fieldLink RX12 59 "PuzzleWedModel" "facts" "[I" : Cond) ∈ TBG := TBG_mem (i := 1240) (by decide +kernel) rfl
theorem tw1241 : (.fieldLink RX12 62 "PuzzleWedModel" "newHeight" "[I" : Cond) ∈ TBG := TBG_mem (i := 1241) (by decide +kernel) rfl
theorem tw1242 : (.fieldLink RX12 65 "PuzzleWedModel" "newStop" "[I" : Cond) ∈ TBG := TBG_mem (i := 1242) (by decide +kernel) rfl
theorem tw1243 : (.fieldLink RX12 268 "PuzzleWedModel" "newMany" "I" : Cond) ∈ TBG := TBG_mem (i := 1243) (by decide +kernel) rfl
theorem tw1244 : (.fieldLink RX12 274 "PuzzleWedModel" "stops" "I" : Cond) ∈ TBG := TBG_mem (i := 1244) (by decide +kernel) rfl
theorem tw1245 : (.fieldLink RX12 289 "PuzzleWedModel" "wedNow" "I" : Cond) ∈ TBG := TBG_mem (i := 1245) (by decide +kernel) rfl
theorem tw1246 : (.fieldLink RX12 280 "PuzzleWedModel" "triesNow" "I" : Cond) ∈ TBG := TBG_mem (i := 1246) (by decide +kernel) rfl
theorem tw1247 : (.fieldLink RX12 302 "PuzzleWedModel" "partsNow" "I" : Cond) ∈ TBG := TBG_mem (i := 1247) (by decide +kernel) rfl
theorem tw1248 : (.fieldLink RX12 68 "PuzzleWedModel" "fitOf" "[I" : Cond) ∈ TBG := TBG_mem (i := 1248) (by decide +kernel) rfl
theorem tw1249 : (.fieldLink RX12 71 "PuzzleWedModel" "slackNow" "[I" : Cond) ∈ TBG := TBG_mem (i := 1249) (by decide +kernel) rfl
theorem tw1250 : (.fieldLink RX12 74 "PuzzleWedModel" "likeOf" "[I" : Cond) ∈ TBG := TBG_mem (i := 1250) (by decide +kernel) rfl
theorem tw1251 : (.fieldLink RX12 78 "PuzzleWedModel" "bestOf" "[I" : Cond) ∈ TBG := TBG_mem (i := 1251) (by decide +kernel) rfl
theorem tw1252 : (.fieldLink RX12 81 "PuzzleWedModel" "askedBy" "[I" : Cond) ∈ TBG := TBG_mem (i := 1252) (by decide +kernel) rfl
theorem tw1253 : (.fieldLink RX12 84 "PuzzleWedModel" "getOf" "[I" : Cond) ∈ TBG := TBG_mem (i := 1253) (by decide +kernel) rfl
theorem tw1254 : (.fieldLink RX12 87 "PuzzleWedModel" "rowNow" "[I" : Cond) ∈ TBG := TBG_mem (i := 1254) (by decide +kernel) rfl
theorem tw1255 : (.fieldLink RX12 91 "PuzzleWedModel" "workOf" "[I" : Cond) ∈ TBG := TBG_mem (i := 1255) (by decide +kernel) rfl
theorem tw1256 : (.fieldLink RX12 94 "PuzzleWedModel" "sanded" "[I" : Cond) ∈ TBG := TBG_mem (i := 1256) (by decide +kernel) rfl
theorem tw1257 : (.fieldLink RX12 379 "PuzzleWedModel" "sandPiece" "I" : Cond) ∈ TBG := TBG_mem (i := 1257) (by decide +kernel) rfl
theorem tw1258 : (.fieldLink RX12 370 "PuzzleWedModel" "sandA" "I" : Cond) ∈ TBG := TBG_mem (i := 1258) (by decide +kernel) rfl
theorem tw1259 : (.fieldLink RX12 373 "PuzzleWedModel" "sandB" "I" : Cond) ∈ TBG := TBG_mem (i := 1259) (by decide +kernel) rfl
theorem tw1260 : (.fieldLink RX12 408 "PuzzleWedModel" "isKept" "Z" : Cond) ∈ TBG := TBG_mem (i := 1260) (by decide +kernel) rfl
theorem tw1356 : (.methodLink RL 17 yX12_person : Cond) ∈ TBG := TBG_mem (i := 1356) (by decide +kernel) rfl
theorem tw1357 : (.instanceMethod yX12_person : Cond) ∈ TBG := TBG_mem (i := 1357) (by decide +kernel) rfl
theorem tw1358 : (.selects RX12 yX12_person yX12_person : Cond) ∈ TBG := TBG_mem (i := 1358) (by decide +kernel) rfl
set_option maxRecDepth 20000 in
theorem tw1359 : (.code yX12_person cX12_person 4 (some .boolean) : Cond) ∈ TBG := List.mem_filter.mpr ⟨in_t6 _ (List.mem_of_getElem? (i := 49) rfl), rfl⟩
theorem tw1360 : (.methodLink RX12 97 yX12_isTwelve : Cond) ∈ TBG := TBG_mem (i := 1360) (by decide +kernel) rfl
theorem tw1361 : (.static yX12_isTwelve : Cond) ∈ TBG := TBG_mem (i := 1361) (by decide +kernel) rfl
set_option maxRecDepth 20000 in
theorem tw1362 : (.code yX12_isTwelve cX12_isTwelve 1 (some .boolean) : Cond) ∈ TBG := List.mem_filter.mpr ⟨in_t6 _ (List.mem_of_getElem? (i := 52) rfl), rfl⟩
theorem tw1363 : (.methodLink RX12 105 yX12_isPerson : Cond) ∈ TBG := TBG_mem (i := 1363) (by decide +kernel) rfl
theorem tw1365 : (.instanceMethod yX12_isPerson : Cond) ∈ TBG := TBG_mem (i := 1365) (by decide +kernel) rfl
set_option maxRecDepth 20000 in
theorem tw1366 : (.code yX12_isPerson cX12_isPerson 2 (some .boolean) : Cond) ∈ TBG := List.mem_filter.mpr ⟨in_t6 _ (List.mem_of_getElem? (i := 56) rfl), rfl⟩
theorem tw1367 : (.methodLink RX12 101 yX12_has : Cond) ∈ TBG := TBG_mem (i := 1367) (by decide +kernel) rfl
theorem tw1368 : (.static yX12_has : Cond) ∈ TBG := TBG_mem (i := 1368) (by decide +kernel) rfl
set_option maxRecDepth 20000 in
theorem tw1369 : (.code yX12_has cX12_has 2 (some .boolean) : Cond) ∈ TBG := List.mem_filter.mpr ⟨in_t6 _ (List.mem_of_getElem? (i := 59) rfl), rfl⟩
theorem tw1370 : (.methodLink RX12 111 yX12_in : Cond) ∈ TBG := TBG_mem (i := 1370) (by decide +kernel) rfl
theorem tw1371 : (.static yX12_in : Cond) ∈ TBG := TBG_mem (i := 1371) (by decide +kernel) rfl
set_option maxRecDepth 20000 in
theorem tw1372 : (.code yX12_in cX12_in 3 (some .boolean) : Cond) ∈ TBG := List.mem_filter.mpr ⟨in_t6 _ (List.mem_of_getElem? (i := 62) rfl), rfl⟩
theorem tw1373 : (.methodLink RL 22 yX12_wear : Cond) ∈ TBG := TBG_mem (i := 1373) (by decide +kernel) rfl
theorem tw1374 : (.instanceMethod yX12_wear : Cond) ∈ TBG := TBG_mem (i := 1374) (by decide +kernel) rfl
theorem tw1375 : (.selects RX12 yX12_wear yX12_wear : Cond) ∈ TBG := TBG_mem (i := 1375) (by decide +kernel) rfl
set_option maxRecDepth 20000 in
theorem tw1376 : (.code yX12_wear cX12_wear 3 (some .boolean) : Cond) ∈ TBG := List.mem_filter.mpr ⟨in_t6 _ (List.mem_of_getElem? (i := 66) rfl), rfl⟩
theorem tw1377 : (.methodLink RL 27 yX12_dies : Cond) ∈ TBG := TBG_mem (i := 1377) (by decide +kernel) rfl
theorem tw1378 : (.instanceMethod yX12_dies : Cond) ∈ TBG := TBG_mem (i := 1378) (by decide +kernel) rfl
theorem tw1379 : (.selects RX12 yX12_dies yX12_dies : Cond) ∈ TBG := TBG_mem (i := 1379) (by decide +kernel) rfl
set_option maxRecDepth 20000 in
theorem tw1380 : (.code yX12_dies cX12_dies 3 (some .boolean) : Cond) ∈ TBG := List.mem_filter.mpr ⟨in_t6 _ (List.mem_of_getElem? (i := 70) rfl), rfl⟩
theorem tw1381 : (.methodLink RX12 108 yX12_lives : Cond) ∈ TBG := TBG_mem (i := 1381) (by decide +kernel) rfl
theorem tw1383 : (.instanceMethod yX12_lives : Cond) ∈ TBG := TBG_mem (i := 1383) (by decide +kernel) rfl
set_option maxRecDepth 20000 in
theorem tw1384 : (.code yX12_lives cX12_lives 2 (some .boolean) : Cond) ∈ TBG := List.mem_filter.mpr ⟨in_t6 _ (List.mem_of_getElem? (i := 74) rfl), rfl⟩
theorem tw1385 : (.methodLink RX12 115 yX12_parts : Cond) ∈ TBG := TBG_mem (i := 1385) (by decide +kernel) rfl
theorem tw1387 : (.instanceMethod yX12_parts : Cond) ∈ TBG := TBG_mem (i := 1387) (by decide +kernel) rfl
set_option maxRecDepth 20000 in
theorem tw1388 : (.code yX12_parts cX12_parts 3 (none) : Cond) ∈ TBG := List.mem_filter.mpr ⟨in_t6 _ (List.mem_of_getElem? (i := 78) rfl), rfl⟩
theorem tw1389 : (.methodLink RL 31 yX12_weds : Cond) ∈ TBG := TBG_mem (i := 1389) (by decide +kernel) rfl
theorem tw1390 : (.instanceMethod yX12_weds : Cond) ∈ TBG := TBG_mem (i := 1390) (by decide +kernel) rfl
theorem tw1391 : (.selects RX12 yX12_weds yX12_weds : Cond) ∈ TBG := TBG_mem (i := 1391) (by decide +kernel) rfl
set_option maxRecDepth 20000 in
theorem tw1392 : (.code yX12_weds cX12_weds 3 (some .boolean) : Cond) ∈ TBG := List.mem_filter.mpr ⟨in_t6 _ (List.mem_of_getElem? (i := 82) rfl), rfl⟩
theorem tw1393 : (.methodLink RX12 119 yX12_isFree : Cond) ∈ TBG := TBG_mem (i := 1393) (by decide +kernel) rfl
theorem tw1395 : (.instanceMethod yX12_isFree : Cond) ∈ TBG := TBG_mem (i := 1395) (by decide +kernel) rfl
set_option maxRecDepth 20000 in
theorem tw1396 : (.code yX12_isFree cX12_isFree 2 (some .boolean) : Cond) ∈ TBG := List.mem_filter.mpr ⟨in_t6 _ (List.mem_of_getElem? (i := 86) rfl), rfl⟩
theorem tw1397 : (.methodLink RX12 122 yX12_wedsTwo : Cond) ∈ TBG := TBG_mem (i := 1397) (by decide +kernel) rfl
theorem tw1399 : (.instanceMethod yX12_wedsTwo : Cond) ∈ TBG := TBG_mem (i := 1399) (by decide +kernel) rfl
set_option maxRecDepth 20000 in
theorem tw1400 : (.code yX12_wedsTwo cX12_wedsTwo 3 (none) : Cond) ∈ TBG := List.mem_filter.mpr ⟨in_t6 _ (List.mem_of_getElem? (i := 90) rfl), rfl⟩
theorem tw1401 : (.methodLink RL 36 yX12_feed : Cond) ∈ TBG := TBG_mem (i := 1401) (by decide +kernel) rfl
theorem tw1402 : (.instanceMethod yX12_feed : Cond) ∈ TBG := TBG_mem (i := 1402) (by decide +kernel) rfl
theorem tw1403 : (.selects RX12 yX12_feed yX12_feed : Cond) ∈ TBG := TBG_mem (i := 1403) (by decide +kernel) rfl
set_option maxRecDepth 20000 in
theorem tw1404 : (.code yX12_feed cX12_feed 6 (some .int) : Cond) ∈ TBG := List.mem_filter.mpr ⟨in_t6 _ (List.mem_of_getElem? (i := 94) rfl), rfl⟩
theorem tw1405 : (.methodLink RX12 130 yX12_types : Cond) ∈ TBG := TBG_mem (i := 1405) (by decide +kernel) rfl
theorem tw1407 : (.instanceMethod yX12_types : Cond) ∈ TBG := TBG_mem (i := 1407) (by decide +kernel) rfl
set_option maxRecDepth 20000 in
theorem tw1408 : (.code yX12_types cX12_types 3 (none) : Cond) ∈ TBG := List.mem_filter.mpr ⟨in_t6 _ (List.mem_of_getElem? (i := 98) rfl), rfl⟩
theorem tw1409 : (.methodLink RL 41 yX12_law : Cond) ∈ TBG := TBG_mem (i := 1409) (by decide +kernel) rfl
theorem tw1410 : (.instanceMethod yX12_law : Cond) ∈ TBG := TBG_mem (i := 1410) (by decide +kernel) rfl
theorem tw1411 : (.selects RX12 yX12_law yX12_law : Cond) ∈ TBG := TBG_mem (i := 1411) (by decide +kernel) rfl
set_option maxRecDepth 20000 in
theorem tw1412 : (.code yX12_law cX12_law 4 (some .int) : Cond) ∈ TBG := List.mem_filter.mpr ⟨in_t6 _ (List.mem_of_getElem? (i := 102) rfl), rfl⟩
theorem tw1413 : (.methodLink RX12 219 yX12_readsClause : Cond) ∈ TBG := TBG_mem (i := 1413) (by decide +kernel) rfl
theorem tw1415 : (.instanceMethod yX12_readsClause : Cond) ∈ TBG := TBG_mem (i := 1415) (by decide +kernel) rfl
set_option maxRecDepth 20000 in
theorem tw1416 : (.code yX12_readsClause cX12_readsClause 2 (some .boolean) : Cond) ∈ TBG := List.mem_filter.mpr ⟨in_t6 _ (List.mem_of_getElem? (i := 106) rfl), rfl⟩
theorem tw1417 : (.methodLink RX12 139 yX12_here : Cond) ∈ TBG := TBG_mem (i := 1417) (by decide +kernel) rfl
theorem tw1419 : (.instanceMethod yX12_here : Cond) ∈ TBG := TBG_mem (i := 1419) (by decide +kernel) rfl
set_option maxRecDepth 20000 in
theorem tw1420 : (.code yX12_here cX12_here 1 (some .int) : Cond) ∈ TBG := List.mem_filter.mpr ⟨in_t6 _ (List.mem_of_getElem? (i := 110) rfl), rfl⟩
theorem tw1421 : (.methodLink RX12 210 yX12_isClause : Cond) ∈ TBG := TBG_mem (i := 1421) (by decide +kernel) rfl
theorem tw1422 : (.static yX12_isClause : Cond) ∈ TBG := TBG_mem (i := 1422) (by decide +kernel) rfl
set_option maxRecDepth 20000 in
theorem tw1423 : (.code yX12_isClause cX12_isClause 1 (some .boolean) : Cond) ∈ TBG := List.mem_filter.mpr ⟨in_t6 _ (List.mem_of_getElem? (i := 113) rfl), rfl⟩
theorem tw1424 : (.methodLink RX12 146 yX12_wrongAt : Cond) ∈ TBG := TBG_mem (i := 1424) (by decide +kernel) rfl
theorem tw1426 : (.instanceMethod yX12_wrongAt : Cond) ∈ TBG := TBG_mem (i := 1426) (by decide +kernel) rfl
set_option maxRecDepth 20000 in
theorem tw1427 : (.code yX12_wrongAt cX12_wrongAt 3 (some .boolean) : Cond) ∈ TBG := List.mem_filter.mpr ⟨in_t6 _ (List.mem_of_getElem? (i := 117) rfl), rfl⟩
theorem tw1428 : (.methodLink RX12 195 yX12_readsSum : Cond) ∈ TBG := TBG_mem (i := 1428) (by decide +kernel) rfl
theorem tw1430 : (.instanceMethod yX12_readsSum : Cond) ∈ TBG := TBG_mem (i := 1430) (by decide +kernel) rfl
set_option maxRecDepth 20000 in
theorem tw1431 : (.code yX12_readsSum cX12_readsSum 3 (some .boolean) : Cond) ∈ TBG := List.mem_filter.mpr ⟨in_t6 _ (List.mem_of_getElem? (i := 121) rfl), rfl⟩
theorem tw1432 : (.methodLink RX12 182 yX12_readsFactor : Cond) ∈ TBG := TBG_mem (i := 1432) (by decide +kernel) rfl
theorem tw1434 : (.instanceMethod yX12_readsFactor : Cond) ∈ TBG := TBG_mem (i := 1434) (by decide +kernel) rfl
set_option maxRecDepth 20000 in
theorem tw1435 : (.code yX12_readsFactor cX12_readsFactor 2 (some .boolean) : Cond) ∈ TBG := List.mem_filter.mpr ⟨in_t6 _ (List.mem_of_getElem? (i := 125) rfl), rfl⟩
theorem tw1436 : (.methodLink RX12 172 yX12_opens : Cond) ∈ TBG := TBG_mem (i := 1436) (by decide +kernel) rfl
theorem tw1438 : (.instanceMethod yX12_opens : Cond) ∈ TBG := TBG_mem (i := 1438) (by decide +kernel) rfl
set_option maxRecDepth 20000 in
theorem tw1439 : (.code yX12_opens cX12_opens 2 (some .boolean) : Cond) ∈ TBG := List.mem_filter.mpr ⟨in_t6 _ (List.mem_of_getElem? (i := 129) rfl), rfl⟩
theorem tw1440 : (.constant RX12 159 (1048576) : Cond) ∈ TBG := TBG_mem (i := 1440) (by decide +kernel) rfl
theorem tw1441 : (.methodLink RX12 152 yX12_isDigit : Cond) ∈ TBG := TBG_mem (i := 1441) (by decide +kernel) rfl
theorem tw1443 : (.instanceMethod yX12_isDigit : Cond) ∈ TBG := TBG_mem (i := 1443) (by decide +kernel) rfl
set_option maxRecDepth 20000 in
theorem tw1444 : (.code yX12_isDigit cX12_isDigit 1 (some .boolean) : Cond) ∈ TBG := List.mem_filter.mpr ⟨in_t6 _ (List.mem_of_getElem? (i := 134) rfl), rfl⟩
theorem tw1445 : (.methodLink RX12 175 yX12_readsNumber : Cond) ∈ TBG := TBG_mem (i := 1445) (by decide +kernel) rfl
theorem tw1447 : (.instanceMethod yX12_readsNumber : Cond) ∈ TBG := TBG_mem (i := 1447) (by decide +kernel) rfl
set_option maxRecDepth 20000 in
theorem tw1448 : (.code yX12_readsNumber cX12_readsNumber 2 (some .boolean) : Cond) ∈ TBG := List.mem_filter.mpr ⟨in_t6 _ (List.mem_of_getElem? (i := 138) rfl), rfl⟩
theorem tw1449 : (.methodLink RX12 169 yX12_notes : Cond) ∈ TBG := TBG_mem (i := 1449) (by decide +kernel) rfl
theorem tw1451 : (.instanceMethod yX12_notes : Cond) ∈ TBG := TBG_mem (i := 1451) (by decide +kernel) rfl
set_option maxRecDepth 20000 in
theorem tw1452 : (.code yX12_notes cX12_notes 3 (none) : Cond) ∈ TBG := List.mem_filter.mpr ⟨in_t6 _ (List.mem_of_getElem? (i := 142) rfl), rfl⟩
theorem tw1453 : (.methodLink RX12 178 yX12_factOf : Cond) ∈ TBG := TBG_mem (i := 1453) (by decide +kernel) rfl
theorem tw1454 : (.static yX12_factOf : Cond) ∈ TBG := TBG_mem (i := 1454) (by decide +kernel) rfl
set_option maxRecDepth 20000 in
theorem tw1455 : (.code yX12_factOf cX12_factOf 1 (some .int) : Cond) ∈ TBG := List.mem_filter.mpr ⟨in_t6 _ (List.mem_of_getElem? (i := 145) rfl), rfl⟩
theorem tw1456 : (.methodLink RX12 185 yX12_sumSign : Cond) ∈ TBG := TBG_mem (i := 1456) (by decide +kernel) rfl
theorem tw1457 : (.static yX12_sumSign : Cond) ∈ TBG := TBG_mem (i := 1457) (by decide +kernel) rfl
set_option maxRecDepth 20000 in
theorem tw1458 : (.code yX12_sumSign cX12_sumSign 1 (some .int) : Cond) ∈ TBG := List.mem_filter.mpr ⟨in_t6 _ (List.mem_of_getElem? (i := 148) rfl), rfl⟩
theorem tw1459 : (.methodLink RX12 188 yX12_closesSums : Cond) ∈ TBG := TBG_mem (i := 1459) (by decide +kernel) rfl
theorem tw1461 : (.instanceMethod yX12_closesSums : Cond) ∈ TBG := TBG_mem (i := 1461) (by decide +kernel) rfl
set_option maxRecDepth 20000 in
theorem tw1462 : (.code yX12_closesSums cX12_closesSums 2 (none) : Cond) ∈ TBG := List.mem_filter.mpr ⟨in_t6 _ (List.mem_of_getElem? (i := 152) rfl), rfl⟩
theorem tw1463 : (.methodLink RX12 166 yX12_waitTop : Cond) ∈ TBG := TBG_mem (i := 1463) (by decide +kernel) rfl
theorem tw1465 : (.instanceMethod yX12_waitTop : Cond) ∈ TBG := TBG_mem (i := 1465) (by decide +kernel) rfl
set_option maxRecDepth 20000 in
theorem tw1466 : (.code yX12_waitTop cX12_waitTop 1 (some .int) : Cond) ∈ TBG := List.mem_filter.mpr ⟨in_t6 _ (List.mem_of_getElem? (i := 156) rfl), rfl⟩
theorem tw1467 : (.methodLink RX12 192 yX12_hasOpenSum : Cond) ∈ TBG := TBG_mem (i := 1467) (by decide +kernel) rfl
theorem tw1469 : (.instanceMethod yX12_hasOpenSum : Cond) ∈ TBG := TBG_mem (i := 1469) (by decide +kernel) rfl
set_option maxRecDepth 20000 in
theorem tw1470 : (.code yX12_hasOpenSum cX12_hasOpenSum 3 (some .boolean) : Cond) ∈ TBG := List.mem_filter.mpr ⟨in_t6 _ (List.mem_of_getElem? (i := 160) rfl), rfl⟩
theorem tw1471 : (.methodLink RX12 216 yX12_readsCondition : Cond) ∈ TBG := TBG_mem (i := 1471) (by decide +kernel) rfl
theorem tw1473 : (.instanceMethod yX12_readsCondition : Cond) ∈ TBG := TBG_mem (i := 1473) (by decide +kernel) rfl
set_option maxRecDepth 20000 in
theorem tw1474 : (.code yX12_readsCondition cX12_readsCondition 1 (some .boolean) : Cond) ∈ TBG := List.mem_filter.mpr ⟨in_t6 _ (List.mem_of_getElem? (i := 164) rfl), rfl⟩
theorem tw1475 : (.methodLink RX12 201 yX12_readsCompared : Cond) ∈ TBG := TBG_mem (i := 1475) (by decide +kernel) rfl
theorem tw1477 : (.instanceMethod yX12_readsCompared : Cond) ∈ TBG := TBG_mem (i := 1477) (by decide +kernel) rfl
set_option maxRecDepth 20000 in
theorem tw1478 : (.code yX12_readsCompared cX12_readsCompared 2 (some .boolean) : Cond) ∈ TBG := List.mem_filter.mpr ⟨in_t6 _ (List.mem_of_getElem? (i := 168) rfl), rfl⟩
theorem tw1479 : (.methodLink RX12 198 yX12_endsPiece : Cond) ∈ TBG := TBG_mem (i := 1479) (by decide +kernel) rfl
theorem tw1481 : (.instanceMethod yX12_endsPiece : Cond) ∈ TBG := TBG_mem (i := 1481) (by decide +kernel) rfl
set_option maxRecDepth 20000 in
theorem tw1482 : (.code yX12_endsPiece cX12_endsPiece 1 (none) : Cond) ∈ TBG := List.mem_filter.mpr ⟨in_t6 _ (List.mem_of_getElem? (i := 172) rfl), rfl⟩
theorem tw1483 : (.methodLink RX12 204 yX12_lands : Cond) ∈ TBG := TBG_mem (i := 1483) (by decide +kernel) rfl
theorem tw1485 : (.instanceMethod yX12_lands : Cond) ∈ TBG := TBG_mem (i := 1485) (by decide +kernel) rfl
set_option maxRecDepth 20000 in
theorem tw1486 : (.code yX12_lands cX12_lands 3 (none) : Cond) ∈ TBG := List.mem_filter.mpr ⟨in_t6 _ (List.mem_of_getElem? (i := 176) rfl), rfl⟩
theorem tw1487 : (.methodLink RX12 207 yX12_jumps : Cond) ∈ TBG := TBG_mem (i := 1487) (by decide +kernel) rfl
theorem tw1489 : (.instanceMethod yX12_jumps : Cond) ∈ TBG := TBG_mem (i := 1489) (by decide +kernel) rfl
set_option maxRecDepth 20000 in
theorem tw1490 : (.code yX12_jumps cX12_jumps 2 (none) : Cond) ∈ TBG := List.mem_filter.mpr ⟨in_t6 _ (List.mem_of_getElem? (i := 180) rfl), rfl⟩
theorem tw1491 : (.methodLink RX12 222 yX12_takes : Cond) ∈ TBG := TBG_mem (i := 1491) (by decide +kernel) rfl
theorem tw1493 : (.instanceMethod yX12_takes : Cond) ∈ TBG := TBG_mem (i := 1493) (by decide +kernel) rfl
set_option maxRecDepth 20000 in
theorem tw1494 : (.code yX12_takes cX12_takes 2 (some .boolean) : Cond) ∈ TBG := List.mem_filter.mpr ⟨in_t6 _ (List.mem_of_getElem? (i := 184) rfl), rfl⟩
theorem tw1495 : (.methodLink RL 46 yX12_edge : Cond) ∈ TBG := TBG_mem (i := 1495) (by decide +kernel) rfl
theorem tw1496 : (.instanceMethod yX12_edge : Cond) ∈ TBG := TBG_mem (i := 1496) (by decide +kernel) rfl
theorem tw1497 : (.selects RX12 yX12_edge yX12_edge : Cond) ∈ TBG := TBG_mem (i := 1497) (by decide +kernel) rfl
set_option maxRecDepth 20000 in
theorem tw1498 : (.code yX12_edge cX12_edge 6 (some .int) : Cond) ∈ TBG := List.mem_filter.mpr ⟨in_t6 _ (List.mem_of_getElem? (i := 188) rfl), rfl⟩
theorem tw1499 : (.methodLink RX12 271 yX12_readsHeight : Cond) ∈ TBG := TBG_mem (i := 1499) (by decide +kernel) rfl
theorem tw1501 : (.instanceMethod yX12_readsHeight : Cond) ∈ TBG := TBG_mem (i := 1501) (by decide +kernel) rfl
set_option maxRecDepth 20000 in
theorem tw1502 : (.code yX12_readsHeight cX12_readsHeight 6 (some .boolean) : Cond) ∈ TBG := List.mem_filter.mpr ⟨in_t6 _ (List.mem_of_getElem? (i := 192) rfl), rfl⟩
theorem tw1503 : (.methodLink RX12 239 yX12_size : Cond) ∈ TBG := TBG_mem (i := 1503) (by decide +kernel) rfl
theorem tw1504 : (.static yX12_size : Cond) ∈ TBG := TBG_mem (i := 1504) (by decide +kernel) rfl
set_option maxRecDepth 20000 in
theorem tw1505 : (.code yX12_size cX12_size 1 (some .int) : Cond) ∈ TBG := List.mem_filter.mpr ⟨in_t6 _ (List.mem_of_getElem? (i := 195) rfl), rfl⟩
theorem tw1506 : (.methodLink RL 50 yX12_journey : Cond) ∈ TBG := TBG_mem (i := 1506) (by decide +kernel) rfl
theorem tw1507 : (.instanceMethod yX12_journey : Cond) ∈ TBG := TBG_mem (i := 1507) (by decide +kernel) rfl
theorem tw1508 : (.selects RX12 yX12_journey yX12_journey : Cond) ∈ TBG := TBG_mem (i := 1508) (by decide +kernel) rfl
set_option maxRecDepth 20000 in
theorem tw1509 : (.code yX12_journey cX12_journey 5 (some .int) : Cond) ∈ TBG := List.mem_filter.mpr ⟨in_t6 _ (List.mem_of_getElem? (i := 199) rfl), rfl⟩
theorem tw1510 : (.methodLink RX12 277 yX12_readsStop : Cond) ∈ TBG := TBG_mem (i := 1510) (by decide +kernel) rfl
theorem tw1512 : (.instanceMethod yX12_readsStop : Cond) ∈ TBG := TBG_mem (i := 1512) (by decide +kernel) rfl
set_option maxRecDepth 20000 in
theorem tw1513 : (.code yX12_readsStop cX12_readsStop 4 (some .boolean) : Cond) ∈ TBG := List.mem_filter.mpr ⟨in_t6 _ (List.mem_of_getElem? (i := 203) rfl), rfl⟩
theorem tw1514 : (.methodLink RL 54 yX12_days : Cond) ∈ TBG := TBG_mem (i := 1514) (by decide +kernel) rfl
theorem tw1515 : (.instanceMethod yX12_days : Cond) ∈ TBG := TBG_mem (i := 1515) (by decide +kernel) rfl
theorem tw1516 : (.selects RX12 yX12_days yX12_days : Cond) ∈ TBG := TBG_mem (i := 1516) (by decide +kernel) rfl
set_option maxRecDepth 20000 in
theorem tw1517 : (.code yX12_days cX12_days 2 (some .int) : Cond) ∈ TBG := List.mem_filter.mpr ⟨in_t6 _ (List.mem_of_getElem? (i := 207) rfl), rfl⟩
theorem tw1518 : (.methodLink RX12 314 yX12_daysGo : Cond) ∈ TBG := TBG_mem (i := 1518) (by decide +kernel) rfl
theorem tw1520 : (.instanceMethod yX12_daysGo : Cond) ∈ TBG := TBG_mem (i := 1520) (by decide +kernel) rfl
set_option maxRecDepth 20000 in
theorem tw1521 : (.code yX12_daysGo cX12_daysGo 5 (none) : Cond) ∈ TBG := List.mem_filter.mpr ⟨in_t6 _ (List.mem_of_getElem? (i := 211) rfl), rfl⟩
theorem tw1522 : (.methodLink RX12 305 yX12_travels : Cond) ∈ TBG := TBG_mem (i := 1522) (by decide +kernel) rfl
theorem tw1524 : (.instanceMethod yX12_travels : Cond) ∈ TBG := TBG_mem (i := 1524) (by decide +kernel) rfl
set_option maxRecDepth 20000 in
theorem tw1525 : (.code yX12_travels cX12_travels 2 (none) : Cond) ∈ TBG := List.mem_filter.mpr ⟨in_t6 _ (List.mem_of_getElem? (i := 215) rfl), rfl⟩
theorem tw1526 : (.methodLink RX12 308 yX12_triesIn : Cond) ∈ TBG := TBG_mem (i := 1526) (by decide +kernel) rfl
theorem tw1528 : (.instanceMethod yX12_triesIn : Cond) ∈ TBG := TBG_mem (i := 1528) (by decide +kernel) rfl
set_option maxRecDepth 20000 in
theorem tw1529 : (.code yX12_triesIn cX12_triesIn 5 (none) : Cond) ∈ TBG := List.mem_filter.mpr ⟨in_t6 _ (List.mem_of_getElem? (i := 219) rfl), rfl⟩
theorem tw1530 : (.methodLink RX12 283 yX12_haveTried : Cond) ∈ TBG := TBG_mem (i := 1530) (by decide +kernel) rfl
theorem tw1532 : (.instanceMethod yX12_haveTried : Cond) ∈ TBG := TBG_mem (i := 1532) (by decide +kernel) rfl
set_option maxRecDepth 20000 in
theorem tw1533 : (.code yX12_haveTried cX12_haveTried 3 (none) : Cond) ∈ TBG := List.mem_filter.mpr ⟨in_t6 _ (List.mem_of_getElem? (i := 223) rfl), rfl⟩
theorem tw1534 : (.methodLink RX12 286 yX12_fit : Cond) ∈ TBG := TBG_mem (i := 1534) (by decide +kernel) rfl
theorem tw1536 : (.instanceMethod yX12_fit : Cond) ∈ TBG := TBG_mem (i := 1536) (by decide +kernel) rfl
set_option maxRecDepth 20000 in
theorem tw1537 : (.code yX12_fit cX12_fit 4 (some .boolean) : Cond) ∈ TBG := List.mem_filter.mpr ⟨in_t6 _ (List.mem_of_getElem? (i := 227) rfl), rfl⟩
theorem tw1538 : (.methodLink RX12 262 yX12_slackBy : Cond) ∈ TBG := TBG_mem (i := 1538) (by decide +kernel) rfl
theorem tw1540 : (.instanceMethod yX12_slackBy : Cond) ∈ TBG := TBG_mem (i := 1540) (by decide +kernel) rfl
set_option maxRecDepth 20000 in
theorem tw1541 : (.code yX12_slackBy cX12_slackBy 6 (some .int) : Cond) ∈ TBG := List.mem_filter.mpr ⟨in_t6 _ (List.mem_of_getElem? (i := 231) rfl), rfl⟩
theorem tw1542 : (.constant RX12 245 (1000000000) : Cond) ∈ TBG := TBG_mem (i := 1542) (by decide +kernel) rfl
theorem tw1543 : (.methodLink RX12 246 yX12_slackOf : Cond) ∈ TBG := TBG_mem (i := 1543) (by decide +kernel) rfl
theorem tw1545 : (.instanceMethod yX12_slackOf : Cond) ∈ TBG := TBG_mem (i := 1545) (by decide +kernel) rfl
set_option maxRecDepth 20000 in
theorem tw1546 : (.code yX12_slackOf cX12_slackOf 5 (some .int) : Cond) ∈ TBG := List.mem_filter.mpr ⟨in_t6 _ (List.mem_of_getElem? (i := 236) rfl), rfl⟩
theorem tw1547 : (.methodLink RX12 236 yX12_heightOf : Cond) ∈ TBG := TBG_mem (i := 1547) (by decide +kernel) rfl
theorem tw1549 : (.instanceMethod yX12_heightOf : Cond) ∈ TBG := TBG_mem (i := 1549) (by decide +kernel) rfl
set_option maxRecDepth 20000 in
theorem tw1550 : (.code yX12_heightOf cX12_heightOf 3 (some .int) : Cond) ∈ TBG := List.mem_filter.mpr ⟨in_t7 _ (List.mem_of_getElem? (i := 0) rfl), rfl⟩
theorem tw1551 : (.methodLink RX12 242 yX12_max : Cond) ∈ TBG := TBG_mem (i := 1551) (by decide +kernel) rfl
theorem tw1552 : (.static yX12_max : Cond) ∈ TBG := TBG_mem (i := 1552) (by decide +kernel) rfl
set_option maxRecDepth 20000 in
theorem tw1553 : (.code yX12_max cX12_max 2 (some .int) : Cond) ∈ TBG := List.mem_filter.mpr ⟨in_t7 _ (List.mem_of_getElem? (i := 3) rfl), rfl⟩
theorem tw1554 : (.methodLink RX12 249 yX12_min : Cond) ∈ TBG := TBG_mem (i := 1554) (by decide +kernel) rfl
theorem tw1555 : (.static yX12_min : Cond) ∈ TBG := TBG_mem (i := 1555) (by decide +kernel) rfl
set_option maxRecDepth 20000 in
theorem tw1556 : (.code yX12_min cX12_min 2 (some .int) : Cond) ∈ TBG := List.mem_filter.mpr ⟨in_t7 _ (List.mem_of_getElem? (i := 6) rfl), rfl⟩
theorem tw1557 : (.methodLink RX12 265 yX12_allowed : Cond) ∈ TBG := TBG_mem (i := 1557) (by decide +kernel) rfl
theorem tw1559 : (.instanceMethod yX12_allowed : Cond) ∈ TBG := TBG_mem (i := 1559) (by decide +kernel) rfl
set_option maxRecDepth 20000 in
theorem tw1560 : (.code yX12_allowed cX12_allowed 4 (some .int) : Cond) ∈ TBG := List.mem_filter.mpr ⟨in_t7 _ (List.mem_of_getElem? (i := 10) rfl), rfl⟩
theorem tw1561 : (.methodLink RX12 255 yX12_feels : Cond) ∈ TBG := TBG_mem (i := 1561) (by decide +kernel) rfl
theorem tw1563 : (.instanceMethod yX12_feels : Cond) ∈ TBG := TBG_mem (i := 1563) (by decide +kernel) rfl
set_option maxRecDepth 20000 in
theorem tw1564 : (.code yX12_feels cX12_feels 4 (none) : Cond) ∈ TBG := List.mem_filter.mpr ⟨in_t7 _ (List.mem_of_getElem? (i := 14) rfl), rfl⟩
theorem tw1565 : (.methodLink RX12 252 yX12_bits : Cond) ∈ TBG := TBG_mem (i := 1565) (by decide +kernel) rfl
theorem tw1566 : (.static yX12_bits : Cond) ∈ TBG := TBG_mem (i := 1566) (by decide +kernel) rfl
set_option maxRecDepth 20000 in
theorem tw1567 : (.code yX12_bits cX12_bits 3 (some .int) : Cond) ∈ TBG := List.mem_filter.mpr ⟨in_t7 _ (List.mem_of_getElem? (i := 17) rfl), rfl⟩
theorem tw1568 : (.methodLink RX12 259 yX12_byLaw : Cond) ∈ TBG := TBG_mem (i := 1568) (by decide +kernel) rfl
theorem tw1570 : (.instanceMethod yX12_byLaw : Cond) ∈ TBG := TBG_mem (i := 1570) (by decide +kernel) rfl
set_option maxRecDepth 20000 in
theorem tw1571 : (.code yX12_byLaw cX12_byLaw 5 (some .int) : Cond) ∈ TBG := List.mem_filter.mpr ⟨in_t7 _ (List.mem_of_getElem? (i := 21) rfl), rfl⟩
theorem tw1572 : (.methodLink RX12 232 yX12_comesTo : Cond) ∈ TBG := TBG_mem (i := 1572) (by decide +kernel) rfl
theorem tw1574 : (.instanceMethod yX12_comesTo : Cond) ∈ TBG := TBG_mem (i := 1574) (by decide +kernel) rfl
set_option maxRecDepth 20000 in
theorem tw1575 : (.code yX12_comesTo cX12_comesTo 8 (some .int) : Cond) ∈ TBG := List.mem_filter.mpr ⟨in_t7 _ (List.mem_of_getElem? (i := 25) rfl), rfl⟩
theorem tw1576 : (.methodLink RX12 228 yX12_reckon : Cond) ∈ TBG := TBG_mem (i := 1576) (by decide +kernel) rfl
theorem tw1577 : (.static yX12_reckon : Cond) ∈ TBG := TBG_mem (i := 1577) (by decide +kernel) rfl
set_option maxRecDepth 20000 in
theorem tw1578 : (.code yX12_reckon cX12_reckon 3 (some .int) : Cond) ∈ TBG := List.mem_filter.mpr ⟨in_t7 _ (List.mem_of_getElem? (i := 28) rfl), rfl⟩
theorem tw1579 : (.methodLink RX12 292 yX12_wearsBy : Cond) ∈ TBG := TBG_mem (i := 1579) (by decide +kernel) rfl
theorem tw1581 : (.instanceMethod yX12_wearsBy : Cond) ∈ TBG := TBG_mem (i := 1581) (by decide +kernel) rfl
set_option maxRecDepth 20000 in
theorem tw1582 : (.code yX12_wearsBy cX12_wearsBy 3 (some .int) : Cond) ∈ TBG := List.mem_filter.mpr ⟨in_t7 _ (List.mem_of_getElem? (i := 32) rfl), rfl⟩
theorem tw1583 : (.methodLink RX12 295 yX12_wearsAll : Cond) ∈ TBG := TBG_mem (i := 1583) (by decide +kernel) rfl
theorem tw1585 : (.instanceMethod yX12_wearsAll : Cond) ∈ TBG := TBG_mem (i := 1585) (by decide +kernel) rfl
set_option maxRecDepth 20000 in
theorem tw1586 : (.code yX12_wearsAll cX12_wearsAll 4 (none) : Cond) ∈ TBG := List.mem_filter.mpr ⟨in_t7 _ (List.mem_of_getElem? (i := 36) rfl), rfl⟩
theorem tw1587 : (.methodLink RX12 311 yX12_creak : Cond) ∈ TBG := TBG_mem (i := 1587) (by decide +kernel) rfl
theorem tw1589 : (.instanceMethod yX12_creak : Cond) ∈ TBG := TBG_mem (i := 1589) (by decide +kernel) rfl
set_option maxRecDepth 20000 in
theorem tw1590 : (.code yX12_creak cX12_creak 4 (none) : Cond) ∈ TBG := List.mem_filter.mpr ⟨in_t7 _ (List.mem_of_getElem? (i := 40) rfl), rfl⟩
theorem tw1591 : (.methodLink RX12 299 yX12_draws : Cond) ∈ TBG := TBG_mem (i := 1591) (by decide +kernel) rfl
theorem tw1593 : (.instanceMethod yX12_draws : Cond) ∈ TBG := TBG_mem (i := 1593) (by decide +kernel) rfl
set_option maxRecDepth 20000 in
theorem tw1594 : (.code yX12_draws cX12_draws 1 (some .int) : Cond) ∈ TBG := List.mem_filter.mpr ⟨in_t7 _ (List.mem_of_getElem? (i := 44) rfl), rfl⟩
theorem tw1595 : (.constant RX12 298 (65536) : Cond) ∈ TBG := TBG_mem (i := 1595) (by decide +kernel) rfl
theorem tw1596 : (.methodLink RL 58 yX12_tried : Cond) ∈ TBG := TBG_mem (i := 1596) (by decide +kernel) rfl
theorem tw1597 : (.instanceMethod yX12_tried : Cond) ∈ TBG := TBG_mem (i := 1597) (by decide +kernel) rfl
theorem tw1598 : (.selects RX12 yX12_tried yX12_tried : Cond) ∈ TBG := TBG_mem (i := 1598) (by decide +kernel) rfl
set_option maxRecDepth 20000 in
theorem tw1599 : (.code yX12_tried cX12_tried 5 (some .int) : Cond) ∈ TBG := List.mem_filter.mpr ⟨in_t7 _ (List.mem_of_getElem? (i := 49) rfl), rfl⟩
theorem tw1600 : (.methodLink RX12 317 yX12_copiesRow : Cond) ∈ TBG := TBG_mem (i := 1600) (by decide +kernel) rfl
theorem tw1601 : (.static yX12_copiesRow : Cond) ∈ TBG := TBG_mem (i := 1601) (by decide +kernel) rfl
set_option maxRecDepth 20000 in
theorem tw1602 : (.code yX12_copiesRow cX12_copiesRow 3 (none) : Cond) ∈ TBG := List.mem_filter.mpr ⟨in_t7 _ (List.mem_of_getElem? (i := 52) rfl), rfl⟩
theorem tw1603 : (.methodLink RX12 321 yX12_wedTwos : Cond) ∈ TBG := TBG_mem (i := 1603) (by decide +kernel) rfl
theorem tw1605 : (.instanceMethod yX12_wedTwos : Cond) ∈ TBG := TBG_mem (i := 1605) (by decide +kernel) rfl
set_option maxRecDepth 20000 in
theorem tw1606 : (.code yX12_wedTwos cX12_wedTwos 3 (some .int) : Cond) ∈ TBG := List.mem_filter.mpr ⟨in_t7 _ (List.mem_of_getElem? (i := 56) rfl), rfl⟩
theorem tw1607 : (.methodLink RL 62 yX12_personIs : Cond) ∈ TBG := TBG_mem (i := 1607) (by decide +kernel) rfl
theorem tw1608 : (.instanceMethod yX12_personIs : Cond) ∈ TBG := TBG_mem (i := 1608) (by decide +kernel) rfl
theorem tw1609 : (.selects RX12 yX12_personIs yX12_personIs : Cond) ∈ TBG := TBG_mem (i := 1609) (by decide +kernel) rfl
set_option maxRecDepth 20000 in
theorem tw1610 : (.code yX12_personIs cX12_personIs 3 (some .int) : Cond) ∈ TBG := List.mem_filter.mpr ⟨in_t7 _ (List.mem_of_getElem? (i := 60) rfl), rfl⟩
theorem tw1611 : (.methodLink RX12 324 yX12_fitting : Cond) ∈ TBG := TBG_mem (i := 1611) (by decide +kernel) rfl
theorem tw1613 : (.instanceMethod yX12_fitting : Cond) ∈ TBG := TBG_mem (i := 1613) (by decide +kernel) rfl
set_option maxRecDepth 20000 in
theorem tw1614 : (.code yX12_fitting cX12_fitting 4 (some .int) : Cond) ∈ TBG := List.mem_filter.mpr ⟨in_t7 _ (List.mem_of_getElem? (i := 64) rfl), rfl⟩
theorem tw1615 : (.methodLink RL 66 yX12_piece : Cond) ∈ TBG := TBG_mem (i := 1615) (by decide +kernel) rfl
theorem tw1616 : (.instanceMethod yX12_piece : Cond) ∈ TBG := TBG_mem (i := 1616) (by decide +kernel) rfl
theorem tw1617 : (.selects RX12 yX12_piece yX12_piece : Cond) ∈ TBG := TBG_mem (i := 1617) (by decide +kernel) rfl
set_option maxRecDepth 20000 in
theorem tw1618 : (.code yX12_piece cX12_piece 4 (some .int) : Cond) ∈ TBG := List.mem_filter.mpr ⟨in_t7 _ (List.mem_of_getElem? (i := 68) rfl), rfl⟩
theorem tw1619 : (.methodLink RL 71 yX12_slack : Cond) ∈ TBG := TBG_mem (i := 1619) (by decide +kernel) rfl
theorem tw1620 : (.instanceMethod yX12_slack : Cond) ∈ TBG := TBG_mem (i := 1620) (by decide +kernel) rfl
theorem tw1621 : (.selects RX12 yX12_slack yX12_slack : Cond) ∈ TBG := TBG_mem (i := 1621) (by decide +kernel) rfl
set_option maxRecDepth 20000 in
theorem tw1622 : (.code yX12_slack cX12_slack 5 (some .int) : Cond) ∈ TBG := List.mem_filter.mpr ⟨in_t7 _ (List.mem_of_getElem? (i := 72) rfl), rfl⟩
theorem tw1623 : (.methodLink RX12 327 yX12_likes : Cond) ∈ TBG := TBG_mem (i := 1623) (by decide +kernel) rfl
theorem tw1625 : (.instanceMethod yX12_likes : Cond) ∈ TBG := TBG_mem (i := 1625) (by decide +kernel) rfl
set_option maxRecDepth 20000 in
theorem tw1626 : (.code yX12_likes cX12_likes 3 (some .int) : Cond) ∈ TBG := List.mem_filter.mpr ⟨in_t7 _ (List.mem_of_getElem? (i := 76) rfl), rfl⟩
theorem tw1627 : (.methodLink RL 75 yX12_locks : Cond) ∈ TBG := TBG_mem (i := 1627) (by decide +kernel) rfl
theorem tw1628 : (.instanceMethod yX12_locks : Cond) ∈ TBG := TBG_mem (i := 1628) (by decide +kernel) rfl
theorem tw1629 : (.selects RX12 yX12_locks yX12_locks : Cond) ∈ TBG := TBG_mem (i := 1629) (by decide +kernel) rfl
set_option maxRecDepth 20000 in
theorem tw1630 : (.code yX12_locks cX12_locks 7 (some .int) : Cond) ∈ TBG := List.mem_filter.mpr ⟨in_t7 _ (List.mem_of_getElem? (i := 80) rfl), rfl⟩
theorem tw1631 : (.methodLink RX12 330 yX12_laysFits : Cond) ∈ TBG := TBG_mem (i := 1631) (by decide +kernel) rfl
theorem tw1633 : (.instanceMethod yX12_laysFits : Cond) ∈ TBG := TBG_mem (i := 1633) (by decide +kernel) rfl
set_option maxRecDepth 20000 in
theorem tw1634 : (.code yX12_laysFits cX12_laysFits 4 (none) : Cond) ∈ TBG := List.mem_filter.mpr ⟨in_t7 _ (List.mem_of_getElem? (i := 84) rfl), rfl⟩
theorem tw1635 : (.methodLink RL 79 yX12_most : Cond) ∈ TBG := TBG_mem (i := 1635) (by decide +kernel) rfl
theorem tw1636 : (.instanceMethod yX12_most : Cond) ∈ TBG := TBG_mem (i := 1636) (by decide +kernel) rfl
theorem tw1637 : (.selects RX12 yX12_most yX12_most : Cond) ∈ TBG := TBG_mem (i := 1637) (by decide +kernel) rfl
set_option maxRecDepth 20000 in
theorem tw1638 : (.code yX12_most cX12_most 3 (some .int) : Cond) ∈ TBG := List.mem_filter.mpr ⟨in_t7 _ (List.mem_of_getElem? (i := 88) rfl), rfl⟩
theorem tw1639 : (.methodLink RX12 334 yX12_isOne : Cond) ∈ TBG := TBG_mem (i := 1639) (by decide +kernel) rfl
theorem tw1641 : (.instanceMethod yX12_isOne : Cond) ∈ TBG := TBG_mem (i := 1641) (by decide +kernel) rfl
set_option maxRecDepth 20000 in
theorem tw1642 : (.code yX12_isOne cX12_isOne 3 (some .boolean) : Cond) ∈ TBG := List.mem_filter.mpr ⟨in_t7 _ (List.mem_of_getElem? (i := 92) rfl), rfl⟩
theorem tw1643 : (.methodLink RX12 340 yX12_laysMost : Cond) ∈ TBG := TBG_mem (i := 1643) (by decide +kernel) rfl
theorem tw1645 : (.instanceMethod yX12_laysMost : Cond) ∈ TBG := TBG_mem (i := 1645) (by decide +kernel) rfl
set_option maxRecDepth 20000 in
theorem tw1646 : (.code yX12_laysMost cX12_laysMost 5 (none) : Cond) ∈ TBG := List.mem_filter.mpr ⟨in_t7 _ (List.mem_of_getElem? (i := 96) rfl), rfl⟩
theorem tw1647 : (.constant RX12 333 (49152) : Cond) ∈ TBG := TBG_mem (i := 1647) (by decide +kernel) rfl
theorem tw1648 : (.methodLink RX12 337 yX12_mayGet : Cond) ∈ TBG := TBG_mem (i := 1648) (by decide +kernel) rfl
theorem tw1650 : (.instanceMethod yX12_mayGet : Cond) ∈ TBG := TBG_mem (i := 1650) (by decide +kernel) rfl
set_option maxRecDepth 20000 in
theorem tw1651 : (.code yX12_mayGet cX12_mayGet 4 (some .boolean) : Cond) ∈ TBG := List.mem_filter.mpr ⟨in_t7 _ (List.mem_of_getElem? (i := 101) rfl), rfl⟩
theorem tw1652 : (.methodLink RX12 343 yX12_getsBy : Cond) ∈ TBG := TBG_mem (i := 1652) (by decide +kernel) rfl
theorem tw1654 : (.instanceMethod yX12_getsBy : Cond) ∈ TBG := TBG_mem (i := 1654) (by decide +kernel) rfl
set_option maxRecDepth 20000 in
theorem tw1655 : (.code yX12_getsBy cX12_getsBy 6 (some .int) : Cond) ∈ TBG := List.mem_filter.mpr ⟨in_t7 _ (List.mem_of_getElem? (i := 105) rfl), rfl⟩
theorem tw1656 : (.methodLink RL 83 yX12_stable : Cond) ∈ TBG := TBG_mem (i := 1656) (by decide +kernel) rfl
theorem tw1657 : (.instanceMethod yX12_stable : Cond) ∈ TBG := TBG_mem (i := 1657) (by decide +kernel) rfl
theorem tw1658 : (.selects RX12 yX12_stable yX12_stable : Cond) ∈ TBG := TBG_mem (i := 1658) (by decide +kernel) rfl
set_option maxRecDepth 20000 in
theorem tw1659 : (.code yX12_stable cX12_stable 4 (some .int) : Cond) ∈ TBG := List.mem_filter.mpr ⟨in_t7 _ (List.mem_of_getElem? (i := 109) rfl), rfl⟩
theorem tw1660 : (.methodLink RX12 352 yX12_laysStable : Cond) ∈ TBG := TBG_mem (i := 1660) (by decide +kernel) rfl
theorem tw1662 : (.instanceMethod yX12_laysStable : Cond) ∈ TBG := TBG_mem (i := 1662) (by decide +kernel) rfl
set_option maxRecDepth 20000 in
theorem tw1663 : (.code yX12_laysStable cX12_laysStable 4 (none) : Cond) ∈ TBG := List.mem_filter.mpr ⟨in_t7 _ (List.mem_of_getElem? (i := 113) rfl), rfl⟩
theorem tw1664 : (.methodLink RX12 346 yX12_nextAsked : Cond) ∈ TBG := TBG_mem (i := 1664) (by decide +kernel) rfl
theorem tw1666 : (.instanceMethod yX12_nextAsked : Cond) ∈ TBG := TBG_mem (i := 1666) (by decide +kernel) rfl
set_option maxRecDepth 20000 in
theorem tw1667 : (.code yX12_nextAsked cX12_nextAsked 4 (some .int) : Cond) ∈ TBG := List.mem_filter.mpr ⟨in_t7 _ (List.mem_of_getElem? (i := 117) rfl), rfl⟩
theorem tw1668 : (.methodLink RX12 349 yX12_keeps : Cond) ∈ TBG := TBG_mem (i := 1668) (by decide +kernel) rfl
theorem tw1670 : (.instanceMethod yX12_keeps : Cond) ∈ TBG := TBG_mem (i := 1670) (by decide +kernel) rfl
set_option maxRecDepth 20000 in
theorem tw1671 : (.code yX12_keeps cX12_keeps 5 (some .boolean) : Cond) ∈ TBG := List.mem_filter.mpr ⟨in_t7 _ (List.mem_of_getElem? (i := 121) rfl), rfl⟩
theorem tw1672 : (.methodLink RL 87 yX12_unrest : Cond) ∈ TBG := TBG_mem (i := 1672) (by decide +kernel) rfl
theorem tw1673 : (.instanceMethod yX12_unrest : Cond) ∈ TBG := TBG_mem (i := 1673) (by decide +kernel) rfl
theorem tw1674 : (.selects RX12 yX12_unrest yX12_unrest : Cond) ∈ TBG := TBG_mem (i := 1674) (by decide +kernel) rfl
set_option maxRecDepth 20000 in
theorem tw1675 : (.code yX12_unrest cX12_unrest 6 (some .int) : Cond) ∈ TBG := List.mem_filter.mpr ⟨in_t7 _ (List.mem_of_getElem? (i := 125) rfl), rfl⟩
theorem tw1676 : (.methodLink RX12 355 yX12_likesWed : Cond) ∈ TBG := TBG_mem (i := 1676) (by decide +kernel) rfl
theorem tw1678 : (.instanceMethod yX12_likesWed : Cond) ∈ TBG := TBG_mem (i := 1678) (by decide +kernel) rfl
set_option maxRecDepth 20000 in
theorem tw1679 : (.code yX12_likesWed cX12_likesWed 2 (some .int) : Cond) ∈ TBG := List.mem_filter.mpr ⟨in_t7 _ (List.mem_of_getElem? (i := 129) rfl), rfl⟩
theorem tw1680 : (.methodLink RL 91 yX12_search : Cond) ∈ TBG := TBG_mem (i := 1680) (by decide +kernel) rfl
theorem tw1681 : (.instanceMethod yX12_search : Cond) ∈ TBG := TBG_mem (i := 1681) (by decide +kernel) rfl
theorem tw1682 : (.selects RX12 yX12_search yX12_search : Cond) ∈ TBG := TBG_mem (i := 1682) (by decide +kernel) rfl
set_option maxRecDepth 20000 in
theorem tw1683 : (.code yX12_search cX12_search 8 (some .int) : Cond) ∈ TBG := List.mem_filter.mpr ⟨in_t7 _ (List.mem_of_getElem? (i := 133) rfl), rfl⟩
theorem tw1684 : (.methodLink RX12 358 yX12_areBounds : Cond) ∈ TBG := TBG_mem (i := 1684) (by decide +kernel) rfl
theorem tw1686 : (.instanceMethod yX12_areBounds : Cond) ∈ TBG := TBG_mem (i := 1686) (by decide +kernel) rfl
set_option maxRecDepth 20000 in
theorem tw1687 : (.code yX12_areBounds cX12_areBounds 5 (some .boolean) : Cond) ∈ TBG := List.mem_filter.mpr ⟨in_t7 _ (List.mem_of_getElem? (i := 137) rfl), rfl⟩
theorem tw1688 : (.methodLink RX12 361 yX12_readsRow : Cond) ∈ TBG := TBG_mem (i := 1688) (by decide +kernel) rfl
theorem tw1690 : (.instanceMethod yX12_readsRow : Cond) ∈ TBG := TBG_mem (i := 1690) (by decide +kernel) rfl
set_option maxRecDepth 20000 in
theorem tw1691 : (.code yX12_readsRow cX12_readsRow 6 (some .boolean) : Cond) ∈ TBG := List.mem_filter.mpr ⟨in_t7 _ (List.mem_of_getElem? (i := 141) rfl), rfl⟩
theorem tw1692 : (.methodLink RX12 364 yX12_sumBy : Cond) ∈ TBG := TBG_mem (i := 1692) (by decide +kernel) rfl
theorem tw1694 : (.instanceMethod yX12_sumBy : Cond) ∈ TBG := TBG_mem (i := 1694) (by decide +kernel) rfl
set_option maxRecDepth 20000 in
theorem tw1695 : (.code yX12_sumBy cX12_sumBy 5 (some .int) : Cond) ∈ TBG := List.mem_filter.mpr ⟨in_t7 _ (List.mem_of_getElem? (i := 145) rfl), rfl⟩
theorem tw1696 : (.methodLink RX12 367 yX12_gcd : Cond) ∈ TBG := TBG_mem (i := 1696) (by decide +kernel) rfl
theorem tw1697 : (.static yX12_gcd : Cond) ∈ TBG := TBG_mem (i := 1697) (by decide +kernel) rfl
set_option maxRecDepth 20000 in
theorem tw1698 : (.code yX12_gcd cX12_gcd 5 (some .int) : Cond) ∈ TBG := List.mem_filter.mpr ⟨in_t7 _ (List.mem_of_getElem? (i := 148) rfl), rfl⟩
theorem tw1699 : (.methodLink RL 96 yX12_sanding : Cond) ∈ TBG := TBG_mem (i := 1699) (by decide +kernel) rfl
theorem tw1700 : (.instanceMethod yX12_sanding : Cond) ∈ TBG := TBG_mem (i := 1700) (by decide +kernel) rfl
theorem tw1701 : (.selects RX12 yX12_sanding yX12_sanding : Cond) ∈ TBG := TBG_mem (i := 1701) (by decide +kernel) rfl
set_option maxRecDepth 20000 in
theorem tw1702 : (.code yX12_sanding cX12_sanding 13 (some .int) : Cond) ∈ TBG := List.mem_filter.mpr ⟨in_t7 _ (List.mem_of_getElem? (i := 152) rfl), rfl⟩
theorem tw1703 : (.methodLink RX12 386 yX12_laysWork : Cond) ∈ TBG := TBG_mem (i := 1703) (by decide +kernel) rfl
theorem tw1705 : (.instanceMethod yX12_laysWork : Cond) ∈ TBG := TBG_mem (i := 1705) (by decide +kernel) rfl
set_option maxRecDepth 20000 in
theorem tw1706 : (.code yX12_laysWork cX12_laysWork 7 (none) : Cond) ∈ TBG := List.mem_filter.mpr ⟨in_t7 _ (List.mem_of_getElem? (i := 156) rfl), rfl⟩
theorem tw1707 : (.methodLink RX12 382 yX12_workBy : Cond) ∈ TBG := TBG_mem (i := 1707) (by decide +kernel) rfl
theorem tw1709 : (.instanceMethod yX12_workBy : Cond) ∈ TBG := TBG_mem (i := 1709) (by decide +kernel) rfl
set_option maxRecDepth 20000 in
theorem tw1710 : (.code yX12_workBy cX12_workBy 8 (some .int) : Cond) ∈ TBG := List.mem_filter.mpr ⟨in_t7 _ (List.mem_of_getElem? (i := 160) rfl), rfl⟩
theorem tw1711 : (.methodLink RX12 376 yX12_workAt : Cond) ∈ TBG := TBG_mem (i := 1711) (by decide +kernel) rfl
theorem tw1713 : (.instanceMethod yX12_workAt : Cond) ∈ TBG := TBG_mem (i := 1713) (by decide +kernel) rfl
set_option maxRecDepth 20000 in
theorem tw1714 : (.code yX12_workAt cX12_workAt 4 (some .int) : Cond) ∈ TBG := List.mem_filter.mpr ⟨in_t7 _ (List.mem_of_getElem? (i := 164) rfl), rfl⟩
theorem tw1715 : (.methodLink RX12 389 yX12_laysSanded : Cond) ∈ TBG := TBG_mem (i := 1715) (by decide +kernel) rfl
theorem tw1717 : (.instanceMethod yX12_laysSanded : Cond) ∈ TBG := TBG_mem (i := 1717) (by decide +kernel) rfl
set_option maxRecDepth 20000 in
theorem tw1718 : (.code yX12_laysSanded cX12_laysSanded 7 (none) : Cond) ∈ TBG := List.mem_filter.mpr ⟨in_t7 _ (List.mem_of_getElem? (i := 168) rfl), rfl⟩
theorem tw1719 : (.methodLink RX12 392 yX12_slackOfSanded : Cond) ∈ TBG := TBG_mem (i := 1719) (by decide +kernel) rfl
theorem tw1721 : (.instanceMethod yX12_slackOfSanded : Cond) ∈ TBG := TBG_mem (i := 1721) (by decide +kernel) rfl
set_option maxRecDepth 20000 in
theorem tw1722 : (.code yX12_slackOfSanded cX12_slackOfSanded 4 (some .int) : Cond) ∈ TBG := List.mem_filter.mpr ⟨in_t7 _ (List.mem_of_getElem? (i := 172) rfl), rfl⟩
theorem tw1723 : (.methodLink RL 101 yX12_steaming : Cond) ∈ TBG := TBG_mem (i := 1723) (by decide +kernel) rfl
theorem tw1724 : (.instanceMethod yX12_steaming : Cond) ∈ TBG := TBG_mem (i := 1724) (by decide +kernel) rfl
theorem tw1725 : (.selects RX12 yX12_steaming yX12_steaming : Cond) ∈ TBG := TBG_mem (i := 1725) (by decide +kernel) rfl
set_option maxRecDepth 20000 in
theorem tw1726 : (.code yX12_steaming cX12_steaming 9 (some .int) : Cond) ∈ TBG := List.mem_filter.mpr ⟨in_t7 _ (List.mem_of_getElem? (i := 176) rfl), rfl⟩
theorem tw1727 : (.methodLink RX12 395 yX12_slackSteamed : Cond) ∈ TBG := TBG_mem (i := 1727) (by decide +kernel) rfl
theorem tw1729 : (.instanceMethod yX12_slackSteamed : Cond) ∈ TBG := TBG_mem (i := 1729) (by decide +kernel) rfl
set_option maxRecDepth 20000 in
theorem tw1730 : (.code yX12_slackSteamed cX12_slackSteamed 8 (some .int) : Cond) ∈ TBG := List.mem_filter.mpr ⟨in_t7 _ (List.mem_of_getElem? (i := 180) rfl), rfl⟩
theorem tw1731 : (.methodLink RL 105 yX12_worn : Cond) ∈ TBG := TBG_mem (i := 1731) (by decide +kernel) rfl
theorem tw1732 : (.instanceMethod yX12_worn : Cond) ∈ TBG := TBG_mem (i := 1732) (by decide +kernel) rfl
theorem tw1733 : (.selects RX12 yX12_worn yX12_worn : Cond) ∈ TBG := TBG_mem (i := 1733) (by decide +kernel) rfl
set_option maxRecDepth 20000 in
theorem tw1734 : (.code yX12_worn cX12_worn 8 (some .int) : Cond) ∈ TBG := List.mem_filter.mpr ⟨in_t7 _ (List.mem_of_getElem? (i := 184) rfl), rfl⟩
theorem tw1735 : (.methodLink RL 109 yX12_cutter : Cond) ∈ TBG := TBG_mem (i := 1735) (by decide +kernel) rfl
theorem tw1736 : (.instanceMethod yX12_cutter : Cond) ∈ TBG := TBG_mem (i := 1736) (by decide +kernel) rfl
theorem tw1737 : (.selects RX12 yX12_cutter yX12_cutter : Cond) ∈ TBG := TBG_mem (i := 1737) (by decide +kernel) rfl
set_option maxRecDepth 20000 in
theorem tw1738 : (.code yX12_cutter cX12_cutter 6 (some .int) : Cond) ∈ TBG := List.mem_filter.mpr ⟨in_t7 _ (List.mem_of_getElem? (i := 188) rfl), rfl⟩
theorem tw1739 : (.methodLink RX12 401 yX12_makesAll : Cond) ∈ TBG := TBG_mem (i := 1739) (by decide +kernel) rfl
theorem tw1741 : (.instanceMethod yX12_makesAll : Cond) ∈ TBG := TBG_mem (i := 1741) (by decide +kernel) rfl
set_option maxRecDepth 20000 in
theorem tw1742 : (.code yX12_makesAll cX12_makesAll 4 (some .boolean) : Cond) ∈ TBG := List.mem_filter.mpr ⟨in_t7 _ (List.mem_of_getElem? (i := 192) rfl), rfl⟩
theorem tw1743 : (.methodLink RX12 398 yX12_makes : Cond) ∈ TBG := TBG_mem (i := 1743) (by decide +kernel) rfl
theorem tw1745 : (.instanceMethod yX12_makes : Cond) ∈ TBG := TBG_mem (i := 1745) (by decide +kernel) rfl
set_option maxRecDepth 20000 in
theorem tw1746 : (.code yX12_makes cX12_makes 8 (some .boolean) : Cond) ∈ TBG := List.mem_filter.mpr ⟨in_t7 _ (List.mem_of_getElem? (i := 196) rfl), rfl⟩
theorem tw1747 : (.methodLink RL 113 yX12_copies : Cond) ∈ TBG := TBG_mem (i := 1747) (by decide +kernel) rfl
theorem tw1748 : (.instanceMethod yX12_copies : Cond) ∈ TBG := TBG_mem (i := 1748) (by decide +kernel) rfl
theorem tw1749 : (.selects RX12 yX12_copies yX12_copies : Cond) ∈ TBG := TBG_mem (i := 1749) (by decide +kernel) rfl
set_option maxRecDepth 20000 in
theorem tw1750 : (.code yX12_copies cX12_copies 6 (some .int) : Cond) ∈ TBG := List.mem_filter.mpr ⟨in_t7 _ (List.mem_of_getElem? (i := 200) rfl), rfl⟩
theorem tw1751 : (.methodLink RX12 404 yX12_areSame : Cond) ∈ TBG := TBG_mem (i := 1751) (by decide +kernel) rfl
theorem tw1753 : (.instanceMethod yX12_areSame : Cond) ∈ TBG := TBG_mem (i := 1753) (by decide +kernel) rfl
set_option maxRecDepth 20000 in
theorem tw1754 : (.code yX12_areSame cX12_areSame 4 (some .boolean) : Cond) ∈ TBG := List.mem_filter.mpr ⟨in_t7 _ (List.mem_of_getElem? (i := 204) rfl), rfl⟩
theorem tw1755 : (.methodLink RL 117 yX12_mate : Cond) ∈ TBG := TBG_mem (i := 1755) (by decide +kernel) rfl
theorem tw1756 : (.instanceMethod yX12_mate : Cond) ∈ TBG := TBG_mem (i := 1756) (by decide +kernel) rfl
theorem tw1757 : (.selects RX12 yX12_mate yX12_mate : Cond) ∈ TBG := TBG_mem (i := 1757) (by decide +kernel) rfl
set_option maxRecDepth 20000 in
theorem tw1758 : (.code yX12_mate cX12_mate 3 (some .int) : Cond) ∈ TBG := List.mem_filter.mpr ⟨in_t7 _ (List.mem_of_getElem? (i := 208) rfl), rfl⟩
theorem tw1759 : (.methodLink RL 121 yX12_seed : Cond) ∈ TBG := TBG_mem (i := 1759) (by decide +kernel) rfl
theorem tw1760 : (.instanceMethod yX12_seed : Cond) ∈ TBG := TBG_mem (i := 1760) (by decide +kernel) rfl
theorem tw1761 : (.selects RX12 yX12_seed yX12_seed : Cond) ∈ TBG := TBG_mem (i := 1761) (by decide +kernel) rfl
set_option maxRecDepth 20000 in
theorem tw1762 : (.code yX12_seed cX12_seed 2 (some .boolean) : Cond) ∈ TBG := List.mem_filter.mpr ⟨in_t7 _ (List.mem_of_getElem? (i := 212) rfl), rfl⟩
theorem tw1763 : (.constant RX12 407 (65535) : Cond) ∈ TBG := TBG_mem (i := 1763) (by decide +kernel) rfl
theorem tw1764 : (.methodLink RL 126 yX12_keep : Cond) ∈ TBG := TBG_mem (i := 1764) (by decide +kernel) rfl
theorem tw1765 : (.instanceMethod yX12_keep : Cond) ∈ TBG := TBG_mem (i := 1765) (by decide +kernel) rfl
theorem tw1766 : (.selects RX12 yX12_keep yX12_keep : Cond) ∈ TBG := TBG_mem (i := 1766) (by decide +kernel) rfl
set_option maxRecDepth 20000 in
theorem tw1767 : (.code yX12_keep cX12_keep 1 (some .int) : Cond) ∈ TBG := List.mem_filter.mpr ⟨in_t7 _ (List.mem_of_getElem? (i := 217) rfl), rfl⟩
theorem tw1768 : (.methodLink RL 131 yX12_undo : Cond) ∈ TBG := TBG_mem (i := 1768) (by decide +kernel) rfl
theorem tw1769 : (.instanceMethod yX12_undo : Cond) ∈ TBG := TBG_mem (i := 1769) (by decide +kernel) rfl
theorem tw1770 : (.selects RX12 yX12_undo yX12_undo : Cond) ∈ TBG := TBG_mem (i := 1770) (by decide +kernel) rfl
set_option maxRecDepth 20000 in
theorem tw1771 : (.code yX12_undo cX12_undo 1 (some .boolean) : Cond) ∈ TBG := List.mem_filter.mpr ⟨in_t7 _ (List.mem_of_getElem? (i := 221) rfl), rfl⟩
theorem tw1772 : (.methodLink RL 135 yX12_check : Cond) ∈ TBG := TBG_mem (i := 1772) (by decide +kernel) rfl
theorem tw1773 : (.instanceMethod yX12_check : Cond) ∈ TBG := TBG_mem (i := 1773) (by decide +kernel) rfl
theorem tw1774 : (.selects RX12 yX12_check yX12_check : Cond) ∈ TBG := TBG_mem (i := 1774) (by decide +kernel) rfl
set_option maxRecDepth 20000 in
theorem tw1775 : (.code yX12_check cX12_check 4 (some .int) : Cond) ∈ TBG := List.mem_filter.mpr ⟨in_t7 _ (List.mem_of_getElem? (i := 225) rfl), rfl⟩
theorem tw1776 : (.methodLink RL 139 yX12_count : Cond) ∈ TBG := TBG_mem (i := 1776) (by decide +kernel) rfl
theorem tw1777 : (.instanceMethod yX12_count : Cond) ∈ TBG := TBG_mem (i := 1777) (by decide +kernel) rfl
theorem tw1778 : (.selects RX12 yX12_count yX12_count : Cond) ∈ TBG := TBG_mem (i := 1778) (by decide +kernel) rfl
set_option maxRecDepth 20000 in
theorem tw1779 : (.code yX12_count cX12_count 4 (some .int) : Cond) ∈ TBG := List.mem_filter.mpr ⟨in_t7 _ (List.mem_of_getElem? (i := 229) rfl), rfl⟩
theorem tw1780 : (.fieldLink RJ0 15 "java/lang/String" "coder" "B" : Cond) ∈ TBG := TBG_mem (i := 1780) (by decide +kernel) rfl
theorem tw1781 : (.fieldLink RJ0 9 "java/lang/String" "value" "[B" : Cond) ∈ TBG := TBG_mem (i := 1781) (by decide +kernel) rfl
theorem sh_X0 : ∀ a, shk a = 0 → shn a = 11 := fun a h => (show ∀ a, a < shN → shk a = 0 → shn a = 11 by decide +kernel) a (shk_lt h (by decide)) h
theorem in_X0 : ∀ w ∈ u_ws RX0 TX0 11, w ∈ TBG := by
  intro w hw
  have h := List.all_eq_true.mp (show (u_ws RX0 TX0 11).all (fun w => decide (w ∈ lw_tbl) && goodWord w) = true by decide +kernel) w hw
  simp only [Bool.and_eq_true, decide_eq_true_eq] at h
  exact List.mem_filter.mpr ⟨h.1, h.2⟩
theorem sh_X1 : ∀ a, shk a = 1 → shn a = 4 := fun a h => (show ∀ a, a < shN → shk a = 1 → shn a = 4 by decide +kernel) a (shk_lt h (by decide)) h
theorem in_X1 : ∀ w ∈ u_ws RX1 TX1 4, w ∈ TBG := by
  intro w hw
  have h := List.all_eq_true.mp (show (u_ws RX1 TX1 4).all (fun w => decide (w ∈ lw_tbl) && goodWord w) = true by decide +kernel) w hw
  simp only [Bool.and_eq_true, decide_eq_true_eq] at h
  exact List.mem_filter.mpr ⟨h.1, h.2⟩
theorem sh_X2 : ∀ a, shk a = 2 → shn a = 2 := fun a h => (show ∀ a, a < shN → shk a = 2 → shn a = 2 by decide +kernel) a (shk_lt h (by decide)) h
theorem in_X2 : ∀ w ∈ u_ws RX2 TX2 2, w ∈ TBG := by
  intro w hw
  have h := List.all_eq_true.mp (show (u_ws RX2 TX2 2).all (fun w => decide (w ∈ lw_tbl) && goodWord w) = true by decide +kernel) w hw
  simp only [Bool.and_eq_true, decide_eq_true_eq] at h
  exact List.mem_filter.mpr ⟨h.1, h.2⟩
theorem sh_X3 : ∀ a, shk a = 3 → shn a = 15 := fun a h => (show ∀ a, a < shN → shk a = 3 → shn a = 15 by decide +kernel) a (shk_lt h (by decide)) h
theorem in_X3 : ∀ w ∈ u_ws RX3 TX3 15, w ∈ TBG := by
  intro w hw
  have h := List.all_eq_true.mp (show (u_ws RX3 TX3 15).all (fun w => decide (w ∈ lw_tbl) && goodWord w) = true by decide +kernel) w hw
  simp only [Bool.and_eq_true, decide_eq_true_eq] at h
  exact List.mem_filter.mpr ⟨h.1, h.2⟩
theorem sh_X4 : ∀ a, shk a = 4 → shn a = 7 := fun a h => (show ∀ a, a < shN → shk a = 4 → shn a = 7 by decide +kernel) a (shk_lt h (by decide)) h
theorem in_X4 : ∀ w ∈ u_ws RX4 TX4 7, w ∈ TBG := by
  intro w hw
  have h := List.all_eq_true.mp (show (u_ws RX4 TX4 7).all (fun w => decide (w ∈ lw_tbl) && goodWord w) = true by decide +kernel) w hw
  simp only [Bool.and_eq_true, decide_eq_true_eq] at h
  exact List.mem_filter.mpr ⟨h.1, h.2⟩
theorem sh_X5 : ∀ a, shk a = 5 → shn a = 5 := fun a h => (show ∀ a, a < shN → shk a = 5 → shn a = 5 by decide +kernel) a (shk_lt h (by decide)) h
theorem in_X5 : ∀ w ∈ u_ws RX5 TX5 5, w ∈ TBG := by
  intro w hw
  have h := List.all_eq_true.mp (show (u_ws RX5 TX5 5).all (fun w => decide (w ∈ lw_tbl) && goodWord w) = true by decide +kernel) w hw
  simp only [Bool.and_eq_true, decide_eq_true_eq] at h
  exact List.mem_filter.mpr ⟨h.1, h.2⟩
theorem sh_X6 : ∀ a, shk a = 6 → shn a = 8 := fun a h => (show ∀ a, a < shN → shk a = 6 → shn a = 8 by decide +kernel) a (shk_lt h (by decide)) h
theorem in_X6 : ∀ w ∈ u_ws RX6 TX6 8, w ∈ TBG := by
  intro w hw
  have h := List.all_eq_true.mp (show (u_ws RX6 TX6 8).all (fun w => decide (w ∈ lw_tbl) && goodWord w) = true by decide +kernel) w hw
  simp only [Bool.and_eq_true, decide_eq_true_eq] at h
  exact List.mem_filter.mpr ⟨h.1, h.2⟩
theorem sh_X8 : ∀ a, shk a = 7 → shn a = 11 := fun a h => (show ∀ a, a < shN → shk a = 7 → shn a = 11 by decide +kernel) a (shk_lt h (by decide)) h
theorem in_X8 : ∀ w ∈ u_ws RX8 TX8 11, w ∈ TBG := by
  intro w hw
  have h := List.all_eq_true.mp (show (u_ws RX8 TX8 11).all (fun w => decide (w ∈ lw_tbl) && goodWord w) = true by decide +kernel) w hw
  simp only [Bool.and_eq_true, decide_eq_true_eq] at h
  exact List.mem_filter.mpr ⟨h.1, h.2⟩
theorem sh_X9 : ∀ a, shk a = 8 → shn a = 8 := fun a h => (show ∀ a, a < shN → shk a = 8 → shn a = 8 by decide +kernel) a (shk_lt h (by decide)) h
theorem in_X9 : ∀ w ∈ u_ws RX9 TX9 8, w ∈ TBG := by
  intro w hw
  have h := List.all_eq_true.mp (show (u_ws RX9 TX9 8).all (fun w => decide (w ∈ lw_tbl) && goodWord w) = true by decide +kernel) w hw
  simp only [Bool.and_eq_true, decide_eq_true_eq] at h
  exact List.mem_filter.mpr ⟨h.1, h.2⟩
theorem sh_X10 : ∀ a, shk a = 9 → shn a = 2 := fun a h => (show ∀ a, a < shN → shk a = 9 → shn a = 2 by decide +kernel) a (shk_lt h (by decide)) h
theorem in_X10 : ∀ w ∈ u_ws RX10 TX10 2, w ∈ TBG := by
  intro w hw
  have h := List.all_eq_true.mp (show (u_ws RX10 TX10 2).all (fun w => decide (w ∈ lw_tbl) && goodWord w) = true by decide +kernel) w hw
  simp only [Bool.and_eq_true, decide_eq_true_eq] at h
  exact List.mem_filter.mpr ⟨h.1, h.2⟩
theorem sh_X11 : ∀ a, shk a = 10 → shn a = 15 := fun a h => (show ∀ a, a < shN → shk a = 10 → shn a = 15 by decide +kernel) a (shk_lt h (by decide)) h
theorem in_X11 : ∀ w ∈ u_ws RX11 TX11 15, w ∈ TBG := by
  intro w hw
  have h := List.all_eq_true.mp (show (u_ws RX11 TX11 15).all (fun w => decide (w ∈ lw_tbl) && goodWord w) = true by decide +kernel) w hw
  simp only [Bool.and_eq_true, decide_eq_true_eq] at h
  exact List.mem_filter.mpr ⟨h.1, h.2⟩
theorem sh_X12 : ∀ a, shk a = 11 → shn a = 47 := fun a h => (show ∀ a, a < shN → shk a = 11 → shn a = 47 by decide +kernel) a (shk_lt h (by decide)) h
theorem in_X12 : ∀ w ∈ u_ws RX12 TX12 47, w ∈ TBG := by
  intro w hw
  have h := List.all_eq_true.mp (show (u_ws RX12 TX12 47).all (fun w => decide (w ∈ lw_tbl) && goodWord w) = true by decide +kernel) w hw
  simp only [Bool.and_eq_true, decide_eq_true_eq] at h
  exact List.mem_filter.mpr ⟨h.1, h.2⟩
def pl_X0 : PL := ([(55, 194), (9, 0), (15, 1), (43, 2), (46, 3), (19, 4), (22, 5), (36, 6), (40, 7), (27, 8), (30, 9), (33, 10)], [], [], [])
theorem fo_X0_55_194 : FOK RX0 55 194 := ⟨RX3, TX3, 15, "PuzzleWed$Land", rfl, by decide, by decide, sh_X3, in_X3, tw154, Or.inl rfl, rfl, fun h => by first | rfl | decide +kernel | exact absurd h (by decide), ⟨tyX3, tyX3_ok⟩, nmX3⟩
theorem fo_X0_9_0 : FOK RX0 9 0 := ⟨RX0, TX0, 11, "PuzzleWed$Couples", rfl, by decide, by decide, sh_X0, in_X0, tw386, Or.inl rfl, rfl, fun h => by first | rfl | decide +kernel | exact absurd h (by decide), ⟨tyX0, tyX0_ok⟩, nmX0⟩
theorem fo_X0_15_1 : FOK RX0 15 1 := ⟨RX0, TX0, 11, "PuzzleWed$Couples", rfl, by decide, by decide, sh_X0, in_X0, tw387, Or.inl rfl, rfl, fun h => by first | rfl | decide +kernel | exact absurd h (by decide), ⟨tyX0, tyX0_ok⟩, nmX0⟩
theorem fo_X0_43_2 : FOK RX0 43 2 := ⟨RX0, TX0, 11, "PuzzleWed$Couples", rfl, by decide, by decide, sh_X0, in_X0, tw389, Or.inl rfl, rfl, fun h => by first | rfl | decide +kernel | exact absurd h (by decide), ⟨tyX0, tyX0_ok⟩, nmX0⟩
theorem fo_X0_46_3 : FOK RX0 46 3 := ⟨RX0, TX0, 11, "PuzzleWed$Couples", rfl, by decide, by decide, sh_X0, in_X0, tw391, Or.inl rfl, rfl, fun h => by first | rfl | decide +kernel | exact absurd h (by decide), ⟨tyX0, tyX0_ok⟩, nmX0⟩
theorem fo_X0_19_4 : FOK RX0 19 4 := ⟨RX0, TX0, 11, "PuzzleWed$Couples", rfl, by decide, by decide, sh_X0, in_X0, tw393, Or.inl rfl, rfl, fun h => by first | rfl | decide +kernel | exact absurd h (by decide), ⟨tyX0, tyX0_ok⟩, nmX0⟩
theorem fo_X0_22_5 : FOK RX0 22 5 := ⟨RX0, TX0, 11, "PuzzleWed$Couples", rfl, by decide, by decide, sh_X0, in_X0, tw394, Or.inl rfl, rfl, fun h => by first | rfl | decide +kernel | exact absurd h (by decide), ⟨tyX0, tyX0_ok⟩, nmX0⟩
theorem fo_X0_36_6 : FOK RX0 36 6 := ⟨RX0, TX0, 11, "PuzzleWed$Couples", rfl, by decide, by decide, sh_X0, in_X0, tw395, Or.inl rfl, rfl, fun h => by first | rfl | decide +kernel | exact absurd h (by decide), ⟨tyX0, tyX0_ok⟩, nmX0⟩
theorem fo_X0_40_7 : FOK RX0 40 7 := ⟨RX0, TX0, 11, "PuzzleWed$Couples", rfl, by decide, by decide, sh_X0, in_X0, tw396, Or.inl rfl, rfl, fun h => by first | rfl | decide +kernel | exact absurd h (by decide), ⟨tyX0, tyX0_ok⟩, nmX0⟩
theorem fo_X0_27_8 : FOK RX0 27 8 := ⟨RX0, TX0, 11, "PuzzleWed$Couples", rfl, by decide, by decide, sh_X0, in_X0, tw397, Or.inl rfl, rfl, fun h => by first | rfl | decide +kernel | exact absurd h (by decide), ⟨tyX0, tyX0_ok⟩, nmX0⟩
theorem fo_X0_30_9 : FOK RX0 30 9 := ⟨RX0, TX0, 11, "PuzzleWed$Couples", rfl, by decide, by decide, sh_X0, in_X0, tw398, Or.inl rfl, rfl, fun h => by first | rfl | decide +kernel | exact absurd h (by decide), ⟨tyX0, tyX0_ok⟩, nmX0⟩
theorem fo_X0_33_10 : FOK RX0 33 10 := ⟨RX0, TX0, 11, "PuzzleWed$Couples", rfl, by decide, by decide, sh_X0, in_X0, tw399, Or.inl rfl, rfl, fun h => by first | rfl | decide +kernel | exact absurd h (by decide), ⟨tyX0, tyX0_ok⟩, nmX0⟩
theorem pk_X0 : PLOK RX0 pl_X0 := ⟨List.forall_mem_cons.mpr ⟨fo_X0_55_194, List.forall_mem_cons.mpr ⟨fo_X0_9_0, List.forall_mem_cons.mpr ⟨fo_X0_15_1, List.forall_mem_cons.mpr ⟨fo_X0_43_2, List.forall_mem_cons.mpr ⟨fo_X0_46_3, List.forall_mem_cons.mpr ⟨fo_X0_19_4, List.forall_mem_cons.mpr ⟨fo_X0_22_5, List.forall_mem_cons.mpr ⟨fo_X0_36_6, List.forall_mem_cons.mpr ⟨fo_X0_40_7, List.forall_mem_cons.mpr ⟨fo_X0_27_8, List.forall_mem_cons.mpr ⟨fo_X0_30_9, List.forall_mem_cons.mpr ⟨fo_X0_33_10, List.forall_mem_nil _⟩⟩⟩⟩⟩⟩⟩⟩⟩⟩⟩⟩, List.forall_mem_nil _, List.forall_mem_nil _, List.forall_mem_nil _⟩
def pl_X1 : PL := ([(81, 194), (51, 195), (88, 196), (105, 197), (54, 202), (48, 203), (40, 204), (25, 205), (9, 64), (15, 65), (19, 66), (22, 67)], [], [], [])
theorem fo_X1_81_194 : FOK RX1 81 194 := ⟨RX3, TX3, 15, "PuzzleWed$Land", rfl, by decide, by decide, sh_X3, in_X3, tw156, Or.inl rfl, rfl, fun h => by first | rfl | decide +kernel | exact absurd h (by decide), ⟨tyX3, tyX3_ok⟩, nmX3⟩
theorem fo_X1_51_195 : FOK RX1 51 195 := ⟨RX3, TX3, 15, "PuzzleWed$Land", rfl, by decide, by decide, sh_X3, in_X3, tw160, Or.inl rfl, rfl, fun h => by first | rfl | decide +kernel | exact absurd h (by decide), ⟨tyX3, tyX3_ok⟩, nmX3⟩
theorem fo_X1_88_196 : FOK RX1 88 196 := ⟨RX3, TX3, 15, "PuzzleWed$Land", rfl, by decide, by decide, sh_X3, in_X3, tw163, Or.inl rfl, rfl, fun h => by first | rfl | decide +kernel | exact absurd h (by decide), ⟨tyX3, tyX3_ok⟩, nmX3⟩
theorem fo_X1_105_197 : FOK RX1 105 197 := ⟨RX3, TX3, 15, "PuzzleWed$Land", rfl, by decide, by decide, sh_X3, in_X3, tw167, Or.inl rfl, rfl, fun h => by first | rfl | decide +kernel | exact absurd h (by decide), ⟨tyX3, tyX3_ok⟩, nmX3⟩
theorem fo_X1_54_202 : FOK RX1 54 202 := ⟨RX3, TX3, 15, "PuzzleWed$Land", rfl, by decide, by decide, sh_X3, in_X3, tw182, Or.inl rfl, rfl, fun h => by first | rfl | decide +kernel | exact absurd h (by decide), ⟨tyX3, tyX3_ok⟩, nmX3⟩
theorem fo_X1_48_203 : FOK RX1 48 203 := ⟨RX3, TX3, 15, "PuzzleWed$Land", rfl, by decide, by decide, sh_X3, in_X3, tw185, Or.inl rfl, rfl, fun h => by first | rfl | decide +kernel | exact absurd h (by decide), ⟨tyX3, tyX3_ok⟩, nmX3⟩
theorem fo_X1_40_204 : FOK RX1 40 204 := ⟨RX3, TX3, 15, "PuzzleWed$Land", rfl, by decide, by decide, sh_X3, in_X3, tw188, Or.inl rfl, rfl, fun h => by first | rfl | decide +kernel | exact absurd h (by decide), ⟨tyX3, tyX3_ok⟩, nmX3⟩
theorem fo_X1_25_205 : FOK RX1 25 205 := ⟨RX3, TX3, 15, "PuzzleWed$Land", rfl, by decide, by decide, sh_X3, in_X3, tw190, Or.inl rfl, rfl, fun h => by first | rfl | decide +kernel | exact absurd h (by decide), ⟨tyX3, tyX3_ok⟩, nmX3⟩
theorem fo_X1_9_64 : FOK RX1 9 64 := ⟨RX1, TX1, 4, "PuzzleWed$Course", rfl, by decide, by decide, sh_X1, in_X1, tw363, Or.inl rfl, rfl, fun h => by first | rfl | decide +kernel | exact absurd h (by decide), ⟨tyX1, tyX1_ok⟩, nmX1⟩
theorem fo_X1_15_65 : FOK RX1 15 65 := ⟨RX1, TX1, 4, "PuzzleWed$Course", rfl, by decide, by decide, sh_X1, in_X1, tw364, Or.inl rfl, rfl, fun h => by first | rfl | decide +kernel | exact absurd h (by decide), ⟨tyX1, tyX1_ok⟩, nmX1⟩
theorem fo_X1_19_66 : FOK RX1 19 66 := ⟨RX1, TX1, 4, "PuzzleWed$Course", rfl, by decide, by decide, sh_X1, in_X1, tw366, Or.inl rfl, rfl, fun h => by first | rfl | decide +kernel | exact absurd h (by decide), ⟨tyX1, tyX1_ok⟩, nmX1⟩
theorem fo_X1_22_67 : FOK RX1 22 67 := ⟨RX1, TX1, 4, "PuzzleWed$Course", rfl, by decide, by decide, sh_X1, in_X1, tw368, Or.inl rfl, rfl, fun h => by first | rfl | decide +kernel | exact absurd h (by decide), ⟨tyX1, tyX1_ok⟩, nmX1⟩
theorem pk_X1 : PLOK RX1 pl_X1 := ⟨List.forall_mem_cons.mpr ⟨fo_X1_81_194, List.forall_mem_cons.mpr ⟨fo_X1_51_195, List.forall_mem_cons.mpr ⟨fo_X1_88_196, List.forall_mem_cons.mpr ⟨fo_X1_105_197, List.forall_mem_cons.mpr ⟨fo_X1_54_202, List.forall_mem_cons.mpr ⟨fo_X1_48_203, List.forall_mem_cons.mpr ⟨fo_X1_40_204, List.forall_mem_cons.mpr ⟨fo_X1_25_205, List.forall_mem_cons.mpr ⟨fo_X1_9_64, List.forall_mem_cons.mpr ⟨fo_X1_15_65, List.forall_mem_cons.mpr ⟨fo_X1_19_66, List.forall_mem_cons.mpr ⟨fo_X1_22_67, List.forall_mem_nil _⟩⟩⟩⟩⟩⟩⟩⟩⟩⟩⟩⟩, List.forall_mem_nil _, List.forall_mem_nil _, List.forall_mem_nil _⟩
def pl_X2 : PL := ([(70, 194), (109, 195), (67, 196), (115, 197), (25, 199), (38, 200), (30, 201), (112, 205), (83, 257), (93, 258), (86, 259), (77, 262), (9, 128), (15, 129)], [], [], [])
theorem fo_X2_70_194 : FOK RX2 70 194 := ⟨RX3, TX3, 15, "PuzzleWed$Land", rfl, by decide, by decide, sh_X3, in_X3, tw157, Or.inl rfl, rfl, fun h => by first | rfl | decide +kernel | exact absurd h (by decide), ⟨tyX3, tyX3_ok⟩, nmX3⟩
theorem fo_X2_109_195 : FOK RX2 109 195 := ⟨RX3, TX3, 15, "PuzzleWed$Land", rfl, by decide, by decide, sh_X3, in_X3, tw161, Or.inl rfl, rfl, fun h => by first | rfl | decide +kernel | exact absurd h (by decide), ⟨tyX3, tyX3_ok⟩, nmX3⟩
theorem fo_X2_67_196 : FOK RX2 67 196 := ⟨RX3, TX3, 15, "PuzzleWed$Land", rfl, by decide, by decide, sh_X3, in_X3, tw164, Or.inl rfl, rfl, fun h => by first | rfl | decide +kernel | exact absurd h (by decide), ⟨tyX3, tyX3_ok⟩, nmX3⟩
theorem fo_X2_115_197 : FOK RX2 115 197 := ⟨RX3, TX3, 15, "PuzzleWed$Land", rfl, by decide, by decide, sh_X3, in_X3, tw168, Or.inl rfl, rfl, fun h => by first | rfl | decide +kernel | exact absurd h (by decide), ⟨tyX3, tyX3_ok⟩, nmX3⟩
theorem fo_X2_25_199 : FOK RX2 25 199 := ⟨RX3, TX3, 15, "PuzzleWed$Land", rfl, by decide, by decide, sh_X3, in_X3, tw173, Or.inl rfl, rfl, fun h => by first | rfl | decide +kernel | exact absurd h (by decide), ⟨tyX3, tyX3_ok⟩, nmX3⟩
theorem fo_X2_38_200 : FOK RX2 38 200 := ⟨RX3, TX3, 15, "PuzzleWed$Land", rfl, by decide, by decide, sh_X3, in_X3, tw177, Or.inl rfl, rfl, fun h => by first | rfl | decide +kernel | exact absurd h (by decide), ⟨tyX3, tyX3_ok⟩, nmX3⟩
theorem fo_X2_30_201 : FOK RX2 30 201 := ⟨RX3, TX3, 15, "PuzzleWed$Land", rfl, by decide, by decide, sh_X3, in_X3, tw179, Or.inl rfl, rfl, fun h => by first | rfl | decide +kernel | exact absurd h (by decide), ⟨tyX3, tyX3_ok⟩, nmX3⟩
theorem fo_X2_112_205 : FOK RX2 112 205 := ⟨RX3, TX3, 15, "PuzzleWed$Land", rfl, by decide, by decide, sh_X3, in_X3, tw191, Or.inl rfl, rfl, fun h => by first | rfl | decide +kernel | exact absurd h (by decide), ⟨tyX3, tyX3_ok⟩, nmX3⟩
theorem fo_X2_83_257 : FOK RX2 83 257 := ⟨RX4, TX4, 7, "PuzzleWed$Law", rfl, by decide, by decide, sh_X4, in_X4, tw255, Or.inl rfl, rfl, fun h => by first | rfl | decide +kernel | exact absurd h (by decide), ⟨tyX4, tyX4_ok⟩, nmX4⟩
theorem fo_X2_93_258 : FOK RX2 93 258 := ⟨RX4, TX4, 7, "PuzzleWed$Law", rfl, by decide, by decide, sh_X4, in_X4, tw258, Or.inl rfl, rfl, fun h => by first | rfl | decide +kernel | exact absurd h (by decide), ⟨tyX4, tyX4_ok⟩, nmX4⟩
theorem fo_X2_86_259 : FOK RX2 86 259 := ⟨RX4, TX4, 7, "PuzzleWed$Law", rfl, by decide, by decide, sh_X4, in_X4, tw261, Or.inl rfl, rfl, fun h => by first | rfl | decide +kernel | exact absurd h (by decide), ⟨tyX4, tyX4_ok⟩, nmX4⟩
theorem fo_X2_77_262 : FOK RX2 77 262 := ⟨RX4, TX4, 7, "PuzzleWed$Law", rfl, by decide, by decide, sh_X4, in_X4, tw268, Or.inl rfl, rfl, fun h => by first | rfl | decide +kernel | exact absurd h (by decide), ⟨tyX4, tyX4_ok⟩, nmX4⟩
theorem fo_X2_9_128 : FOK RX2 9 128 := ⟨RX2, TX2, 2, "PuzzleWed$Judge", rfl, by decide, by decide, sh_X2, in_X2, tw350, Or.inl rfl, rfl, fun h => by first | rfl | decide +kernel | exact absurd h (by decide), ⟨tyX2, tyX2_ok⟩, nmX2⟩
theorem fo_X2_15_129 : FOK RX2 15 129 := ⟨RX2, TX2, 2, "PuzzleWed$Judge", rfl, by decide, by decide, sh_X2, in_X2, tw351, Or.inl rfl, rfl, fun h => by first | rfl | decide +kernel | exact absurd h (by decide), ⟨tyX2, tyX2_ok⟩, nmX2⟩
theorem pk_X2 : PLOK RX2 pl_X2 := ⟨List.forall_mem_cons.mpr ⟨fo_X2_70_194, List.forall_mem_cons.mpr ⟨fo_X2_109_195, List.forall_mem_cons.mpr ⟨fo_X2_67_196, List.forall_mem_cons.mpr ⟨fo_X2_115_197, List.forall_mem_cons.mpr ⟨fo_X2_25_199, List.forall_mem_cons.mpr ⟨fo_X2_38_200, List.forall_mem_cons.mpr ⟨fo_X2_30_201, List.forall_mem_cons.mpr ⟨fo_X2_112_205, List.forall_mem_cons.mpr ⟨fo_X2_83_257, List.forall_mem_cons.mpr ⟨fo_X2_93_258, List.forall_mem_cons.mpr ⟨fo_X2_86_259, List.forall_mem_cons.mpr ⟨fo_X2_77_262, List.forall_mem_cons.mpr ⟨fo_X2_9_128, List.forall_mem_cons.mpr ⟨fo_X2_15_129, List.forall_mem_nil _⟩⟩⟩⟩⟩⟩⟩⟩⟩⟩⟩⟩⟩⟩, List.forall_mem_nil _, List.forall_mem_nil _, List.forall_mem_nil _⟩
def pl_X3 : PL := ([(55, 192), (58, 193), (9, 194), (15, 195), (18, 196), (21, 197), (24, 198), (27, 199), (30, 200), (35, 201), (38, 202), (41, 203), (44, 204), (75, 205), (47, 206)], [(74, 65535)], [], [])
theorem fo_X3_55_192 : FOK RX3 55 192 := ⟨RX3, TX3, 15, "PuzzleWed$Land", rfl, by decide, by decide, sh_X3, in_X3, tw149, Or.inl rfl, rfl, fun h => by first | rfl | decide +kernel | exact absurd h (by decide), ⟨tyX3, tyX3_ok⟩, nmX3⟩
theorem fo_X3_58_193 : FOK RX3 58 193 := ⟨RX3, TX3, 15, "PuzzleWed$Land", rfl, by decide, by decide, sh_X3, in_X3, tw152, Or.inl rfl, rfl, fun h => by first | rfl | decide +kernel | exact absurd h (by decide), ⟨tyX3, tyX3_ok⟩, nmX3⟩
theorem fo_X3_9_194 : FOK RX3 9 194 := ⟨RX3, TX3, 15, "PuzzleWed$Land", rfl, by decide, by decide, sh_X3, in_X3, tw153, Or.inl rfl, rfl, fun h => by first | rfl | decide +kernel | exact absurd h (by decide), ⟨tyX3, tyX3_ok⟩, nmX3⟩
theorem fo_X3_15_195 : FOK RX3 15 195 := ⟨RX3, TX3, 15, "PuzzleWed$Land", rfl, by decide, by decide, sh_X3, in_X3, tw158, Or.inl rfl, rfl, fun h => by first | rfl | decide +kernel | exact absurd h (by decide), ⟨tyX3, tyX3_ok⟩, nmX3⟩
theorem fo_X3_18_196 : FOK RX3 18 196 := ⟨RX3, TX3, 15, "PuzzleWed$Land", rfl, by decide, by decide, sh_X3, in_X3, tw162, Or.inl rfl, rfl, fun h => by first | rfl | decide +kernel | exact absurd h (by decide), ⟨tyX3, tyX3_ok⟩, nmX3⟩
theorem fo_X3_21_197 : FOK RX3 21 197 := ⟨RX3, TX3, 15, "PuzzleWed$Land", rfl, by decide, by decide, sh_X3, in_X3, tw166, Or.inl rfl, rfl, fun h => by first | rfl | decide +kernel | exact absurd h (by decide), ⟨tyX3, tyX3_ok⟩, nmX3⟩
theorem fo_X3_24_198 : FOK RX3 24 198 := ⟨RX3, TX3, 15, "PuzzleWed$Land", rfl, by decide, by decide, sh_X3, in_X3, tw170, Or.inl rfl, rfl, fun h => by first | rfl | decide +kernel | exact absurd h (by decide), ⟨tyX3, tyX3_ok⟩, nmX3⟩
theorem fo_X3_27_199 : FOK RX3 27 199 := ⟨RX3, TX3, 15, "PuzzleWed$Land", rfl, by decide, by decide, sh_X3, in_X3, tw172, Or.inl rfl, rfl, fun h => by first | rfl | decide +kernel | exact absurd h (by decide), ⟨tyX3, tyX3_ok⟩, nmX3⟩
theorem fo_X3_30_200 : FOK RX3 30 200 := ⟨RX3, TX3, 15, "PuzzleWed$Land", rfl, by decide, by decide, sh_X3, in_X3, tw175, Or.inl rfl, rfl, fun h => by first | rfl | decide +kernel | exact absurd h (by decide), ⟨tyX3, tyX3_ok⟩, nmX3⟩
theorem fo_X3_35_201 : FOK RX3 35 201 := ⟨RX3, TX3, 15, "PuzzleWed$Land", rfl, by decide, by decide, sh_X3, in_X3, tw178, Or.inl rfl, rfl, fun h => by first | rfl | decide +kernel | exact absurd h (by decide), ⟨tyX3, tyX3_ok⟩, nmX3⟩
theorem fo_X3_38_202 : FOK RX3 38 202 := ⟨RX3, TX3, 15, "PuzzleWed$Land", rfl, by decide, by decide, sh_X3, in_X3, tw181, Or.inl rfl, rfl, fun h => by first | rfl | decide +kernel | exact absurd h (by decide), ⟨tyX3, tyX3_ok⟩, nmX3⟩
theorem fo_X3_41_203 : FOK RX3 41 203 := ⟨RX3, TX3, 15, "PuzzleWed$Land", rfl, by decide, by decide, sh_X3, in_X3, tw184, Or.inl rfl, rfl, fun h => by first | rfl | decide +kernel | exact absurd h (by decide), ⟨tyX3, tyX3_ok⟩, nmX3⟩
theorem fo_X3_44_204 : FOK RX3 44 204 := ⟨RX3, TX3, 15, "PuzzleWed$Land", rfl, by decide, by decide, sh_X3, in_X3, tw187, Or.inl rfl, rfl, fun h => by first | rfl | decide +kernel | exact absurd h (by decide), ⟨tyX3, tyX3_ok⟩, nmX3⟩
theorem fo_X3_75_205 : FOK RX3 75 205 := ⟨RX3, TX3, 15, "PuzzleWed$Land", rfl, by decide, by decide, sh_X3, in_X3, tw192, Or.inl rfl, rfl, fun h => by first | rfl | decide +kernel | exact absurd h (by decide), ⟨tyX3, tyX3_ok⟩, nmX3⟩
theorem fo_X3_47_206 : FOK RX3 47 206 := ⟨RX3, TX3, 15, "PuzzleWed$Land", rfl, by decide, by decide, sh_X3, in_X3, tw194, Or.inl rfl, rfl, fun h => by first | rfl | decide +kernel | exact absurd h (by decide), ⟨tyX3, tyX3_ok⟩, nmX3⟩
theorem pk_X3 : PLOK RX3 pl_X3 := ⟨List.forall_mem_cons.mpr ⟨fo_X3_55_192, List.forall_mem_cons.mpr ⟨fo_X3_58_193, List.forall_mem_cons.mpr ⟨fo_X3_9_194, List.forall_mem_cons.mpr ⟨fo_X3_15_195, List.forall_mem_cons.mpr ⟨fo_X3_18_196, List.forall_mem_cons.mpr ⟨fo_X3_21_197, List.forall_mem_cons.mpr ⟨fo_X3_24_198, List.forall_mem_cons.mpr ⟨fo_X3_27_199, List.forall_mem_cons.mpr ⟨fo_X3_30_200, List.forall_mem_cons.mpr ⟨fo_X3_35_201, List.forall_mem_cons.mpr ⟨fo_X3_38_202, List.forall_mem_cons.mpr ⟨fo_X3_41_203, List.forall_mem_cons.mpr ⟨fo_X3_44_204, List.forall_mem_cons.mpr ⟨fo_X3_75_205, List.forall_mem_cons.mpr ⟨fo_X3_47_206, List.forall_mem_nil _⟩⟩⟩⟩⟩⟩⟩⟩⟩⟩⟩⟩⟩⟩⟩, List.forall_mem_cons.mpr ⟨tw936, List.forall_mem_nil _⟩, List.forall_mem_nil _, List.forall_mem_nil _⟩
def pl_X4 : PL := ([(11, 256), (15, 257), (18, 258), (21, 259), (24, 260), (27, 261), (37, 262)], [], [], [])
theorem fo_X4_11_256 : FOK RX4 11 256 := ⟨RX4, TX4, 7, "PuzzleWed$Law", rfl, by decide, by decide, sh_X4, in_X4, tw251, Or.inl rfl, rfl, fun h => by first | rfl | decide +kernel | exact absurd h (by decide), ⟨tyX4, tyX4_ok⟩, nmX4⟩
theorem fo_X4_15_257 : FOK RX4 15 257 := ⟨RX4, TX4, 7, "PuzzleWed$Law", rfl, by decide, by decide, sh_X4, in_X4, tw253, Or.inl rfl, rfl, fun h => by first | rfl | decide +kernel | exact absurd h (by decide), ⟨tyX4, tyX4_ok⟩, nmX4⟩
theorem fo_X4_18_258 : FOK RX4 18 258 := ⟨RX4, TX4, 7, "PuzzleWed$Law", rfl, by decide, by decide, sh_X4, in_X4, tw256, Or.inl rfl, rfl, fun h => by first | rfl | decide +kernel | exact absurd h (by decide), ⟨tyX4, tyX4_ok⟩, nmX4⟩
theorem fo_X4_21_259 : FOK RX4 21 259 := ⟨RX4, TX4, 7, "PuzzleWed$Law", rfl, by decide, by decide, sh_X4, in_X4, tw259, Or.inl rfl, rfl, fun h => by first | rfl | decide +kernel | exact absurd h (by decide), ⟨tyX4, tyX4_ok⟩, nmX4⟩
theorem fo_X4_24_260 : FOK RX4 24 260 := ⟨RX4, TX4, 7, "PuzzleWed$Law", rfl, by decide, by decide, sh_X4, in_X4, tw262, Or.inl rfl, rfl, fun h => by first | rfl | decide +kernel | exact absurd h (by decide), ⟨tyX4, tyX4_ok⟩, nmX4⟩
theorem fo_X4_27_261 : FOK RX4 27 261 := ⟨RX4, TX4, 7, "PuzzleWed$Law", rfl, by decide, by decide, sh_X4, in_X4, tw263, Or.inl rfl, rfl, fun h => by first | rfl | decide +kernel | exact absurd h (by decide), ⟨tyX4, tyX4_ok⟩, nmX4⟩
theorem fo_X4_37_262 : FOK RX4 37 262 := ⟨RX4, TX4, 7, "PuzzleWed$Law", rfl, by decide, by decide, sh_X4, in_X4, tw266, Or.inl rfl, rfl, fun h => by first | rfl | decide +kernel | exact absurd h (by decide), ⟨tyX4, tyX4_ok⟩, nmX4⟩
theorem pk_X4 : PLOK RX4 pl_X4 := ⟨List.forall_mem_cons.mpr ⟨fo_X4_11_256, List.forall_mem_cons.mpr ⟨fo_X4_15_257, List.forall_mem_cons.mpr ⟨fo_X4_18_258, List.forall_mem_cons.mpr ⟨fo_X4_21_259, List.forall_mem_cons.mpr ⟨fo_X4_24_260, List.forall_mem_cons.mpr ⟨fo_X4_27_261, List.forall_mem_cons.mpr ⟨fo_X4_37_262, List.forall_mem_nil _⟩⟩⟩⟩⟩⟩⟩, List.forall_mem_nil _, List.forall_mem_nil _, List.forall_mem_nil _⟩
def pl_X5 : PL := ([(92, 256), (54, 257), (58, 258), (67, 259), (19, 261), (25, 262), (9, 324), (76, 321), (43, 322)], [], [], [(46, 0), (108, 1)])
theorem fo_X5_92_256 : FOK RX5 92 256 := ⟨RX4, TX4, 7, "PuzzleWed$Law", rfl, by decide, by decide, sh_X4, in_X4, tw252, Or.inl rfl, rfl, fun h => by first | rfl | decide +kernel | exact absurd h (by decide), ⟨tyX4, tyX4_ok⟩, nmX4⟩
theorem fo_X5_54_257 : FOK RX5 54 257 := ⟨RX4, TX4, 7, "PuzzleWed$Law", rfl, by decide, by decide, sh_X4, in_X4, tw254, Or.inl rfl, rfl, fun h => by first | rfl | decide +kernel | exact absurd h (by decide), ⟨tyX4, tyX4_ok⟩, nmX4⟩
theorem fo_X5_58_258 : FOK RX5 58 258 := ⟨RX4, TX4, 7, "PuzzleWed$Law", rfl, by decide, by decide, sh_X4, in_X4, tw257, Or.inl rfl, rfl, fun h => by first | rfl | decide +kernel | exact absurd h (by decide), ⟨tyX4, tyX4_ok⟩, nmX4⟩
theorem fo_X5_67_259 : FOK RX5 67 259 := ⟨RX4, TX4, 7, "PuzzleWed$Law", rfl, by decide, by decide, sh_X4, in_X4, tw260, Or.inl rfl, rfl, fun h => by first | rfl | decide +kernel | exact absurd h (by decide), ⟨tyX4, tyX4_ok⟩, nmX4⟩
theorem fo_X5_19_261 : FOK RX5 19 261 := ⟨RX4, TX4, 7, "PuzzleWed$Law", rfl, by decide, by decide, sh_X4, in_X4, tw264, Or.inl rfl, rfl, fun h => by first | rfl | decide +kernel | exact absurd h (by decide), ⟨tyX4, tyX4_ok⟩, nmX4⟩
theorem fo_X5_25_262 : FOK RX5 25 262 := ⟨RX4, TX4, 7, "PuzzleWed$Law", rfl, by decide, by decide, sh_X4, in_X4, tw265, Or.inl rfl, rfl, fun h => by first | rfl | decide +kernel | exact absurd h (by decide), ⟨tyX4, tyX4_ok⟩, nmX4⟩
theorem fo_X5_9_324 : FOK RX5 9 324 := ⟨RX5, TX5, 5, "PuzzleWed$LawReader", rfl, by decide, by decide, sh_X5, in_X5, tw293, Or.inl rfl, rfl, fun h => by first | rfl | decide +kernel | exact absurd h (by decide), ⟨tyX5, tyX5_ok⟩, nmX5⟩
theorem fo_X5_76_321 : FOK RX5 76 321 := ⟨RX5, TX5, 5, "PuzzleWed$LawReader", rfl, by decide, by decide, sh_X5, in_X5, tw296, Or.inr tw297, rfl, fun h => by first | rfl | decide +kernel | exact absurd h (by decide), ⟨tyX5, tyX5_ok⟩, nmX5⟩
theorem fo_X5_43_322 : FOK RX5 43 322 := ⟨RX5, TX5, 5, "PuzzleWed$LawReader", rfl, by decide, by decide, sh_X5, in_X5, tw301, Or.inr tw302, rfl, fun h => by first | rfl | decide +kernel | exact absurd h (by decide), ⟨tyX5, tyX5_ok⟩, nmX5⟩
theorem pk_X5 : PLOK RX5 pl_X5 := ⟨List.forall_mem_cons.mpr ⟨fo_X5_92_256, List.forall_mem_cons.mpr ⟨fo_X5_54_257, List.forall_mem_cons.mpr ⟨fo_X5_58_258, List.forall_mem_cons.mpr ⟨fo_X5_67_259, List.forall_mem_cons.mpr ⟨fo_X5_19_261, List.forall_mem_cons.mpr ⟨fo_X5_25_262, List.forall_mem_cons.mpr ⟨fo_X5_9_324, List.forall_mem_cons.mpr ⟨fo_X5_76_321, List.forall_mem_cons.mpr ⟨fo_X5_43_322, List.forall_mem_nil _⟩⟩⟩⟩⟩⟩⟩⟩⟩, List.forall_mem_nil _, List.forall_mem_nil _, List.forall_mem_cons.mpr ⟨⟨"flwcb", rfl⟩, List.forall_mem_cons.mpr ⟨⟨"ijsxyuvdapq", rfl⟩, List.forall_mem_nil _⟩⟩⟩
def pl_X6 : PL := ([(23, 386), (9, 388), (19, 389), (55, 390), (34, 391)], [], [], [])
theorem fo_X6_23_386 : FOK RX6 23 386 := ⟨RX6, TX6, 8, "PuzzleWed$ListReader", rfl, by decide, by decide, sh_X6, in_X6, tw299, Or.inr tw300, rfl, fun h => by first | rfl | decide +kernel | exact absurd h (by decide), ⟨tyX6, tyX6_ok⟩, nmX6⟩
theorem fo_X6_9_388 : FOK RX6 9 388 := ⟨RX6, TX6, 8, "PuzzleWed$ListReader", rfl, by decide, by decide, sh_X6, in_X6, tw325, Or.inl rfl, rfl, fun h => by first | rfl | decide +kernel | exact absurd h (by decide), ⟨tyX6, tyX6_ok⟩, nmX6⟩
theorem fo_X6_19_389 : FOK RX6 19 389 := ⟨RX6, TX6, 8, "PuzzleWed$ListReader", rfl, by decide, by decide, sh_X6, in_X6, tw327, Or.inl rfl, rfl, fun h => by first | rfl | decide +kernel | exact absurd h (by decide), ⟨tyX6, tyX6_ok⟩, nmX6⟩
theorem fo_X6_55_390 : FOK RX6 55 390 := ⟨RX6, TX6, 8, "PuzzleWed$ListReader", rfl, by decide, by decide, sh_X6, in_X6, tw329, Or.inl rfl, rfl, fun h => by first | rfl | decide +kernel | exact absurd h (by decide), ⟨tyX6, tyX6_ok⟩, nmX6⟩
theorem fo_X6_34_391 : FOK RX6 34 391 := ⟨RX6, TX6, 8, "PuzzleWed$ListReader", rfl, by decide, by decide, sh_X6, in_X6, tw330, Or.inl rfl, rfl, fun h => by first | rfl | decide +kernel | exact absurd h (by decide), ⟨tyX6, tyX6_ok⟩, nmX6⟩
theorem pk_X6 : PLOK RX6 pl_X6 := ⟨List.forall_mem_cons.mpr ⟨fo_X6_23_386, List.forall_mem_cons.mpr ⟨fo_X6_9_388, List.forall_mem_cons.mpr ⟨fo_X6_19_389, List.forall_mem_cons.mpr ⟨fo_X6_55_390, List.forall_mem_cons.mpr ⟨fo_X6_34_391, List.forall_mem_nil _⟩⟩⟩⟩⟩, List.forall_mem_nil _, List.forall_mem_nil _, List.forall_mem_nil _⟩
def pl_X7 : PL := ([(25, 576), (9, 320), (9, 384), (15, 321), (15, 385), (19, 322), (19, 386), (22, 323), (22, 387)], [], [], [])
theorem fo_X7_25_576 : FOK RX7 25 576 := ⟨RX10, TX10, 2, "PuzzleWed$Tape", rfl, by decide, by decide, sh_X10, in_X10, tw236, Or.inl rfl, rfl, fun h => by first | rfl | decide +kernel | exact absurd h (by decide), ⟨tyX10, tyX10_ok⟩, nmX10⟩
theorem fo_X7_9_320 : FOK RX7 9 320 := ⟨RX5, TX5, 5, "PuzzleWed$Reader", rfl, by decide, by decide, sh_X5, in_X5, tw294, Or.inl rfl, rfl, fun h => by first | rfl | decide +kernel | exact absurd h (by decide), ⟨tyX5, tyX5_ok⟩, nmX5⟩
theorem fo_X7_9_384 : FOK RX7 9 384 := ⟨RX6, TX6, 8, "PuzzleWed$Reader", rfl, by decide, by decide, sh_X6, in_X6, tw294, Or.inl rfl, rfl, fun h => by first | rfl | decide +kernel | exact absurd h (by decide), ⟨tyX6, tyX6_ok⟩, nmX6⟩
theorem fo_X7_15_321 : FOK RX7 15 321 := ⟨RX5, TX5, 5, "PuzzleWed$Reader", rfl, by decide, by decide, sh_X5, in_X5, tw295, Or.inl rfl, rfl, fun h => by first | rfl | decide +kernel | exact absurd h (by decide), ⟨tyX5, tyX5_ok⟩, nmX5⟩
theorem fo_X7_15_385 : FOK RX7 15 385 := ⟨RX6, TX6, 8, "PuzzleWed$Reader", rfl, by decide, by decide, sh_X6, in_X6, tw295, Or.inl rfl, rfl, fun h => by first | rfl | decide +kernel | exact absurd h (by decide), ⟨tyX6, tyX6_ok⟩, nmX6⟩
theorem fo_X7_19_322 : FOK RX7 19 322 := ⟨RX5, TX5, 5, "PuzzleWed$Reader", rfl, by decide, by decide, sh_X5, in_X5, tw298, Or.inl rfl, rfl, fun h => by first | rfl | decide +kernel | exact absurd h (by decide), ⟨tyX5, tyX5_ok⟩, nmX5⟩
theorem fo_X7_19_386 : FOK RX7 19 386 := ⟨RX6, TX6, 8, "PuzzleWed$Reader", rfl, by decide, by decide, sh_X6, in_X6, tw298, Or.inl rfl, rfl, fun h => by first | rfl | decide +kernel | exact absurd h (by decide), ⟨tyX6, tyX6_ok⟩, nmX6⟩
theorem fo_X7_22_323 : FOK RX7 22 323 := ⟨RX5, TX5, 5, "PuzzleWed$Reader", rfl, by decide, by decide, sh_X5, in_X5, tw303, Or.inl rfl, rfl, fun h => by first | rfl | decide +kernel | exact absurd h (by decide), ⟨tyX5, tyX5_ok⟩, nmX5⟩
theorem fo_X7_22_387 : FOK RX7 22 387 := ⟨RX6, TX6, 8, "PuzzleWed$Reader", rfl, by decide, by decide, sh_X6, in_X6, tw303, Or.inl rfl, rfl, fun h => by first | rfl | decide +kernel | exact absurd h (by decide), ⟨tyX6, tyX6_ok⟩, nmX6⟩
theorem pk_X7 : PLOK RX7 pl_X7 := ⟨List.forall_mem_cons.mpr ⟨fo_X7_25_576, List.forall_mem_cons.mpr ⟨fo_X7_9_320, List.forall_mem_cons.mpr ⟨fo_X7_9_384, List.forall_mem_cons.mpr ⟨fo_X7_15_321, List.forall_mem_cons.mpr ⟨fo_X7_15_385, List.forall_mem_cons.mpr ⟨fo_X7_19_322, List.forall_mem_cons.mpr ⟨fo_X7_19_386, List.forall_mem_cons.mpr ⟨fo_X7_22_323, List.forall_mem_cons.mpr ⟨fo_X7_22_387, List.forall_mem_nil _⟩⟩⟩⟩⟩⟩⟩⟩⟩, List.forall_mem_nil _, List.forall_mem_nil _, List.forall_mem_nil _⟩
def pl_X8 : PL := ([(9, 448), (81, 449), (85, 450), (94, 451), (97, 452), (25, 453), (15, 454), (19, 455), (22, 456), (63, 457), (67, 458)], [], [(74, 16983563041), (76, 4611686018427387904), (54, 19)], [])
theorem fo_X8_9_448 : FOK RX8 9 448 := ⟨RX8, TX8, 11, "PuzzleWed$Sander", rfl, by decide, by decide, sh_X8, in_X8, tw462, Or.inl rfl, rfl, fun h => by first | rfl | decide +kernel | exact absurd h (by decide), ⟨tyX8, tyX8_ok⟩, nmX8⟩
theorem fo_X8_81_449 : FOK RX8 81 449 := ⟨RX8, TX8, 11, "PuzzleWed$Sander", rfl, by decide, by decide, sh_X8, in_X8, tw464, Or.inl rfl, rfl, fun h => by first | rfl | decide +kernel | exact absurd h (by decide), ⟨tyX8, tyX8_ok⟩, nmX8⟩
theorem fo_X8_85_450 : FOK RX8 85 450 := ⟨RX8, TX8, 11, "PuzzleWed$Sander", rfl, by decide, by decide, sh_X8, in_X8, tw466, Or.inl rfl, rfl, fun h => by first | rfl | decide +kernel | exact absurd h (by decide), ⟨tyX8, tyX8_ok⟩, nmX8⟩
theorem fo_X8_94_451 : FOK RX8 94 451 := ⟨RX8, TX8, 11, "PuzzleWed$Sander", rfl, by decide, by decide, sh_X8, in_X8, tw468, Or.inl rfl, rfl, fun h => by first | rfl | decide +kernel | exact absurd h (by decide), ⟨tyX8, tyX8_ok⟩, nmX8⟩
theorem fo_X8_97_452 : FOK RX8 97 452 := ⟨RX8, TX8, 11, "PuzzleWed$Sander", rfl, by decide, by decide, sh_X8, in_X8, tw470, Or.inl rfl, rfl, fun h => by first | rfl | decide +kernel | exact absurd h (by decide), ⟨tyX8, tyX8_ok⟩, nmX8⟩
theorem fo_X8_25_453 : FOK RX8 25 453 := ⟨RX8, TX8, 11, "PuzzleWed$Sander", rfl, by decide, by decide, sh_X8, in_X8, tw472, Or.inl rfl, rfl, fun h => by first | rfl | decide +kernel | exact absurd h (by decide), ⟨tyX8, tyX8_ok⟩, nmX8⟩
theorem fo_X8_15_454 : FOK RX8 15 454 := ⟨RX8, TX8, 11, "PuzzleWed$Sander", rfl, by decide, by decide, sh_X8, in_X8, tw473, Or.inl rfl, rfl, fun h => by first | rfl | decide +kernel | exact absurd h (by decide), ⟨tyX8, tyX8_ok⟩, nmX8⟩
theorem fo_X8_19_455 : FOK RX8 19 455 := ⟨RX8, TX8, 11, "PuzzleWed$Sander", rfl, by decide, by decide, sh_X8, in_X8, tw474, Or.inl rfl, rfl, fun h => by first | rfl | decide +kernel | exact absurd h (by decide), ⟨tyX8, tyX8_ok⟩, nmX8⟩
theorem fo_X8_22_456 : FOK RX8 22 456 := ⟨RX8, TX8, 11, "PuzzleWed$Sander", rfl, by decide, by decide, sh_X8, in_X8, tw475, Or.inl rfl, rfl, fun h => by first | rfl | decide +kernel | exact absurd h (by decide), ⟨tyX8, tyX8_ok⟩, nmX8⟩
theorem fo_X8_63_457 : FOK RX8 63 457 := ⟨RX8, TX8, 11, "PuzzleWed$Sander", rfl, by decide, by decide, sh_X8, in_X8, tw476, Or.inl rfl, rfl, fun h => by first | rfl | decide +kernel | exact absurd h (by decide), ⟨tyX8, tyX8_ok⟩, nmX8⟩
theorem fo_X8_67_458 : FOK RX8 67 458 := ⟨RX8, TX8, 11, "PuzzleWed$Sander", rfl, by decide, by decide, sh_X8, in_X8, tw477, Or.inl rfl, rfl, fun h => by first | rfl | decide +kernel | exact absurd h (by decide), ⟨tyX8, tyX8_ok⟩, nmX8⟩
theorem pk_X8 : PLOK RX8 pl_X8 := ⟨List.forall_mem_cons.mpr ⟨fo_X8_9_448, List.forall_mem_cons.mpr ⟨fo_X8_81_449, List.forall_mem_cons.mpr ⟨fo_X8_85_450, List.forall_mem_cons.mpr ⟨fo_X8_94_451, List.forall_mem_cons.mpr ⟨fo_X8_97_452, List.forall_mem_cons.mpr ⟨fo_X8_25_453, List.forall_mem_cons.mpr ⟨fo_X8_15_454, List.forall_mem_cons.mpr ⟨fo_X8_19_455, List.forall_mem_cons.mpr ⟨fo_X8_22_456, List.forall_mem_cons.mpr ⟨fo_X8_63_457, List.forall_mem_cons.mpr ⟨fo_X8_67_458, List.forall_mem_nil _⟩⟩⟩⟩⟩⟩⟩⟩⟩⟩⟩, List.forall_mem_nil _, List.forall_mem_cons.mpr ⟨tw1114, List.forall_mem_cons.mpr ⟨tw1120, List.forall_mem_cons.mpr ⟨tw1128, List.forall_mem_nil _⟩⟩⟩, List.forall_mem_nil _⟩
def pl_X9 : PL := ([(46, 576), (9, 512), (39, 513), (15, 514), (21, 515), (24, 516), (27, 517), (51, 518), (43, 519)], [], [], [])
theorem fo_X9_46_576 : FOK RX9 46 576 := ⟨RX10, TX10, 2, "PuzzleWed$Tape", rfl, by decide, by decide, sh_X10, in_X10, tw235, Or.inl rfl, rfl, fun h => by first | rfl | decide +kernel | exact absurd h (by decide), ⟨tyX10, tyX10_ok⟩, nmX10⟩
theorem fo_X9_9_512 : FOK RX9 9 512 := ⟨RX9, TX9, 8, "PuzzleWed$Search", rfl, by decide, by decide, sh_X9, in_X9, tw430, Or.inl rfl, rfl, fun h => by first | rfl | decide +kernel | exact absurd h (by decide), ⟨tyX9, tyX9_ok⟩, nmX9⟩
theorem fo_X9_39_513 : FOK RX9 39 513 := ⟨RX9, TX9, 8, "PuzzleWed$Search", rfl, by decide, by decide, sh_X9, in_X9, tw431, Or.inl rfl, rfl, fun h => by first | rfl | decide +kernel | exact absurd h (by decide), ⟨tyX9, tyX9_ok⟩, nmX9⟩
theorem fo_X9_15_514 : FOK RX9 15 514 := ⟨RX9, TX9, 8, "PuzzleWed$Search", rfl, by decide, by decide, sh_X9, in_X9, tw432, Or.inl rfl, rfl, fun h => by first | rfl | decide +kernel | exact absurd h (by decide), ⟨tyX9, tyX9_ok⟩, nmX9⟩
theorem fo_X9_21_515 : FOK RX9 21 515 := ⟨RX9, TX9, 8, "PuzzleWed$Search", rfl, by decide, by decide, sh_X9, in_X9, tw433, Or.inl rfl, rfl, fun h => by first | rfl | decide +kernel | exact absurd h (by decide), ⟨tyX9, tyX9_ok⟩, nmX9⟩
theorem fo_X9_24_516 : FOK RX9 24 516 := ⟨RX9, TX9, 8, "PuzzleWed$Search", rfl, by decide, by decide, sh_X9, in_X9, tw434, Or.inl rfl, rfl, fun h => by first | rfl | decide +kernel | exact absurd h (by decide), ⟨tyX9, tyX9_ok⟩, nmX9⟩
theorem fo_X9_27_517 : FOK RX9 27 517 := ⟨RX9, TX9, 8, "PuzzleWed$Search", rfl, by decide, by decide, sh_X9, in_X9, tw435, Or.inl rfl, rfl, fun h => by first | rfl | decide +kernel | exact absurd h (by decide), ⟨tyX9, tyX9_ok⟩, nmX9⟩
theorem fo_X9_51_518 : FOK RX9 51 518 := ⟨RX9, TX9, 8, "PuzzleWed$Search", rfl, by decide, by decide, sh_X9, in_X9, tw437, Or.inl rfl, rfl, fun h => by first | rfl | decide +kernel | exact absurd h (by decide), ⟨tyX9, tyX9_ok⟩, nmX9⟩
theorem fo_X9_43_519 : FOK RX9 43 519 := ⟨RX9, TX9, 8, "PuzzleWed$Search", rfl, by decide, by decide, sh_X9, in_X9, tw438, Or.inl rfl, rfl, fun h => by first | rfl | decide +kernel | exact absurd h (by decide), ⟨tyX9, tyX9_ok⟩, nmX9⟩
theorem pk_X9 : PLOK RX9 pl_X9 := ⟨List.forall_mem_cons.mpr ⟨fo_X9_46_576, List.forall_mem_cons.mpr ⟨fo_X9_9_512, List.forall_mem_cons.mpr ⟨fo_X9_39_513, List.forall_mem_cons.mpr ⟨fo_X9_15_514, List.forall_mem_cons.mpr ⟨fo_X9_21_515, List.forall_mem_cons.mpr ⟨fo_X9_24_516, List.forall_mem_cons.mpr ⟨fo_X9_27_517, List.forall_mem_cons.mpr ⟨fo_X9_51_518, List.forall_mem_cons.mpr ⟨fo_X9_43_519, List.forall_mem_nil _⟩⟩⟩⟩⟩⟩⟩⟩⟩, List.forall_mem_nil _, List.forall_mem_nil _, List.forall_mem_nil _⟩
def pl_X10 : PL := ([(9, 576), (15, 577)], [], [], [])
theorem fo_X10_9_576 : FOK RX10 9 576 := ⟨RX10, TX10, 2, "PuzzleWed$Tape", rfl, by decide, by decide, sh_X10, in_X10, tw234, Or.inl rfl, rfl, fun h => by first | rfl | decide +kernel | exact absurd h (by decide), ⟨tyX10, tyX10_ok⟩, nmX10⟩
theorem fo_X10_15_577 : FOK RX10 15 577 := ⟨RX10, TX10, 2, "PuzzleWed$Tape", rfl, by decide, by decide, sh_X10, in_X10, tw238, Or.inl rfl, rfl, fun h => by first | rfl | decide +kernel | exact absurd h (by decide), ⟨tyX10, tyX10_ok⟩, nmX10⟩
theorem pk_X10 : PLOK RX10 pl_X10 := ⟨List.forall_mem_cons.mpr ⟨fo_X10_9_576, List.forall_mem_cons.mpr ⟨fo_X10_15_577, List.forall_mem_nil _⟩⟩, List.forall_mem_nil _, List.forall_mem_nil _, List.forall_mem_nil _⟩
def pl_X11 : PL := ([(111, 192), (115, 193), (118, 194), (121, 195), (207, 196), (220, 197), (229, 198), (236, 199), (124, 200), (163, 201), (179, 202), (188, 203), (194, 204), (360, 205), (357, 206), (338, 576), (141, 577), (156, 262), (150, 323), (162, 387), (167, 388), (191, 389), (201, 65), (210, 66), (213, 67), (266, 1), (260, 2), (263, 3), (285, 517), (308, 448), (302, 449), (305, 450), (323, 451), (326, 452), (12, 640), (16, 641), (19, 642), (22, 643), (29, 644), (36, 645), (40, 646), (48, 647), (57, 648), (66, 649), (75, 650), (82, 651), (89, 652), (96, 653), (100, 654)], [(356, 65535)], [], [])
theorem fo_X11_111_192 : FOK RX11 111 192 := ⟨RX3, TX3, 15, "PuzzleWed$Land", rfl, by decide, by decide, sh_X3, in_X3, tw150, Or.inl rfl, rfl, fun h => by first | rfl | decide +kernel | exact absurd h (by decide), ⟨tyX3, tyX3_ok⟩, nmX3⟩
theorem fo_X11_115_193 : FOK RX11 115 193 := ⟨RX3, TX3, 15, "PuzzleWed$Land", rfl, by decide, by decide, sh_X3, in_X3, tw151, Or.inl rfl, rfl, fun h => by first | rfl | decide +kernel | exact absurd h (by decide), ⟨tyX3, tyX3_ok⟩, nmX3⟩
theorem fo_X11_118_194 : FOK RX11 118 194 := ⟨RX3, TX3, 15, "PuzzleWed$Land", rfl, by decide, by decide, sh_X3, in_X3, tw155, Or.inl rfl, rfl, fun h => by first | rfl | decide +kernel | exact absurd h (by decide), ⟨tyX3, tyX3_ok⟩, nmX3⟩
theorem fo_X11_121_195 : FOK RX11 121 195 := ⟨RX3, TX3, 15, "PuzzleWed$Land", rfl, by decide, by decide, sh_X3, in_X3, tw159, Or.inl rfl, rfl, fun h => by first | rfl | decide +kernel | exact absurd h (by decide), ⟨tyX3, tyX3_ok⟩, nmX3⟩
theorem fo_X11_207_196 : FOK RX11 207 196 := ⟨RX3, TX3, 15, "PuzzleWed$Land", rfl, by decide, by decide, sh_X3, in_X3, tw165, Or.inl rfl, rfl, fun h => by first | rfl | decide +kernel | exact absurd h (by decide), ⟨tyX3, tyX3_ok⟩, nmX3⟩
theorem fo_X11_220_197 : FOK RX11 220 197 := ⟨RX3, TX3, 15, "PuzzleWed$Land", rfl, by decide, by decide, sh_X3, in_X3, tw169, Or.inl rfl, rfl, fun h => by first | rfl | decide +kernel | exact absurd h (by decide), ⟨tyX3, tyX3_ok⟩, nmX3⟩
theorem fo_X11_229_198 : FOK RX11 229 198 := ⟨RX3, TX3, 15, "PuzzleWed$Land", rfl, by decide, by decide, sh_X3, in_X3, tw171, Or.inl rfl, rfl, fun h => by first | rfl | decide +kernel | exact absurd h (by decide), ⟨tyX3, tyX3_ok⟩, nmX3⟩
theorem fo_X11_236_199 : FOK RX11 236 199 := ⟨RX3, TX3, 15, "PuzzleWed$Land", rfl, by decide, by decide, sh_X3, in_X3, tw174, Or.inl rfl, rfl, fun h => by first | rfl | decide +kernel | exact absurd h (by decide), ⟨tyX3, tyX3_ok⟩, nmX3⟩
theorem fo_X11_124_200 : FOK RX11 124 200 := ⟨RX3, TX3, 15, "PuzzleWed$Land", rfl, by decide, by decide, sh_X3, in_X3, tw176, Or.inl rfl, rfl, fun h => by first | rfl | decide +kernel | exact absurd h (by decide), ⟨tyX3, tyX3_ok⟩, nmX3⟩
theorem fo_X11_163_201 : FOK RX11 163 201 := ⟨RX3, TX3, 15, "PuzzleWed$Land", rfl, by decide, by decide, sh_X3, in_X3, tw180, Or.inl rfl, rfl, fun h => by first | rfl | decide +kernel | exact absurd h (by decide), ⟨tyX3, tyX3_ok⟩, nmX3⟩
theorem fo_X11_179_202 : FOK RX11 179 202 := ⟨RX3, TX3, 15, "PuzzleWed$Land", rfl, by decide, by decide, sh_X3, in_X3, tw183, Or.inl rfl, rfl, fun h => by first | rfl | decide +kernel | exact absurd h (by decide), ⟨tyX3, tyX3_ok⟩, nmX3⟩
theorem fo_X11_188_203 : FOK RX11 188 203 := ⟨RX3, TX3, 15, "PuzzleWed$Land", rfl, by decide, by decide, sh_X3, in_X3, tw186, Or.inl rfl, rfl, fun h => by first | rfl | decide +kernel | exact absurd h (by decide), ⟨tyX3, tyX3_ok⟩, nmX3⟩
theorem fo_X11_194_204 : FOK RX11 194 204 := ⟨RX3, TX3, 15, "PuzzleWed$Land", rfl, by decide, by decide, sh_X3, in_X3, tw189, Or.inl rfl, rfl, fun h => by first | rfl | decide +kernel | exact absurd h (by decide), ⟨tyX3, tyX3_ok⟩, nmX3⟩
theorem fo_X11_360_205 : FOK RX11 360 205 := ⟨RX3, TX3, 15, "PuzzleWed$Land", rfl, by decide, by decide, sh_X3, in_X3, tw193, Or.inl rfl, rfl, fun h => by first | rfl | decide +kernel | exact absurd h (by decide), ⟨tyX3, tyX3_ok⟩, nmX3⟩
theorem fo_X11_357_206 : FOK RX11 357 206 := ⟨RX3, TX3, 15, "PuzzleWed$Land", rfl, by decide, by decide, sh_X3, in_X3, tw195, Or.inl rfl, rfl, fun h => by first | rfl | decide +kernel | exact absurd h (by decide), ⟨tyX3, tyX3_ok⟩, nmX3⟩
theorem fo_X11_338_576 : FOK RX11 338 576 := ⟨RX10, TX10, 2, "PuzzleWed$Tape", rfl, by decide, by decide, sh_X10, in_X10, tw237, Or.inl rfl, rfl, fun h => by first | rfl | decide +kernel | exact absurd h (by decide), ⟨tyX10, tyX10_ok⟩, nmX10⟩
theorem fo_X11_141_577 : FOK RX11 141 577 := ⟨RX10, TX10, 2, "PuzzleWed$Tape", rfl, by decide, by decide, sh_X10, in_X10, tw239, Or.inl rfl, rfl, fun h => by first | rfl | decide +kernel | exact absurd h (by decide), ⟨tyX10, tyX10_ok⟩, nmX10⟩
theorem fo_X11_156_262 : FOK RX11 156 262 := ⟨RX4, TX4, 7, "PuzzleWed$Law", rfl, by decide, by decide, sh_X4, in_X4, tw267, Or.inl rfl, rfl, fun h => by first | rfl | decide +kernel | exact absurd h (by decide), ⟨tyX4, tyX4_ok⟩, nmX4⟩
theorem fo_X11_150_323 : FOK RX11 150 323 := ⟨RX5, TX5, 5, "PuzzleWed$LawReader", rfl, by decide, by decide, sh_X5, in_X5, tw304, Or.inr tw305, rfl, fun h => by first | rfl | decide +kernel | exact absurd h (by decide), ⟨tyX5, tyX5_ok⟩, nmX5⟩
theorem fo_X11_162_387 : FOK RX11 162 387 := ⟨RX6, TX6, 8, "PuzzleWed$ListReader", rfl, by decide, by decide, sh_X6, in_X6, tw306, Or.inr tw307, rfl, fun h => by first | rfl | decide +kernel | exact absurd h (by decide), ⟨tyX6, tyX6_ok⟩, nmX6⟩
theorem fo_X11_167_388 : FOK RX11 167 388 := ⟨RX6, TX6, 8, "PuzzleWed$ListReader", rfl, by decide, by decide, sh_X6, in_X6, tw326, Or.inl rfl, rfl, fun h => by first | rfl | decide +kernel | exact absurd h (by decide), ⟨tyX6, tyX6_ok⟩, nmX6⟩
theorem fo_X11_191_389 : FOK RX11 191 389 := ⟨RX6, TX6, 8, "PuzzleWed$ListReader", rfl, by decide, by decide, sh_X6, in_X6, tw328, Or.inl rfl, rfl, fun h => by first | rfl | decide +kernel | exact absurd h (by decide), ⟨tyX6, tyX6_ok⟩, nmX6⟩
theorem fo_X11_201_65 : FOK RX11 201 65 := ⟨RX1, TX1, 4, "PuzzleWed$Course", rfl, by decide, by decide, sh_X1, in_X1, tw365, Or.inl rfl, rfl, fun h => by first | rfl | decide +kernel | exact absurd h (by decide), ⟨tyX1, tyX1_ok⟩, nmX1⟩
theorem fo_X11_210_66 : FOK RX11 210 66 := ⟨RX1, TX1, 4, "PuzzleWed$Course", rfl, by decide, by decide, sh_X1, in_X1, tw367, Or.inl rfl, rfl, fun h => by first | rfl | decide +kernel | exact absurd h (by decide), ⟨tyX1, tyX1_ok⟩, nmX1⟩
theorem fo_X11_213_67 : FOK RX11 213 67 := ⟨RX1, TX1, 4, "PuzzleWed$Course", rfl, by decide, by decide, sh_X1, in_X1, tw369, Or.inl rfl, rfl, fun h => by first | rfl | decide +kernel | exact absurd h (by decide), ⟨tyX1, tyX1_ok⟩, nmX1⟩
theorem fo_X11_266_1 : FOK RX11 266 1 := ⟨RX0, TX0, 11, "PuzzleWed$Couples", rfl, by decide, by decide, sh_X0, in_X0, tw388, Or.inl rfl, rfl, fun h => by first | rfl | decide +kernel | exact absurd h (by decide), ⟨tyX0, tyX0_ok⟩, nmX0⟩
theorem fo_X11_260_2 : FOK RX11 260 2 := ⟨RX0, TX0, 11, "PuzzleWed$Couples", rfl, by decide, by decide, sh_X0, in_X0, tw390, Or.inl rfl, rfl, fun h => by first | rfl | decide +kernel | exact absurd h (by decide), ⟨tyX0, tyX0_ok⟩, nmX0⟩
theorem fo_X11_263_3 : FOK RX11 263 3 := ⟨RX0, TX0, 11, "PuzzleWed$Couples", rfl, by decide, by decide, sh_X0, in_X0, tw392, Or.inl rfl, rfl, fun h => by first | rfl | decide +kernel | exact absurd h (by decide), ⟨tyX0, tyX0_ok⟩, nmX0⟩
theorem fo_X11_285_517 : FOK RX11 285 517 := ⟨RX9, TX9, 8, "PuzzleWed$Search", rfl, by decide, by decide, sh_X9, in_X9, tw436, Or.inl rfl, rfl, fun h => by first | rfl | decide +kernel | exact absurd h (by decide), ⟨tyX9, tyX9_ok⟩, nmX9⟩
theorem fo_X11_308_448 : FOK RX11 308 448 := ⟨RX8, TX8, 11, "PuzzleWed$Sander", rfl, by decide, by decide, sh_X8, in_X8, tw463, Or.inl rfl, rfl, fun h => by first | rfl | decide +kernel | exact absurd h (by decide), ⟨tyX8, tyX8_ok⟩, nmX8⟩
theorem fo_X11_302_449 : FOK RX11 302 449 := ⟨RX8, TX8, 11, "PuzzleWed$Sander", rfl, by decide, by decide, sh_X8, in_X8, tw465, Or.inl rfl, rfl, fun h => by first | rfl | decide +kernel | exact absurd h (by decide), ⟨tyX8, tyX8_ok⟩, nmX8⟩
theorem fo_X11_305_450 : FOK RX11 305 450 := ⟨RX8, TX8, 11, "PuzzleWed$Sander", rfl, by decide, by decide, sh_X8, in_X8, tw467, Or.inl rfl, rfl, fun h => by first | rfl | decide +kernel | exact absurd h (by decide), ⟨tyX8, tyX8_ok⟩, nmX8⟩
theorem fo_X11_323_451 : FOK RX11 323 451 := ⟨RX8, TX8, 11, "PuzzleWed$Sander", rfl, by decide, by decide, sh_X8, in_X8, tw469, Or.inl rfl, rfl, fun h => by first | rfl | decide +kernel | exact absurd h (by decide), ⟨tyX8, tyX8_ok⟩, nmX8⟩
theorem fo_X11_326_452 : FOK RX11 326 452 := ⟨RX8, TX8, 11, "PuzzleWed$Sander", rfl, by decide, by decide, sh_X8, in_X8, tw471, Or.inl rfl, rfl, fun h => by first | rfl | decide +kernel | exact absurd h (by decide), ⟨tyX8, tyX8_ok⟩, nmX8⟩
theorem fo_X11_12_640 : FOK RX11 12 640 := ⟨RX11, TX11, 15, "PuzzleWed", rfl, by decide, by decide, sh_X11, in_X11, tw502, Or.inl rfl, rfl, fun h => by first | rfl | decide +kernel | exact absurd h (by decide), ⟨tyX11, tyX11_ok⟩, nmX11⟩
theorem fo_X11_16_641 : FOK RX11 16 641 := ⟨RX11, TX11, 15, "PuzzleWed", rfl, by decide, by decide, sh_X11, in_X11, tw503, Or.inl rfl, rfl, fun h => by first | rfl | decide +kernel | exact absurd h (by decide), ⟨tyX11, tyX11_ok⟩, nmX11⟩
theorem fo_X11_19_642 : FOK RX11 19 642 := ⟨RX11, TX11, 15, "PuzzleWed", rfl, by decide, by decide, sh_X11, in_X11, tw504, Or.inl rfl, rfl, fun h => by first | rfl | decide +kernel | exact absurd h (by decide), ⟨tyX11, tyX11_ok⟩, nmX11⟩
theorem fo_X11_22_643 : FOK RX11 22 643 := ⟨RX11, TX11, 15, "PuzzleWed", rfl, by decide, by decide, sh_X11, in_X11, tw505, Or.inl rfl, rfl, fun h => by first | rfl | decide +kernel | exact absurd h (by decide), ⟨tyX11, tyX11_ok⟩, nmX11⟩
theorem fo_X11_29_644 : FOK RX11 29 644 := ⟨RX11, TX11, 15, "PuzzleWed", rfl, by decide, by decide, sh_X11, in_X11, tw506, Or.inl rfl, rfl, fun h => by first | rfl | decide +kernel | exact absurd h (by decide), ⟨tyX11, tyX11_ok⟩, nmX11⟩
theorem fo_X11_36_645 : FOK RX11 36 645 := ⟨RX11, TX11, 15, "PuzzleWed", rfl, by decide, by decide, sh_X11, in_X11, tw507, Or.inl rfl, rfl, fun h => by first | rfl | decide +kernel | exact absurd h (by decide), ⟨tyX11, tyX11_ok⟩, nmX11⟩
theorem fo_X11_40_646 : FOK RX11 40 646 := ⟨RX11, TX11, 15, "PuzzleWed", rfl, by decide, by decide, sh_X11, in_X11, tw508, Or.inl rfl, rfl, fun h => by first | rfl | decide +kernel | exact absurd h (by decide), ⟨tyX11, tyX11_ok⟩, nmX11⟩
theorem fo_X11_48_647 : FOK RX11 48 647 := ⟨RX11, TX11, 15, "PuzzleWed", rfl, by decide, by decide, sh_X11, in_X11, tw509, Or.inl rfl, rfl, fun h => by first | rfl | decide +kernel | exact absurd h (by decide), ⟨tyX11, tyX11_ok⟩, nmX11⟩
theorem fo_X11_57_648 : FOK RX11 57 648 := ⟨RX11, TX11, 15, "PuzzleWed", rfl, by decide, by decide, sh_X11, in_X11, tw510, Or.inl rfl, rfl, fun h => by first | rfl | decide +kernel | exact absurd h (by decide), ⟨tyX11, tyX11_ok⟩, nmX11⟩
theorem fo_X11_66_649 : FOK RX11 66 649 := ⟨RX11, TX11, 15, "PuzzleWed", rfl, by decide, by decide, sh_X11, in_X11, tw511, Or.inl rfl, rfl, fun h => by first | rfl | decide +kernel | exact absurd h (by decide), ⟨tyX11, tyX11_ok⟩, nmX11⟩
theorem fo_X11_75_650 : FOK RX11 75 650 := ⟨RX11, TX11, 15, "PuzzleWed", rfl, by decide, by decide, sh_X11, in_X11, tw512, Or.inl rfl, rfl, fun h => by first | rfl | decide +kernel | exact absurd h (by decide), ⟨tyX11, tyX11_ok⟩, nmX11⟩
theorem fo_X11_82_651 : FOK RX11 82 651 := ⟨RX11, TX11, 15, "PuzzleWed", rfl, by decide, by decide, sh_X11, in_X11, tw513, Or.inl rfl, rfl, fun h => by first | rfl | decide +kernel | exact absurd h (by decide), ⟨tyX11, tyX11_ok⟩, nmX11⟩
theorem fo_X11_89_652 : FOK RX11 89 652 := ⟨RX11, TX11, 15, "PuzzleWed", rfl, by decide, by decide, sh_X11, in_X11, tw514, Or.inl rfl, rfl, fun h => by first | rfl | decide +kernel | exact absurd h (by decide), ⟨tyX11, tyX11_ok⟩, nmX11⟩
theorem fo_X11_96_653 : FOK RX11 96 653 := ⟨RX11, TX11, 15, "PuzzleWed", rfl, by decide, by decide, sh_X11, in_X11, tw515, Or.inl rfl, rfl, fun h => by first | rfl | decide +kernel | exact absurd h (by decide), ⟨tyX11, tyX11_ok⟩, nmX11⟩
theorem fo_X11_100_654 : FOK RX11 100 654 := ⟨RX11, TX11, 15, "PuzzleWed", rfl, by decide, by decide, sh_X11, in_X11, tw516, Or.inl rfl, rfl, fun h => by first | rfl | decide +kernel | exact absurd h (by decide), ⟨tyX11, tyX11_ok⟩, nmX11⟩
theorem pk_X11 : PLOK RX11 pl_X11 := ⟨List.forall_mem_cons.mpr ⟨fo_X11_111_192, List.forall_mem_cons.mpr ⟨fo_X11_115_193, List.forall_mem_cons.mpr ⟨fo_X11_118_194, List.forall_mem_cons.mpr ⟨fo_X11_121_195, List.forall_mem_cons.mpr ⟨fo_X11_207_196, List.forall_mem_cons.mpr ⟨fo_X11_220_197, List.forall_mem_cons.mpr ⟨fo_X11_229_198, List.forall_mem_cons.mpr ⟨fo_X11_236_199, List.forall_mem_cons.mpr ⟨fo_X11_124_200, List.forall_mem_cons.mpr ⟨fo_X11_163_201, List.forall_mem_cons.mpr ⟨fo_X11_179_202, List.forall_mem_cons.mpr ⟨fo_X11_188_203, List.forall_mem_cons.mpr ⟨fo_X11_194_204, List.forall_mem_cons.mpr ⟨fo_X11_360_205, List.forall_mem_cons.mpr ⟨fo_X11_357_206, List.forall_mem_cons.mpr ⟨fo_X11_338_576, List.forall_mem_cons.mpr ⟨fo_X11_141_577, List.forall_mem_cons.mpr ⟨fo_X11_156_262, List.forall_mem_cons.mpr ⟨fo_X11_150_323, List.forall_mem_cons.mpr ⟨fo_X11_162_387, List.forall_mem_cons.mpr ⟨fo_X11_167_388, List.forall_mem_cons.mpr ⟨fo_X11_191_389, List.forall_mem_cons.mpr ⟨fo_X11_201_65, List.forall_mem_cons.mpr ⟨fo_X11_210_66, List.forall_mem_cons.mpr ⟨fo_X11_213_67, List.forall_mem_cons.mpr ⟨fo_X11_266_1, List.forall_mem_cons.mpr ⟨fo_X11_260_2, List.forall_mem_cons.mpr ⟨fo_X11_263_3, List.forall_mem_cons.mpr ⟨fo_X11_285_517, List.forall_mem_cons.mpr ⟨fo_X11_308_448, List.forall_mem_cons.mpr ⟨fo_X11_302_449, List.forall_mem_cons.mpr ⟨fo_X11_305_450, List.forall_mem_cons.mpr ⟨fo_X11_323_451, List.forall_mem_cons.mpr ⟨fo_X11_326_452, List.forall_mem_cons.mpr ⟨fo_X11_12_640, List.forall_mem_cons.mpr ⟨fo_X11_16_641, List.forall_mem_cons.mpr ⟨fo_X11_19_642, List.forall_mem_cons.mpr ⟨fo_X11_22_643, List.forall_mem_cons.mpr ⟨fo_X11_29_644, List.forall_mem_cons.mpr ⟨fo_X11_36_645, List.forall_mem_cons.mpr ⟨fo_X11_40_646, List.forall_mem_cons.mpr ⟨fo_X11_48_647, List.forall_mem_cons.mpr ⟨fo_X11_57_648, List.forall_mem_cons.mpr ⟨fo_X11_66_649, List.forall_mem_cons.mpr ⟨fo_X11_75_650, List.forall_mem_cons.mpr ⟨fo_X11_82_651, List.forall_mem_cons.mpr ⟨fo_X11_89_652, List.forall_mem_cons.mpr ⟨fo_X11_96_653, List.forall_mem_cons.mpr ⟨fo_X11_100_654, List.forall_mem_nil _⟩⟩⟩⟩⟩⟩⟩⟩⟩⟩⟩⟩⟩⟩⟩⟩⟩⟩⟩⟩⟩⟩⟩⟩⟩⟩⟩⟩⟩⟩⟩⟩⟩⟩⟩⟩⟩⟩⟩⟩⟩⟩⟩⟩⟩⟩⟩⟩⟩, List.forall_mem_cons.mpr ⟨tw1185, List.forall_mem_nil _⟩, List.forall_mem_nil _, List.forall_mem_nil _⟩
def pl_X12 : PL := ([(7, 704), (13, 705), (16, 706), (19, 707), (126, 708), (133, 709), (136, 710), (143, 711), (149, 712), (160, 713), (156, 714), (163, 715), (213, 716), (225, 717), (23, 718), (26, 719), (29, 720), (32, 721), (35, 722), (38, 723), (41, 724), (44, 725), (47, 726), (50, 727), (53, 728), (56, 729), (59, 730), (62, 731), (65, 732), (268, 733), (274, 734), (289, 735), (280, 736), (302, 737), (68, 738), (71, 739), (74, 740), (78, 741), (81, 742), (84, 743), (87, 744), (91, 745), (94, 746), (379, 747), (370, 748), (373, 749), (408, 750)], [(77, 53248), (90, 33489), (159, 1048576), (245, 1000000000), (298, 65536), (333, 49152), (407, 65535)], [], [])
theorem fo_X12_7_704 : FOK RX12 7 704 := ⟨RX12, TX12, 47, "PuzzleWedModel", rfl, by decide, by decide, sh_X12, in_X12, tw1214, Or.inl rfl, rfl, fun h => by first | rfl | decide +kernel | exact absurd h (by decide), ⟨tyX12, tyX12_ok⟩, nmX12⟩
theorem fo_X12_13_705 : FOK RX12 13 705 := ⟨RX12, TX12, 47, "PuzzleWedModel", rfl, by decide, by decide, sh_X12, in_X12, tw1215, Or.inl rfl, rfl, fun h => by first | rfl | decide +kernel | exact absurd h (by decide), ⟨tyX12, tyX12_ok⟩, nmX12⟩
theorem fo_X12_16_706 : FOK RX12 16 706 := ⟨RX12, TX12, 47, "PuzzleWedModel", rfl, by decide, by decide, sh_X12, in_X12, tw1216, Or.inl rfl, rfl, fun h => by first | rfl | decide +kernel | exact absurd h (by decide), ⟨tyX12, tyX12_ok⟩, nmX12⟩
theorem fo_X12_19_707 : FOK RX12 19 707 := ⟨RX12, TX12, 47, "PuzzleWedModel", rfl, by decide, by decide, sh_X12, in_X12, tw1217, Or.inl rfl, rfl, fun h => by first | rfl | decide +kernel | exact absurd h (by decide), ⟨tyX12, tyX12_ok⟩, nmX12⟩
theorem fo_X12_126_708 : FOK RX12 126 708 := ⟨RX12, TX12, 47, "PuzzleWedModel", rfl, by decide, by decide, sh_X12, in_X12, tw1218, Or.inl rfl, rfl, fun h => by first | rfl | decide +kernel | exact absurd h (by decide), ⟨tyX12, tyX12_ok⟩, nmX12⟩
theorem fo_X12_133_709 : FOK RX12 133 709 := ⟨RX12, TX12, 47, "PuzzleWedModel", rfl, by decide, by decide, sh_X12, in_X12, tw1219, Or.inl rfl, rfl, fun h => by first | rfl | decide +kernel | exact absurd h (by decide), ⟨tyX12, tyX12_ok⟩, nmX12⟩
theorem fo_X12_136_710 : FOK RX12 136 710 := ⟨RX12, TX12, 47, "PuzzleWedModel", rfl, by decide, by decide, sh_X12, in_X12, tw1220, Or.inl rfl, rfl, fun h => by first | rfl | decide +kernel | exact absurd h (by decide), ⟨tyX12, tyX12_ok⟩, nmX12⟩
theorem fo_X12_143_711 : FOK RX12 143 711 := ⟨RX12, TX12, 47, "PuzzleWedModel", rfl, by decide, by decide, sh_X12, in_X12, tw1221, Or.inl rfl, rfl, fun h => by first | rfl | decide +kernel | exact absurd h (by decide), ⟨tyX12, tyX12_ok⟩, nmX12⟩
theorem fo_X12_149_712 : FOK RX12 149 712 := ⟨RX12, TX12, 47, "PuzzleWedModel", rfl, by decide, by decide, sh_X12, in_X12, tw1222, Or.inl rfl, rfl, fun h => by first | rfl | decide +kernel | exact absurd h (by decide), ⟨tyX12, tyX12_ok⟩, nmX12⟩
theorem fo_X12_160_713 : FOK RX12 160 713 := ⟨RX12, TX12, 47, "PuzzleWedModel", rfl, by decide, by decide, sh_X12, in_X12, tw1223, Or.inl rfl, rfl, fun h => by first | rfl | decide +kernel | exact absurd h (by decide), ⟨tyX12, tyX12_ok⟩, nmX12⟩
theorem fo_X12_156_714 : FOK RX12 156 714 := ⟨RX12, TX12, 47, "PuzzleWedModel", rfl, by decide, by decide, sh_X12, in_X12, tw1224, Or.inl rfl, rfl, fun h => by first | rfl | decide +kernel | exact absurd h (by decide), ⟨tyX12, tyX12_ok⟩, nmX12⟩
theorem fo_X12_163_715 : FOK RX12 163 715 := ⟨RX12, TX12, 47, "PuzzleWedModel", rfl, by decide, by decide, sh_X12, in_X12, tw1225, Or.inl rfl, rfl, fun h => by first | rfl | decide +kernel | exact absurd h (by decide), ⟨tyX12, tyX12_ok⟩, nmX12⟩
theorem fo_X12_213_716 : FOK RX12 213 716 := ⟨RX12, TX12, 47, "PuzzleWedModel", rfl, by decide, by decide, sh_X12, in_X12, tw1226, Or.inl rfl, rfl, fun h => by first | rfl | decide +kernel | exact absurd h (by decide), ⟨tyX12, tyX12_ok⟩, nmX12⟩
theorem fo_X12_225_717 : FOK RX12 225 717 := ⟨RX12, TX12, 47, "PuzzleWedModel", rfl, by decide, by decide, sh_X12, in_X12, tw1227, Or.inl rfl, rfl, fun h => by first | rfl | decide +kernel | exact absurd h (by decide), ⟨tyX12, tyX12_ok⟩, nmX12⟩
theorem fo_X12_23_718 : FOK RX12 23 718 := ⟨RX12, TX12, 47, "PuzzleWedModel", rfl, by decide, by decide, sh_X12, in_X12, tw1228, Or.inl rfl, rfl, fun h => by first | rfl | decide +kernel | exact absurd h (by decide), ⟨tyX12, tyX12_ok⟩, nmX12⟩
theorem fo_X12_26_719 : FOK RX12 26 719 := ⟨RX12, TX12, 47, "PuzzleWedModel", rfl, by decide, by decide, sh_X12, in_X12, tw1229, Or.inl rfl, rfl, fun h => by first | rfl | decide +kernel | exact absurd h (by decide), ⟨tyX12, tyX12_ok⟩, nmX12⟩
theorem fo_X12_29_720 : FOK RX12 29 720 := ⟨RX12, TX12, 47, "PuzzleWedModel", rfl, by decide, by decide, sh_X12, in_X12, tw1230, Or.inl rfl, rfl, fun h => by first | rfl | decide +kernel | exact absurd h (by decide), ⟨tyX12, tyX12_ok⟩, nmX12⟩
theorem fo_X12_32_721 : FOK RX12 32 721 := ⟨RX12, TX12, 47, "PuzzleWedModel", rfl, by decide, by decide, sh_X12, in_X12, tw1231, Or.inl rfl, rfl, fun h => by first | rfl | decide +kernel | exact absurd h (by decide), ⟨tyX12, tyX12_ok⟩, nmX12⟩
theorem fo_X12_35_722 : FOK RX12 35 722 := ⟨RX12, TX12, 47, "PuzzleWedModel", rfl, by decide, by decide, sh_X12, in_X12, tw1232, Or.inl rfl, rfl, fun h => by first | rfl | decide +kernel | exact absurd h (by decide), ⟨tyX12, tyX12_ok⟩, nmX12⟩
theorem fo_X12_38_723 : FOK RX12 38 723 := ⟨RX12, TX12, 47, "PuzzleWedModel", rfl, by decide, by decide, sh_X12, in_X12, tw1233, Or.inl rfl, rfl, fun h => by first | rfl | decide +kernel | exact absurd h (by decide), ⟨tyX12, tyX12_ok⟩, nmX12⟩
theorem fo_X12_41_724 : FOK RX12 41 724 := ⟨RX12, TX12, 47, "PuzzleWedModel", rfl, by decide, by decide, sh_X12, in_X12, tw1234, Or.inl rfl, rfl, fun h => by first | rfl | decide +kernel | exact absurd h (by decide), ⟨tyX12, tyX12_ok⟩, nmX12⟩
theorem fo_X12_44_725 : FOK RX12 44 725 := ⟨RX12, TX12, 47, "PuzzleWedModel", rfl, by decide, by decide, sh_X12, in_X12, tw1235, Or.inl rfl, rfl, fun h => by first | rfl | decide +kernel | exact absurd h (by decide), ⟨tyX12, tyX12_ok⟩, nmX12⟩
theorem fo_X12_47_726 : FOK RX12 47 726 := ⟨RX12, TX12, 47, "PuzzleWedModel", rfl, by decide, by decide, sh_X12, in_X12, tw1236, Or.inl rfl, rfl, fun h => by first | rfl | decide +kernel | exact absurd h (by decide), ⟨tyX12, tyX12_ok⟩, nmX12⟩
theorem fo_X12_50_727 : FOK RX12 50 727 := ⟨RX12, TX12, 47, "PuzzleWedModel", rfl, by decide, by decide, sh_X12, in_X12, tw1237, Or.inl rfl, rfl, fun h => by first | rfl | decide +kernel | exact absurd h (by decide), ⟨tyX12, tyX12_ok⟩, nmX12⟩
theorem fo_X12_53_728 : FOK RX12 53 728 := ⟨RX12, TX12, 47, "PuzzleWedModel", rfl, by decide, by decide, sh_X12, in_X12, tw1238, Or.inl rfl, rfl, fun h => by first | rfl | decide +kernel | exact absurd h (by decide), ⟨tyX12, tyX12_ok⟩, nmX12⟩
theorem fo_X12_56_729 : FOK RX12 56 729 := ⟨RX12, TX12, 47, "PuzzleWedModel", rfl, by decide, by decide, sh_X12, in_X12, tw1239, Or.inl rfl, rfl, fun h => by first | rfl | decide +kernel | exact absurd h (by decide), ⟨tyX12, tyX12_ok⟩, nmX12⟩
theorem fo_X12_59_730 : FOK RX12 59 730 := ⟨RX12, TX12, 47, "PuzzleWedModel", rfl, by decide, by decide, sh_X12, in_X12, tw1240, Or.inl rfl, rfl, fun h => by first | rfl | decide +kernel | exact absurd h (by decide), ⟨tyX12, tyX12_ok⟩, nmX12⟩
theorem fo_X12_62_731 : FOK RX12 62 731 := ⟨RX12, TX12, 47, "PuzzleWedModel", rfl, by decide, by decide, sh_X12, in_X12, tw1241, Or.inl rfl, rfl, fun h => by first | rfl | decide +kernel | exact absurd h (by decide), ⟨tyX12, tyX12_ok⟩, nmX12⟩
theorem fo_X12_65_732 : FOK RX12 65 732 := ⟨RX12, TX12, 47, "PuzzleWedModel", rfl, by decide, by decide, sh_X12, in_X12, tw1242, Or.inl rfl, rfl, fun h => by first | rfl | decide +kernel | exact absurd h (by decide), ⟨tyX12, tyX12_ok⟩, nmX12⟩
theorem fo_X12_268_733 : FOK RX12 268 733 := ⟨RX12, TX12, 47, "PuzzleWedModel", rfl, by decide, by decide, sh_X12, in_X12, tw1243, Or.inl rfl, rfl, fun h => by first | rfl | decide +kernel | exact absurd h (by decide), ⟨tyX12, tyX12_ok⟩, nmX12⟩
theorem fo_X12_274_734 : FOK RX12 274 734 := ⟨RX12, TX12, 47, "PuzzleWedModel", rfl, by decide, by decide, sh_X12, in_X12, tw1244, Or.inl rfl, rfl, fun h => by first | rfl | decide +kernel | exact absurd h (by decide), ⟨tyX12, tyX12_ok⟩, nmX12⟩
theorem fo_X12_289_735 : FOK RX12 289 735 := ⟨RX12, TX12, 47, "PuzzleWedModel", rfl, by decide, by decide, sh_X12, in_X12, tw1245, Or.inl rfl, rfl, fun h => by first | rfl | decide +kernel | exact absurd h (by decide), ⟨tyX12, tyX12_ok⟩, nmX12⟩
theorem fo_X12_280_736 : FOK RX12 280 736 := ⟨RX12, TX12, 47, "PuzzleWedModel", rfl, by decide, by decide, sh_X12, in_X12, tw1246, Or.inl rfl, rfl, fun h => by first | rfl | decide +kernel | exact absurd h (by decide), ⟨tyX12, tyX12_ok⟩, nmX12⟩
theorem fo_X12_302_737 : FOK RX12 302 737 := ⟨RX12, TX12, 47, "PuzzleWedModel", rfl, by decide, by decide, sh_X12, in_X12, tw1247, Or.inl rfl, rfl, fun h => by first | rfl | decide +kernel | exact absurd h (by decide), ⟨tyX12, tyX12_ok⟩, nmX12⟩
theorem fo_X12_68_738 : FOK RX12 68 738 := ⟨RX12, TX12, 47, "PuzzleWedModel", rfl, by decide, by decide, sh_X12, in_X12, tw1248, Or.inl rfl, rfl, fun h => by first | rfl | decide +kernel | exact absurd h (by decide), ⟨tyX12, tyX12_ok⟩, nmX12⟩
theorem fo_X12_71_739 : FOK RX12 71 739 := ⟨RX12, TX12, 47, "PuzzleWedModel", rfl, by decide, by decide, sh_X12, in_X12, tw1249, Or.inl rfl, rfl, fun h => by first | rfl | decide +kernel | exact absurd h (by decide), ⟨tyX12, tyX12_ok⟩, nmX12⟩
theorem fo_X12_74_740 : FOK RX12 74 740 := ⟨RX12, TX12, 47, "PuzzleWedModel", rfl, by decide, by decide, sh_X12, in_X12, tw1250, Or.inl rfl, rfl, fun h => by first | rfl | decide +kernel | exact absurd h (by decide), ⟨tyX12, tyX12_ok⟩, nmX12⟩
theorem fo_X12_78_741 : FOK RX12 78 741 := ⟨RX12, TX12, 47, "PuzzleWedModel", rfl, by decide, by decide, sh_X12, in_X12, tw1251, Or.inl rfl, rfl, fun h => by first | rfl | decide +kernel | exact absurd h (by decide), ⟨tyX12, tyX12_ok⟩, nmX12⟩
theorem fo_X12_81_742 : FOK RX12 81 742 := ⟨RX12, TX12, 47, "PuzzleWedModel", rfl, by decide, by decide, sh_X12, in_X12, tw1252, Or.inl rfl, rfl, fun h => by first | rfl | decide +kernel | exact absurd h (by decide), ⟨tyX12, tyX12_ok⟩, nmX12⟩
theorem fo_X12_84_743 : FOK RX12 84 743 := ⟨RX12, TX12, 47, "PuzzleWedModel", rfl, by decide, by decide, sh_X12, in_X12, tw1253, Or.inl rfl, rfl, fun h => by first | rfl | decide +kernel | exact absurd h (by decide), ⟨tyX12, tyX12_ok⟩, nmX12⟩
theorem fo_X12_87_744 : FOK RX12 87 744 := ⟨RX12, TX12, 47, "PuzzleWedModel", rfl, by decide, by decide, sh_X12, in_X12, tw1254, Or.inl rfl, rfl, fun h => by first | rfl | decide +kernel | exact absurd h (by decide), ⟨tyX12, tyX12_ok⟩, nmX12⟩
theorem fo_X12_91_745 : FOK RX12 91 745 := ⟨RX12, TX12, 47, "PuzzleWedModel", rfl, by decide, by decide, sh_X12, in_X12, tw1255, Or.inl rfl, rfl, fun h => by first | rfl | decide +kernel | exact absurd h (by decide), ⟨tyX12, tyX12_ok⟩, nmX12⟩
theorem fo_X12_94_746 : FOK RX12 94 746 := ⟨RX12, TX12, 47, "PuzzleWedModel", rfl, by decide, by decide, sh_X12, in_X12, tw1256, Or.inl rfl, rfl, fun h => by first | rfl | decide +kernel | exact absurd h (by decide), ⟨tyX12, tyX12_ok⟩, nmX12⟩
theorem fo_X12_379_747 : FOK RX12 379 747 := ⟨RX12, TX12, 47, "PuzzleWedModel", rfl, by decide, by decide, sh_X12, in_X12, tw1257, Or.inl rfl, rfl, fun h => by first | rfl | decide +kernel | exact absurd h (by decide), ⟨tyX12, tyX12_ok⟩, nmX12⟩
theorem fo_X12_370_748 : FOK RX12 370 748 := ⟨RX12, TX12, 47, "PuzzleWedModel", rfl, by decide, by decide, sh_X12, in_X12, tw1258, Or.inl rfl, rfl, fun h => by first | rfl | decide +kernel | exact absurd h (by decide), ⟨tyX12, tyX12_ok⟩, nmX12⟩
theorem fo_X12_373_749 : FOK RX12 373 749 := ⟨RX12, TX12, 47, "PuzzleWedModel", rfl, by decide, by decide, sh_X12, in_X12, tw1259, Or.inl rfl, rfl, fun h => by first | rfl | decide +kernel | exact absurd h (by decide), ⟨tyX12, tyX12_ok⟩, nmX12⟩
theorem fo_X12_408_750 : FOK RX12 408 750 := ⟨RX12, TX12, 47, "PuzzleWedModel", rfl, by decide, by decide, sh_X12, in_X12, tw1260, Or.inl rfl, rfl, fun h => by first | rfl | decide +kernel | exact absurd h (by decide), ⟨tyX12, tyX12_ok⟩, nmX12⟩
theorem pk_X12 : PLOK RX12 pl_X12 := ⟨List.forall_mem_cons.mpr ⟨fo_X12_7_704, List.forall_mem_cons.mpr ⟨fo_X12_13_705, List.forall_mem_cons.mpr ⟨fo_X12_16_706, List.forall_mem_cons.mpr ⟨fo_X12_19_707, List.forall_mem_cons.mpr ⟨fo_X12_126_708, List.forall_mem_cons.mpr ⟨fo_X12_133_709, List.forall_mem_cons.mpr ⟨fo_X12_136_710, List.forall_mem_cons.mpr ⟨fo_X12_143_711, List.forall_mem_cons.mpr ⟨fo_X12_149_712, List.forall_mem_cons.mpr ⟨fo_X12_160_713, List.forall_mem_cons.mpr ⟨fo_X12_156_714, List.forall_mem_cons.mpr ⟨fo_X12_163_715, List.forall_mem_cons.mpr ⟨fo_X12_213_716, List.forall_mem_cons.mpr ⟨fo_X12_225_717, List.forall_mem_cons.mpr ⟨fo_X12_23_718, List.forall_mem_cons.mpr ⟨fo_X12_26_719, List.forall_mem_cons.mpr ⟨fo_X12_29_720, List.forall_mem_cons.mpr ⟨fo_X12_32_721, List.forall_mem_cons.mpr ⟨fo_X12_35_722, List.forall_mem_cons.mpr ⟨fo_X12_38_723, List.forall_mem_cons.mpr ⟨fo_X12_41_724, List.forall_mem_cons.mpr ⟨fo_X12_44_725, List.forall_mem_cons.mpr ⟨fo_X12_47_726, List.forall_mem_cons.mpr ⟨fo_X12_50_727, List.forall_mem_cons.mpr ⟨fo_X12_53_728, List.forall_mem_cons.mpr ⟨fo_X12_56_729, List.forall_mem_cons.mpr ⟨fo_X12_59_730, List.forall_mem_cons.mpr ⟨fo_X12_62_731, List.forall_mem_cons.mpr ⟨fo_X12_65_732, List.forall_mem_cons.mpr ⟨fo_X12_268_733, List.forall_mem_cons.mpr ⟨fo_X12_274_734, List.forall_mem_cons.mpr ⟨fo_X12_289_735, List.forall_mem_cons.mpr ⟨fo_X12_280_736, List.forall_mem_cons.mpr ⟨fo_X12_302_737, List.forall_mem_cons.mpr ⟨fo_X12_68_738, List.forall_mem_cons.mpr ⟨fo_X12_71_739, List.forall_mem_cons.mpr ⟨fo_X12_74_740, List.forall_mem_cons.mpr ⟨fo_X12_78_741, List.forall_mem_cons.mpr ⟨fo_X12_81_742, List.forall_mem_cons.mpr ⟨fo_X12_84_743, List.forall_mem_cons.mpr ⟨fo_X12_87_744, List.forall_mem_cons.mpr ⟨fo_X12_91_745, List.forall_mem_cons.mpr ⟨fo_X12_94_746, List.forall_mem_cons.mpr ⟨fo_X12_379_747, List.forall_mem_cons.mpr ⟨fo_X12_370_748, List.forall_mem_cons.mpr ⟨fo_X12_373_749, List.forall_mem_cons.mpr ⟨fo_X12_408_750, List.forall_mem_nil _⟩⟩⟩⟩⟩⟩⟩⟩⟩⟩⟩⟩⟩⟩⟩⟩⟩⟩⟩⟩⟩⟩⟩⟩⟩⟩⟩⟩⟩⟩⟩⟩⟩⟩⟩⟩⟩⟩⟩⟩⟩⟩⟩⟩⟩⟩⟩, List.forall_mem_cons.mpr ⟨tw1212, List.forall_mem_cons.mpr ⟨tw1213, List.forall_mem_cons.mpr ⟨tw1440, List.forall_mem_cons.mpr ⟨tw1542, List.forall_mem_cons.mpr ⟨tw1595, List.forall_mem_cons.mpr ⟨tw1647, List.forall_mem_cons.mpr ⟨tw1763, List.forall_mem_nil _⟩⟩⟩⟩⟩⟩⟩, List.forall_mem_nil _, List.forall_mem_nil _⟩
def pl_J11 : PL := ([], [(110, 55232), (76, 56320)], [], [])
theorem pk_J11 : PLOK RJ11 pl_J11 := ⟨List.forall_mem_nil _, List.forall_mem_cons.mpr ⟨tw713, List.forall_mem_cons.mpr ⟨tw717, List.forall_mem_nil _⟩⟩, List.forall_mem_nil _, List.forall_mem_nil _⟩
def pl_J6 : PL := ([], [(265, 1431655765), (266, 858993459), (267, 252645135)], [], [])
theorem pk_J6 : PLOK RJ6 pl_J6 := ⟨List.forall_mem_nil _, List.forall_mem_cons.mpr ⟨tw903, List.forall_mem_cons.mpr ⟨tw904, List.forall_mem_cons.mpr ⟨tw905, List.forall_mem_nil _⟩⟩⟩, List.forall_mem_nil _, List.forall_mem_nil _⟩
def pl_J9 : PL := ([], [], [], [])
theorem pk_J9 : PLOK RJ9 pl_J9 := ⟨List.forall_mem_nil _, List.forall_mem_nil _, List.forall_mem_nil _, List.forall_mem_nil _⟩
def pl_J0 : PL := ([], [], [], [])
theorem pk_J0 : PLOK RJ0 pl_J0 := ⟨List.forall_mem_nil _, List.forall_mem_nil _, List.forall_mem_nil _, List.forall_mem_nil _⟩
def pl_J1 : PL := ([], [], [], [])
theorem pk_J1 : PLOK RJ1 pl_J1 := ⟨List.forall_mem_nil _, List.forall_mem_nil _, List.forall_mem_nil _, List.forall_mem_nil _⟩
def pl_J2 : PL := ([], [(227, 65536)], [], [])
theorem pk_J2 : PLOK RJ2 pl_J2 := ⟨List.forall_mem_nil _, List.forall_mem_cons.mpr ⟨tw674, List.forall_mem_nil _⟩, List.forall_mem_nil _, List.forall_mem_nil _⟩
def pl_J7 : PL := ([], [], [], [])
theorem pk_J7 : PLOK RJ7 pl_J7 := ⟨List.forall_mem_nil _, List.forall_mem_nil _, List.forall_mem_nil _, List.forall_mem_nil _⟩
def pl_J3 : PL := ([], [], [], [])
theorem pk_J3 : PLOK RJ3 pl_J3 := ⟨List.forall_mem_nil _, List.forall_mem_nil _, List.forall_mem_nil _, List.forall_mem_nil _⟩
def pl_L : PL := ([], [], [], [])
theorem pk_L : PLOK RL pl_L := ⟨List.forall_mem_nil _, List.forall_mem_nil _, List.forall_mem_nil _, List.forall_mem_nil _⟩
end
section
/-! THE METHODS' CODES, as lists -/
def m_Pz_isNumber : Mth := (yX11_isNumber, cX11_isNumber, 1, some .boolean, RX11)
def cd_Pz_isNumber : List ME := [(0, .iload_n 0, 0, 0, 0), (1, .ifCond .lt 13, 14, 0, 0), (4, .iload_n 0, 0, 0, 0), (5, .bipush 12, 0, 12, 0), (7, .if_icmp .ge 7, 14, 0, 0), (10, .iconst 1, 0, 1, 0), (11, .goto 4, 15, 0, 0), (14, .iconst 0, 0, 0, 0), (15, .ireturn, 0, 0, 0)]
set_option maxRecDepth 20000 in
theorem bk_Pz_isNumber : BK m_Pz_isNumber cd_Pz_isNumber := ⟨pl_X11, pk_X11, fun E hE => (show ∀ E ∈ cd_Pz_isNumber, decode cX11_isNumber E.1 = .ok (E.2.1, ilen E.2.1) ∧ exE pl_X11 E.1 E.2.1 E.2.2.1 E.2.2.2.1 E.2.2.2.2 = true by decide +kernel) E hE⟩
theorem nk_Pz_isNumber : NK m_Pz_isNumber 1 := ⟨tw554, tw111, ⟨by decide +kernel, by decide +kernel⟩, by decide +kernel, Nat.le_of_ble_eq_true rfl⟩
def m_Land_isTold : Mth := (yX3_isTold, cX3_isTold, 2, some .boolean, RX3)
def cd_Land_isTold : List ME := [(0, .iload_n 1, 0, 0, 0), (1, .invokestatic 51, 0, 0, 0), (4, .ifCond .eq 19, 23, 0, 0), (7, .aload_n 0, 0, 0, 0), (8, .getfield 55, 192, 0, 0), (11, .iload_n 1, 0, 0, 0), (12, .ishr, 0, 0, 0), (13, .iconst 1, 0, 1, 0), (14, .iand, 0, 0, 0), (15, .iconst 1, 0, 1, 0), (16, .if_icmp .ne 7, 23, 0, 0), (19, .iconst 1, 0, 1, 0), (20, .goto 4, 24, 0, 0), (23, .iconst 0, 0, 0, 0), (24, .ireturn, 0, 0, 0)]
set_option maxRecDepth 20000 in
theorem bk_Land_isTold : BK m_Land_isTold cd_Land_isTold := ⟨pl_X3, pk_X3, fun E hE => (show ∀ E ∈ cd_Land_isTold, decode cX3_isTold E.1 = .ok (E.2.1, ilen E.2.1) ∧ exE pl_X3 E.1 E.2.1 E.2.2.1 E.2.2.2.1 E.2.2.2.2 = true by decide +kernel) E hE⟩
theorem nk_Land_isTold : NK m_Land_isTold 1 := ⟨tw558, tw112, ⟨by decide +kernel, by decide +kernel⟩, by decide +kernel, Nat.le_of_ble_eq_true rfl⟩
def m_Pz_person : Mth := (yX11_person, cX11_person, 4, some .boolean, RX11)
def cd_Pz_person : List ME := [(0, .iload_n 1, 0, 0, 0), (1, .invokestatic 104, 0, 0, 0), (4, .ifCond .eq 33, 37, 0, 0), (7, .aload_n 0, 0, 0, 0), (8, .getfield 12, 640, 0, 0), (11, .iload_n 1, 0, 0, 0), (12, .invokevirtual 108, 0, 0, 0), (15, .ifCond .ne 22, 37, 0, 0), (18, .iload_n 2, 0, 0, 0), (19, .ifCond .lt 18, 37, 0, 0), (22, .iload_n 2, 0, 0, 0), (23, .iconst 1, 0, 1, 0), (24, .if_icmp .gt 13, 37, 0, 0), (27, .iload_n 3, 0, 0, 0), (28, .ifCond .lt 9, 37, 0, 0), (31, .iload_n 3, 0, 0, 0), (32, .bipush 6, 0, 6, 0), (34, .if_icmp .lt 5, 39, 0, 0), (37, .iconst 0, 0, 0, 0), (38, .ireturn, 0, 0, 0), (39, .aload_n 0, 0, 0, 0), (40, .getfield 12, 640, 0, 0), (43, .dup, 0, 0, 0), (44, .getfield 111, 192, 0, 0), (47, .iconst 1, 0, 1, 0), (48, .iload_n 1, 0, 0, 0), (49, .ishl, 0, 0, 0), (50, .ior, 0, 0, 0), (51, .putfield 111, 192, 0, 0), (54, .aload_n 0, 0, 0, 0), (55, .getfield 12, 640, 0, 0), (58, .dup, 0, 0, 0), (59, .getfield 115, 193, 0, 0), (62, .iconst 1, 0, 1, 0), (63, .iload_n 1, 0, 0, 0), (64, .ishl, 0, 0, 0), (65, .ior, 0, 0, 0), (66, .putfield 115, 193, 0, 0), (69, .aload_n 0, 0, 0, 0), (70, .getfield 12, 640, 0, 0), (73, .getfield 118, 194, 0, 0), (76, .iload_n 1, 0, 0, 0), (77, .iload_n 2, 0, 0, 0), (78, .iastore, 12, 0, 0), (79, .aload_n 0, 0, 0, 0), (80, .getfield 12, 640, 0, 0), (83, .getfield 121, 195, 0, 0), (86, .iload_n 1, 0, 0, 0), (87, .iload_n 3, 0, 0, 0), (88, .iastore, 12, 0, 0), (89, .iconst 1, 0, 1, 0), (90, .ireturn, 0, 0, 0)]
set_option maxRecDepth 20000 in
theorem bk_Pz_person : BK m_Pz_person cd_Pz_person := ⟨pl_X11, pk_X11, fun E hE => (show ∀ E ∈ cd_Pz_person, decode cX11_person E.1 = .ok (E.2.1, ilen E.2.1) ∧ exE pl_X11 E.1 E.2.1 E.2.2.1 E.2.2.2.1 E.2.2.2.2 = true by decide +kernel) E hE⟩
theorem nk_Pz_person : NK m_Pz_person 3 := ⟨tw551, tw111, ⟨by decide +kernel, by decide +kernel⟩, by decide +kernel, Nat.le_of_ble_eq_true rfl⟩
def m_Pz_wear : Mth := (yX11_wear, cX11_wear, 3, some .boolean, RX11)
def cd_Pz_wear : List ME := [(0, .iload_n 1, 0, 0, 0), (1, .invokestatic 104, 0, 0, 0), (4, .ifCond .eq 13, 17, 0, 0), (7, .iload_n 2, 0, 0, 0), (8, .ifCond .lt 9, 17, 0, 0), (11, .iload_n 2, 0, 0, 0), (12, .bipush 99, 0, 99, 0), (14, .if_icmp .le 5, 19, 0, 0), (17, .iconst 0, 0, 0, 0), (18, .ireturn, 0, 0, 0), (19, .aload_n 0, 0, 0, 0), (20, .getfield 12, 640, 0, 0), (23, .getfield 124, 200, 0, 0), (26, .iload_n 1, 0, 0, 0), (27, .iload_n 2, 0, 0, 0), (28, .iastore, 12, 0, 0), (29, .iconst 1, 0, 1, 0), (30, .ireturn, 0, 0, 0)]
set_option maxRecDepth 20000 in
theorem bk_Pz_wear : BK m_Pz_wear cd_Pz_wear := ⟨pl_X11, pk_X11, fun E hE => (show ∀ E ∈ cd_Pz_wear, decode cX11_wear E.1 = .ok (E.2.1, ilen E.2.1) ∧ exE pl_X11 E.1 E.2.1 E.2.2.1 E.2.2.2.1 E.2.2.2.2 = true by decide +kernel) E hE⟩
theorem nk_Pz_wear : NK m_Pz_wear 2 := ⟨tw563, tw111, ⟨by decide +kernel, by decide +kernel⟩, by decide +kernel, Nat.le_of_ble_eq_true rfl⟩
def m_Land_isAlive : Mth := (yX3_isAlive, cX3_isAlive, 2, some .boolean, RX3)
def cd_Land_isAlive : List ME := [(0, .iload_n 1, 0, 0, 0), (1, .invokestatic 51, 0, 0, 0), (4, .ifCond .eq 19, 23, 0, 0), (7, .aload_n 0, 0, 0, 0), (8, .getfield 58, 193, 0, 0), (11, .iload_n 1, 0, 0, 0), (12, .ishr, 0, 0, 0), (13, .iconst 1, 0, 1, 0), (14, .iand, 0, 0, 0), (15, .iconst 1, 0, 1, 0), (16, .if_icmp .ne 7, 23, 0, 0), (19, .iconst 1, 0, 1, 0), (20, .goto 4, 24, 0, 0), (23, .iconst 0, 0, 0, 0), (24, .ireturn, 0, 0, 0)]
set_option maxRecDepth 20000 in
theorem bk_Land_isAlive : BK m_Land_isAlive cd_Land_isAlive := ⟨pl_X3, pk_X3, fun E hE => (show ∀ E ∈ cd_Land_isAlive, decode cX3_isAlive E.1 = .ok (E.2.1, ilen E.2.1) ∧ exE pl_X3 E.1 E.2.1 E.2.2.1 E.2.2.2.1 E.2.2.2.2 = true by decide +kernel) E hE⟩
theorem nk_Land_isAlive : NK m_Land_isAlive 1 := ⟨tw571, tw112, ⟨by decide +kernel, by decide +kernel⟩, by decide +kernel, Nat.le_of_ble_eq_true rfl⟩
def m_Land_separate : Mth := (yX3_separate, cX3_separate, 3, none, RX3)
def cd_Land_separate : List ME := [(0, .iload_n 1, 0, 0, 0), (1, .invokestatic 51, 0, 0, 0), (4, .ifCond .eq 26, 30, 0, 0), (7, .iload_n 2, 0, 0, 0), (8, .invokestatic 51, 0, 0, 0), (11, .ifCond .eq 19, 30, 0, 0), (14, .aload_n 0, 0, 0, 0), (15, .getfield 18, 196, 0, 0), (18, .iload_n 1, 0, 0, 0), (19, .bipush (-2), 0, (-2), 0), (21, .iastore, 12, 0, 0), (22, .aload_n 0, 0, 0, 0), (23, .getfield 18, 196, 0, 0), (26, .iload_n 2, 0, 0, 0), (27, .bipush (-2), 0, (-2), 0), (29, .iastore, 12, 0, 0), (30, .return_, 0, 0, 0)]
set_option maxRecDepth 20000 in
theorem bk_Land_separate : BK m_Land_separate cd_Land_separate := ⟨pl_X3, pk_X3, fun E hE => (show ∀ E ∈ cd_Land_separate, decode cX3_separate E.1 = .ok (E.2.1, ilen E.2.1) ∧ exE pl_X3 E.1 E.2.1 E.2.2.1 E.2.2.2.1 E.2.2.2.2 = true by decide +kernel) E hE⟩
theorem nk_Land_separate : NK m_Land_separate 2 := ⟨tw579, tw112, ⟨by decide +kernel, by decide +kernel⟩, by decide +kernel, Nat.le_of_ble_eq_true rfl⟩
def m_Land_bury : Mth := (yX3_bury, cX3_bury, 4, none, RX3)
def cd_Land_bury : List ME := [(0, .iload_n 1, 0, 0, 0), (1, .invokestatic 51, 0, 0, 0), (4, .ifCond .ne 4, 8, 0, 0), (7, .return_, 0, 0, 0), (8, .aload_n 0, 0, 0, 0), (9, .getfield 18, 196, 0, 0), (12, .iload_n 1, 0, 0, 0), (13, .iaload, 12, 0, 0), (14, .istore_n 2, 0, 0, 0), (15, .iconst 0, 0, 0, 0), (16, .istore_n 3, 0, 0, 0), (17, .iload_n 3, 0, 0, 0), (18, .bipush 12, 0, 12, 0), (20, .if_icmp .ge 26, 46, 0, 0), (23, .aload_n 0, 0, 0, 0), (24, .getfield 27, 199, 0, 0), (27, .iload_n 3, 0, 0, 0), (28, .iaload, 12, 0, 0), (29, .iload_n 1, 0, 0, 0), (30, .if_icmp .ne 10, 40, 0, 0), (33, .aload_n 0, 0, 0, 0), (34, .getfield 27, 199, 0, 0), (37, .iload_n 3, 0, 0, 0), (38, .iload_n 2, 0, 0, 0), (39, .iastore, 12, 0, 0), (40, .iinc 3 1, 0, 1, 0), (43, .goto (-26), 17, 0, 0), (46, .aload_n 0, 0, 0, 0), (47, .iload_n 1, 0, 0, 0), (48, .iload_n 2, 0, 0, 0), (49, .invokevirtual 64, 0, 0, 0), (52, .aload_n 0, 0, 0, 0), (53, .dup, 0, 0, 0), (54, .getfield 58, 193, 0, 0), (57, .iconst 1, 0, 1, 0), (58, .iload_n 1, 0, 0, 0), (59, .ishl, 0, 0, 0), (60, .iconst (-1), 0, (-1), 0), (61, .ixor, 0, 0, 0), (62, .iand, 0, 0, 0), (63, .putfield 58, 193, 0, 0), (66, .return_, 0, 0, 0)]
set_option maxRecDepth 20000 in
theorem bk_Land_bury : BK m_Land_bury cd_Land_bury := ⟨pl_X3, pk_X3, fun E hE => (show ∀ E ∈ cd_Land_bury, decode cX3_bury E.1 = .ok (E.2.1, ilen E.2.1) ∧ exE pl_X3 E.1 E.2.1 E.2.2.1 E.2.2.2.1 E.2.2.2.2 = true by decide +kernel) E hE⟩
theorem nk_Land_bury : NK m_Land_bury 1 := ⟨tw575, tw112, ⟨by decide +kernel, by decide +kernel⟩, by decide +kernel, Nat.le_of_ble_eq_true rfl⟩
def m_Pz_dies : Mth := (yX11_dies, cX11_dies, 2, some .boolean, RX11)
def cd_Pz_dies : List ME := [(0, .aload_n 0, 0, 0, 0), (1, .getfield 12, 640, 0, 0), (4, .iload_n 1, 0, 0, 0), (5, .invokevirtual 127, 0, 0, 0), (8, .ifCond .ne 5, 13, 0, 0), (11, .iconst 0, 0, 0, 0), (12, .ireturn, 0, 0, 0), (13, .aload_n 0, 0, 0, 0), (14, .getfield 12, 640, 0, 0), (17, .iload_n 1, 0, 0, 0), (18, .invokevirtual 130, 0, 0, 0), (21, .iconst 1, 0, 1, 0), (22, .ireturn, 0, 0, 0)]
set_option maxRecDepth 20000 in
theorem bk_Pz_dies : BK m_Pz_dies cd_Pz_dies := ⟨pl_X11, pk_X11, fun E hE => (show ∀ E ∈ cd_Pz_dies, decode cX11_dies E.1 = .ok (E.2.1, ilen E.2.1) ∧ exE pl_X11 E.1 E.2.1 E.2.2.1 E.2.2.2.1 E.2.2.2.2 = true by decide +kernel) E hE⟩
theorem nk_Pz_dies : NK m_Pz_dies 1 := ⟨tw567, tw111, ⟨by decide +kernel, by decide +kernel⟩, by decide +kernel, Nat.le_of_ble_eq_true rfl⟩
def m_Land_isFree : Mth := (yX3_isFree, cX3_isFree, 2, some .boolean, RX3)
def cd_Land_isFree : List ME := [(0, .aload_n 0, 0, 0, 0), (1, .iload_n 1, 0, 0, 0), (2, .invokevirtual 61, 0, 0, 0), (5, .ifCond .eq 18, 23, 0, 0), (8, .aload_n 0, 0, 0, 0), (9, .getfield 18, 196, 0, 0), (12, .iload_n 1, 0, 0, 0), (13, .iaload, 12, 0, 0), (14, .bipush (-2), 0, (-2), 0), (16, .if_icmp .ne 7, 23, 0, 0), (19, .iconst 1, 0, 1, 0), (20, .goto 4, 24, 0, 0), (23, .iconst 0, 0, 0, 0), (24, .ireturn, 0, 0, 0)]
set_option maxRecDepth 20000 in
theorem bk_Land_isFree : BK m_Land_isFree cd_Land_isFree := ⟨pl_X3, pk_X3, fun E hE => (show ∀ E ∈ cd_Land_isFree, decode cX3_isFree E.1 = .ok (E.2.1, ilen E.2.1) ∧ exE pl_X3 E.1 E.2.1 E.2.2.1 E.2.2.2.1 E.2.2.2.2 = true by decide +kernel) E hE⟩
theorem nk_Land_isFree : NK m_Land_isFree 1 := ⟨tw587, tw112, ⟨by decide +kernel, by decide +kernel⟩, by decide +kernel, Nat.le_of_ble_eq_true rfl⟩
def m_Land_join : Mth := (yX3_join, cX3_join, 3, none, RX3)
def cd_Land_join : List ME := [(0, .iload_n 1, 0, 0, 0), (1, .invokestatic 51, 0, 0, 0), (4, .ifCond .eq 38, 42, 0, 0), (7, .iload_n 2, 0, 0, 0), (8, .invokestatic 51, 0, 0, 0), (11, .ifCond .eq 31, 42, 0, 0), (14, .aload_n 0, 0, 0, 0), (15, .getfield 18, 196, 0, 0), (18, .iload_n 1, 0, 0, 0), (19, .iload_n 2, 0, 0, 0), (20, .iastore, 12, 0, 0), (21, .aload_n 0, 0, 0, 0), (22, .getfield 18, 196, 0, 0), (25, .iload_n 2, 0, 0, 0), (26, .iload_n 1, 0, 0, 0), (27, .iastore, 12, 0, 0), (28, .aload_n 0, 0, 0, 0), (29, .getfield 21, 197, 0, 0), (32, .iload_n 1, 0, 0, 0), (33, .iconst 0, 0, 0, 0), (34, .iastore, 12, 0, 0), (35, .aload_n 0, 0, 0, 0), (36, .getfield 21, 197, 0, 0), (39, .iload_n 2, 0, 0, 0), (40, .iconst 0, 0, 0, 0), (41, .iastore, 12, 0, 0), (42, .return_, 0, 0, 0)]
set_option maxRecDepth 20000 in
theorem bk_Land_join : BK m_Land_join cd_Land_join := ⟨pl_X3, pk_X3, fun E hE => (show ∀ E ∈ cd_Land_join, decode cX3_join E.1 = .ok (E.2.1, ilen E.2.1) ∧ exE pl_X3 E.1 E.2.1 E.2.2.1 E.2.2.2.1 E.2.2.2.2 = true by decide +kernel) E hE⟩
theorem nk_Land_join : NK m_Land_join 2 := ⟨tw592, tw112, ⟨by decide +kernel, by decide +kernel⟩, by decide +kernel, Nat.le_of_ble_eq_true rfl⟩
def m_Pz_weds : Mth := (yX11_weds, cX11_weds, 3, some .boolean, RX11)
def cd_Pz_weds : List ME := [(0, .aload_n 0, 0, 0, 0), (1, .getfield 12, 640, 0, 0), (4, .iload_n 1, 0, 0, 0), (5, .invokevirtual 134, 0, 0, 0), (8, .ifCond .eq 39, 47, 0, 0), (11, .aload_n 0, 0, 0, 0), (12, .getfield 12, 640, 0, 0), (15, .iload_n 2, 0, 0, 0), (16, .invokevirtual 134, 0, 0, 0), (19, .ifCond .eq 28, 47, 0, 0), (22, .aload_n 0, 0, 0, 0), (23, .getfield 12, 640, 0, 0), (26, .getfield 118, 194, 0, 0), (29, .iload_n 1, 0, 0, 0), (30, .iaload, 12, 0, 0), (31, .ifCond .ne 16, 47, 0, 0), (34, .aload_n 0, 0, 0, 0), (35, .getfield 12, 640, 0, 0), (38, .getfield 118, 194, 0, 0), (41, .iload_n 2, 0, 0, 0), (42, .iaload, 12, 0, 0), (43, .iconst 1, 0, 1, 0), (44, .if_icmp .eq 5, 49, 0, 0), (47, .iconst 0, 0, 0, 0), (48, .ireturn, 0, 0, 0), (49, .aload_n 0, 0, 0, 0), (50, .getfield 12, 640, 0, 0), (53, .iload_n 1, 0, 0, 0), (54, .iload_n 2, 0, 0, 0), (55, .invokevirtual 137, 0, 0, 0), (58, .iconst 1, 0, 1, 0), (59, .ireturn, 0, 0, 0)]
set_option maxRecDepth 20000 in
theorem bk_Pz_weds : BK m_Pz_weds cd_Pz_weds := ⟨pl_X11, pk_X11, fun E hE => (show ∀ E ∈ cd_Pz_weds, decode cX11_weds E.1 = .ok (E.2.1, ilen E.2.1) ∧ exE pl_X11 E.1 E.2.1 E.2.2.1 E.2.2.2.1 E.2.2.2.2 = true by decide +kernel) E hE⟩
theorem nk_Pz_weds : NK m_Pz_weds 2 := ⟨tw583, tw111, ⟨by decide +kernel, by decide +kernel⟩, by decide +kernel, Nat.le_of_ble_eq_true rfl⟩
def m_Tape_add : Mth := (yX10_add, cX10_add, 3, none, RX10)
def cd_Tape_add : List ME := [(0, .bipush 24, 0, 24, 0), (2, .istore_n 2, 0, 0, 0), (3, .iload_n 2, 0, 0, 0), (4, .ifCond .lt 52, 56, 0, 0), (7, .aload_n 0, 0, 0, 0), (8, .getfield 15, 577, 0, 0), (11, .ifCond .lt 39, 50, 0, 0), (14, .aload_n 0, 0, 0, 0), (15, .getfield 15, 577, 0, 0), (18, .sipush 260, 0, 260, 0), (21, .if_icmp .ge 29, 50, 0, 0), (24, .aload_n 0, 0, 0, 0), (25, .getfield 9, 576, 0, 0), (28, .aload_n 0, 0, 0, 0), (29, .getfield 15, 577, 0, 0), (32, .iload_n 1, 0, 0, 0), (33, .iload_n 2, 0, 0, 0), (34, .iushr, 0, 0, 0), (35, .sipush 255, 0, 255, 0), (38, .iand, 0, 0, 0), (39, .iastore, 260, 0, 0), (40, .aload_n 0, 0, 0, 0), (41, .dup, 0, 0, 0), (42, .getfield 15, 577, 0, 0), (45, .iconst 1, 0, 1, 0), (46, .iadd, 0, 0, 0), (47, .putfield 15, 577, 0, 0), (50, .iinc 2 (-8), 0, (-8), 0), (53, .goto (-50), 3, 0, 0), (56, .return_, 0, 0, 0)]
set_option maxRecDepth 20000 in
theorem bk_Tape_add : BK m_Tape_add cd_Tape_add := ⟨pl_X10, pk_X10, fun E hE => (show ∀ E ∈ cd_Tape_add, decode cX10_add E.1 = .ok (E.2.1, ilen E.2.1) ∧ exE pl_X10 E.1 E.2.1 E.2.2.1 E.2.2.2.1 E.2.2.2.2 = true by decide +kernel) E hE⟩
theorem nk_Tape_add : NK m_Tape_add 1 := ⟨tw600, tw113, ⟨by decide +kernel, by decide +kernel⟩, by decide +kernel, Nat.le_of_ble_eq_true rfl⟩
def m_Pz_feed : Mth := (yX11_feed, cX11_feed, 6, some .int, RX11)
def cd_Pz_feed : List ME := [(0, .aload_n 0, 0, 0, 0), (1, .getfield 29, 644, 0, 0), (4, .getfield 141, 577, 0, 0), (7, .bipush 20, 0, 20, 0), (9, .iadd, 0, 0, 0), (10, .sipush 260, 0, 260, 0), (13, .if_icmp .le 5, 18, 0, 0), (16, .iconst (-1), 0, (-1), 0), (17, .ireturn, 0, 0, 0), (18, .aload_n 0, 0, 0, 0), (19, .getfield 29, 644, 0, 0), (22, .iload_n 1, 0, 0, 0), (23, .invokevirtual 144, 0, 0, 0), (26, .aload_n 0, 0, 0, 0), (27, .getfield 29, 644, 0, 0), (30, .iload_n 2, 0, 0, 0), (31, .invokevirtual 144, 0, 0, 0), (34, .aload_n 0, 0, 0, 0), (35, .getfield 29, 644, 0, 0), (38, .iload_n 3, 0, 0, 0), (39, .invokevirtual 144, 0, 0, 0), (42, .aload_n 0, 0, 0, 0), (43, .getfield 29, 644, 0, 0), (46, .iload 4, 0, 0, 0), (48, .invokevirtual 144, 0, 0, 0), (51, .aload_n 0, 0, 0, 0), (52, .getfield 29, 644, 0, 0), (55, .iload 5, 0, 0, 0), (57, .invokevirtual 144, 0, 0, 0), (60, .aload_n 0, 0, 0, 0), (61, .getfield 29, 644, 0, 0), (64, .getfield 141, 577, 0, 0), (67, .ireturn, 0, 0, 0)]
set_option maxRecDepth 20000 in
theorem bk_Pz_feed : BK m_Pz_feed cd_Pz_feed := ⟨pl_X11, pk_X11, fun E hE => (show ∀ E ∈ cd_Pz_feed, decode cX11_feed E.1 = .ok (E.2.1, ilen E.2.1) ∧ exE pl_X11 E.1 E.2.1 E.2.2.1 E.2.2.2.1 E.2.2.2.2 = true by decide +kernel) E hE⟩
theorem nk_Pz_feed : NK m_Pz_feed 5 := ⟨tw596, tw111, ⟨by decide +kernel, by decide +kernel⟩, by decide +kernel, Nat.le_of_ble_eq_true rfl⟩
def m_Reader_begin : Mth := (yX7_begin, cX7_begin, 2, none, RX7)
def cd_Reader_begin : List ME := [(0, .aload_n 0, 0, 0, 0), (1, .iload_n 1, 0, 0, 0), (2, .putfield 15, 321, 0, 0), (5, .aload_n 0, 0, 0, 0), (6, .iconst 0, 0, 0, 0), (7, .putfield 19, 322, 0, 0), (10, .aload_n 0, 0, 0, 0), (11, .iconst 0, 0, 0, 0), (12, .putfield 22, 323, 0, 0), (15, .return_, 0, 0, 0)]
set_option maxRecDepth 20000 in
theorem bk_Reader_begin : BK m_Reader_begin cd_Reader_begin := ⟨pl_X7, pk_X7, fun E hE => (show ∀ E ∈ cd_Reader_begin, decode cX7_begin E.1 = .ok (E.2.1, ilen E.2.1) ∧ exE pl_X7 E.1 E.2.1 E.2.2.1 E.2.2.2.1 E.2.2.2.2 = true by decide +kernel) E hE⟩
theorem nk_Reader_begin : NK m_Reader_begin 1 := ⟨tw614, tw115, ⟨by decide +kernel, by decide +kernel⟩, by decide +kernel, Nat.le_of_ble_eq_true rfl⟩
def m_Reader_isEnd : Mth := (yX7_isEnd, cX7_isEnd, 1, some .boolean, RX7)
def cd_Reader_isEnd : List ME := [(0, .aload_n 0, 0, 0, 0), (1, .getfield 19, 322, 0, 0), (4, .aload_n 0, 0, 0, 0), (5, .getfield 15, 321, 0, 0), (8, .if_icmp .lt 7, 15, 0, 0), (11, .iconst 1, 0, 1, 0), (12, .goto 4, 16, 0, 0), (15, .iconst 0, 0, 0, 0), (16, .ireturn, 0, 0, 0)]
set_option maxRecDepth 20000 in
theorem bk_Reader_isEnd : BK m_Reader_isEnd cd_Reader_isEnd := ⟨pl_X7, pk_X7, fun E hE => (show ∀ E ∈ cd_Reader_isEnd, decode cX7_isEnd E.1 = .ok (E.2.1, ilen E.2.1) ∧ exE pl_X7 E.1 E.2.1 E.2.2.1 E.2.2.2.1 E.2.2.2.2 = true by decide +kernel) E hE⟩
theorem nk_Reader_isEnd : NK m_Reader_isEnd 0 := ⟨tw624, tw115, ⟨by decide +kernel, by decide +kernel⟩, by decide +kernel, Nat.le_of_ble_eq_true rfl⟩
def m_Reader_sign : Mth := (yX7_sign, cX7_sign, 1, some .int, RX7)
def cd_Reader_sign : List ME := [(0, .aload_n 0, 0, 0, 0), (1, .getfield 19, 322, 0, 0), (4, .ifCond .lt 39, 43, 0, 0), (7, .aload_n 0, 0, 0, 0), (8, .getfield 19, 322, 0, 0), (11, .aload_n 0, 0, 0, 0), (12, .getfield 15, 321, 0, 0), (15, .if_icmp .ge 28, 43, 0, 0), (18, .aload_n 0, 0, 0, 0), (19, .getfield 19, 322, 0, 0), (22, .sipush 260, 0, 260, 0), (25, .if_icmp .ge 18, 43, 0, 0), (28, .aload_n 0, 0, 0, 0), (29, .getfield 9, 320, 0, 0), (32, .getfield 25, 576, 0, 0), (35, .aload_n 0, 0, 0, 0), (36, .getfield 19, 322, 0, 0), (39, .iaload, 260, 0, 0), (40, .goto 4, 44, 0, 0), (43, .iconst (-1), 0, (-1), 0), (44, .ireturn, 0, 0, 0)]
set_option maxRecDepth 20000 in
theorem bk_Reader_sign : BK m_Reader_sign cd_Reader_sign := ⟨pl_X7, pk_X7, fun E hE => (show ∀ E ∈ cd_Reader_sign, decode cX7_sign E.1 = .ok (E.2.1, ilen E.2.1) ∧ exE pl_X7 E.1 E.2.1 E.2.2.1 E.2.2.2.1 E.2.2.2.2 = true by decide +kernel) E hE⟩
theorem nk_Reader_sign : NK m_Reader_sign 0 := ⟨tw631, tw115, ⟨by decide +kernel, by decide +kernel⟩, by decide +kernel, Nat.le_of_ble_eq_true rfl⟩
def m_String_isLatin1_t0 : Mth := (yJ0_isLatin1_aae02, cJ0_isLatin1_aae02, 1, some .boolean, RJ0)
def cd_String_isLatin1_t0 : List ME := [(3, .ifCond .eq 14, 17, 0, 0), (6, .aload_n 0, 0, 0, 0), (10, .ifCond .ne 7, 17, 0, 0), (13, .iconst 1, 0, 1, 0), (14, .goto 4, 18, 0, 0), (17, .iconst 0, 0, 0, 0), (18, .ireturn, 0, 0, 0)]
set_option maxRecDepth 20000 in
theorem bk_String_isLatin1_t0 : BK m_String_isLatin1_t0 cd_String_isLatin1_t0 := ⟨pl_J0, pk_J0, fun E hE => (show ∀ E ∈ cd_String_isLatin1_t0, decode cJ0_isLatin1_aae02 E.1 = .ok (E.2.1, ilen E.2.1) ∧ exE pl_J0 E.1 E.2.1 E.2.2.1 E.2.2.2.1 E.2.2.2.2 = true by decide +kernel) E hE⟩
theorem nk_String_isLatin1_t0 : NK m_String_isLatin1_t0 0 := ⟨tw643, tw124, ⟨by decide +kernel, by decide +kernel⟩, by decide +kernel, Nat.le_of_ble_eq_true rfl⟩
def m_String_coder_t0 : Mth := (yJ0_coder_7d493, cJ0_coder_7d493, 1, some .byte, RJ0)
def cd_String_coder_t0 : List ME := [(3, .ifCond .eq 10, 13, 0, 0), (6, .aload_n 0, 0, 0, 0), (10, .goto 4, 14, 0, 0), (13, .iconst 1, 0, 1, 0), (14, .ireturn, 0, 0, 0)]
set_option maxRecDepth 20000 in
theorem bk_String_coder_t0 : BK m_String_coder_t0 cd_String_coder_t0 := ⟨pl_J0, pk_J0, fun E hE => (show ∀ E ∈ cd_String_coder_t0, decode cJ0_coder_7d493 E.1 = .ok (E.2.1, ilen E.2.1) ∧ exE pl_J0 E.1 E.2.1 E.2.2.1 E.2.2.2.1 E.2.2.2.2 = true by decide +kernel) E hE⟩
theorem nk_String_coder_t0 : NK m_String_coder_t0 0 := ⟨tw653, tw124, ⟨by decide +kernel, by decide +kernel⟩, by decide +kernel, Nat.le_of_ble_eq_true rfl⟩
def m_String_length_t0 : Mth := (yJ0_length_8abf5, cJ0_length_8abf5, 1, some .int, RJ0)
def cd_String_length_t0 : List ME := [(0, .aload_n 0, 0, 0, 0), (4, .arraylength, 5, 5, 0), (5, .aload_n 0, 0, 0, 0), (6, .invokevirtual 335, 0, 0, 0), (9, .ishr, 0, 0, 0), (10, .ireturn, 0, 0, 0)]
set_option maxRecDepth 20000 in
theorem bk_String_length_t0 : BK m_String_length_t0 cd_String_length_t0 := ⟨pl_J0, pk_J0, fun E hE => (show ∀ E ∈ cd_String_length_t0, decode cJ0_length_8abf5 E.1 = .ok (E.2.1, ilen E.2.1) ∧ exE pl_J0 E.1 E.2.1 E.2.2.1 E.2.2.2.1 E.2.2.2.2 = true by decide +kernel) E hE⟩
theorem nk_String_length_t0 : NK m_String_length_t0 0 := ⟨tw649, tw124, ⟨by decide +kernel, by decide +kernel⟩, by decide +kernel, Nat.le_of_ble_eq_true rfl⟩
def m_StringLatin1_canEncode : Mth := (yJ1_canEncode_9a6ad, cJ1_canEncode_9a6ad, 1, some .boolean, RJ1)
def cd_StringLatin1_canEncode : List ME := [(0, .iload_n 0, 0, 0, 0), (1, .ifCond .lt 14, 15, 0, 0), (4, .iload_n 0, 0, 0, 0), (5, .sipush 255, 0, 255, 0), (8, .if_icmp .gt 7, 15, 0, 0), (11, .iconst 1, 0, 1, 0), (12, .goto 4, 16, 0, 0), (15, .iconst 0, 0, 0, 0), (16, .ireturn, 0, 0, 0)]
set_option maxRecDepth 20000 in
theorem bk_StringLatin1_canEncode : BK m_StringLatin1_canEncode cd_StringLatin1_canEncode := ⟨pl_J1, pk_J1, fun E hE => (show ∀ E ∈ cd_StringLatin1_canEncode, decode cJ1_canEncode_9a6ad E.1 = .ok (E.2.1, ilen E.2.1) ∧ exE pl_J1 E.1 E.2.1 E.2.2.1 E.2.2.2.1 E.2.2.2.2 = true by decide +kernel) E hE⟩
theorem nk_StringLatin1_canEncode : NK m_StringLatin1_canEncode 1 := ⟨tw659, tw125, ⟨by decide +kernel, by decide +kernel⟩, by decide +kernel, Nat.le_of_ble_eq_true rfl⟩
def m_StringLatin1_indexOfChar_t0 : Mth := (yJ1_indexOfChar_4cfef, cJ1_indexOfChar_4cfef, 6, some .int, RJ1)
def cd_StringLatin1_indexOfChar_t0 : List ME := [(0, .iload_n 1, 0, 0, 0), (1, .i2b, 0, 0, 0), (2, .istore 4, 0, 0, 0), (4, .iload_n 2, 0, 0, 0), (5, .istore 5, 0, 0, 0), (7, .iload 5, 0, 0, 0), (9, .iload_n 3, 0, 0, 0), (10, .if_icmp .ge 21, 31, 0, 0), (13, .aload_n 0, 0, 0, 0), (14, .iload 5, 0, 0, 0), (16, .baload, 5, 0, 0), (17, .iload 4, 0, 0, 0), (19, .if_icmp .ne 6, 25, 0, 0), (22, .iload 5, 0, 0, 0), (24, .ireturn, 0, 0, 0), (25, .iinc 5 1, 0, 1, 0), (28, .goto (-21), 7, 0, 0), (31, .iconst (-1), 0, (-1), 0), (32, .ireturn, 0, 0, 0)]
set_option maxRecDepth 20000 in
theorem bk_StringLatin1_indexOfChar_t0 : BK m_StringLatin1_indexOfChar_t0 cd_StringLatin1_indexOfChar_t0 := ⟨pl_J1, pk_J1, fun E hE => (show ∀ E ∈ cd_StringLatin1_indexOfChar_t0, decode cJ1_indexOfChar_4cfef E.1 = .ok (E.2.1, ilen E.2.1) ∧ exE pl_J1 E.1 E.2.1 E.2.2.1 E.2.2.2.1 E.2.2.2.2 = true by decide +kernel) E hE⟩
theorem nk_StringLatin1_indexOfChar_t0 : NK m_StringLatin1_indexOfChar_t0 4 := ⟨tw668, tw125, ⟨by decide +kernel, by decide +kernel⟩, by decide +kernel, Nat.le_of_ble_eq_true rfl⟩
def m_StringLatin1_indexOf_t0 : Mth := (yJ1_indexOf_4cfef, cJ1_indexOf_4cfef, 4, some .int, RJ1)
def cd_StringLatin1_indexOf_t0 : List ME := [(0, .iload_n 1, 0, 0, 0), (1, .invokestatic 88, 0, 0, 0), (4, .ifCond .ne 5, 9, 0, 0), (7, .iconst (-1), 0, (-1), 0), (8, .ireturn, 0, 0, 0), (9, .iload_n 2, 0, 0, 0), (10, .iconst 0, 0, 0, 0), (11, .invokestatic 92, 0, 0, 0), (14, .istore_n 2, 0, 0, 0), (15, .iload_n 3, 0, 0, 0), (16, .aload_n 0, 0, 0, 0), (17, .arraylength, 5, 5, 0), (18, .invokestatic 38, 0, 0, 0), (21, .istore_n 3, 0, 0, 0), (22, .iload_n 2, 0, 0, 0), (23, .iload_n 3, 0, 0, 0), (24, .if_icmp .lt 5, 29, 0, 0), (27, .iconst (-1), 0, (-1), 0), (28, .ireturn, 0, 0, 0), (29, .aload_n 0, 0, 0, 0), (30, .iload_n 1, 0, 0, 0), (31, .iload_n 2, 0, 0, 0), (32, .iload_n 3, 0, 0, 0), (33, .invokestatic 95, 0, 0, 0), (36, .ireturn, 0, 0, 0)]
set_option maxRecDepth 20000 in
theorem bk_StringLatin1_indexOf_t0 : BK m_StringLatin1_indexOf_t0 cd_StringLatin1_indexOf_t0 := ⟨pl_J1, pk_J1, fun E hE => (show ∀ E ∈ cd_StringLatin1_indexOf_t0, decode cJ1_indexOf_4cfef E.1 = .ok (E.2.1, ilen E.2.1) ∧ exE pl_J1 E.1 E.2.1 E.2.2.1 E.2.2.2.1 E.2.2.2.2 = true by decide +kernel) E hE⟩
theorem nk_StringLatin1_indexOf_t0 : NK m_StringLatin1_indexOf_t0 4 := ⟨tw656, tw125, ⟨by decide +kernel, by decide +kernel⟩, by decide +kernel, Nat.le_of_ble_eq_true rfl⟩
def m_String_indexOf_ii_t0 : Mth := (yJ0_indexOf_7cf53, cJ0_indexOf_7cf53, 3, some .int, RJ0)
def cd_String_indexOf_ii_t0 : List ME := [(0, .aload_n 0, 0, 0, 0), (1, .invokevirtual 492, 0, 0, 0), (4, .ifCond .eq 19, 23, 0, 0), (7, .aload_n 0, 0, 0, 0), (11, .iload_n 1, 0, 0, 0), (12, .iload_n 2, 0, 0, 0), (13, .aload_n 0, 0, 0, 0), (14, .invokevirtual 505, 0, 0, 0), (17, .invokestatic 637, 0, 0, 0), (20, .goto 16, 36, 0, 0), (36, .ireturn, 0, 0, 0)]
set_option maxRecDepth 20000 in
theorem bk_String_indexOf_ii_t0 : BK m_String_indexOf_ii_t0 cd_String_indexOf_ii_t0 := ⟨pl_J0, pk_J0, fun E hE => (show ∀ E ∈ cd_String_indexOf_ii_t0, decode cJ0_indexOf_7cf53 E.1 = .ok (E.2.1, ilen E.2.1) ∧ exE pl_J0 E.1 E.2.1 E.2.2.1 E.2.2.2.1 E.2.2.2.2 = true by decide +kernel) E hE⟩
theorem nk_String_indexOf_ii_t0 : NK m_String_indexOf_ii_t0 2 := ⟨tw639, tw124, ⟨by decide +kernel, by decide +kernel⟩, by decide +kernel, Nat.le_of_ble_eq_true rfl⟩
def m_String_indexOf_i_t0 : Mth := (yJ0_indexOf_0f7a4, cJ0_indexOf_0f7a4, 2, some .int, RJ0)
def cd_String_indexOf_i_t0 : List ME := [(0, .aload_n 0, 0, 0, 0), (1, .iload_n 1, 0, 0, 0), (2, .iconst 0, 0, 0, 0), (3, .invokevirtual 633, 0, 0, 0), (6, .ireturn, 0, 0, 0)]
set_option maxRecDepth 20000 in
theorem bk_String_indexOf_i_t0 : BK m_String_indexOf_i_t0 cd_String_indexOf_i_t0 := ⟨pl_J0, pk_J0, fun E hE => (show ∀ E ∈ cd_String_indexOf_i_t0, decode cJ0_indexOf_0f7a4 E.1 = .ok (E.2.1, ilen E.2.1) ∧ exE pl_J0 E.1 E.2.1 E.2.2.1 E.2.2.2.1 E.2.2.2.2 = true by decide +kernel) E hE⟩
theorem nk_String_indexOf_i_t0 : NK m_String_indexOf_i_t0 1 := ⟨tw635, tw124, ⟨by decide +kernel, by decide +kernel⟩, by decide +kernel, Nat.le_of_ble_eq_true rfl⟩
def m_Law_emit : Mth := (yX4_emit, cX4_emit, 2, none, RX4)
def cd_Law_emit : List ME := [(0, .aload_n 0, 0, 0, 0), (1, .getfield 27, 261, 0, 0), (4, .ifCond .lt 33, 37, 0, 0), (7, .aload_n 0, 0, 0, 0), (8, .getfield 27, 261, 0, 0), (11, .sipush 512, 0, 512, 0), (14, .if_icmp .ge 23, 37, 0, 0), (17, .aload_n 0, 0, 0, 0), (18, .getfield 11, 256, 0, 0), (21, .aload_n 0, 0, 0, 0), (22, .getfield 27, 261, 0, 0), (25, .iload_n 1, 0, 0, 0), (26, .iastore, 512, 0, 0), (27, .aload_n 0, 0, 0, 0), (28, .dup, 0, 0, 0), (29, .getfield 27, 261, 0, 0), (32, .iconst 1, 0, 1, 0), (33, .iadd, 0, 0, 0), (34, .putfield 27, 261, 0, 0), (37, .return_, 0, 0, 0)]
set_option maxRecDepth 20000 in
theorem bk_Law_emit : BK m_Law_emit cd_Law_emit := ⟨pl_X4, pk_X4, fun E hE => (show ∀ E ∈ cd_Law_emit, decode cX4_emit E.1 = .ok (E.2.1, ilen E.2.1) ∧ exE pl_X4 E.1 E.2.1 E.2.2.1 E.2.2.2.1 E.2.2.2.2 = true by decide +kernel) E hE⟩
theorem nk_Law_emit : NK m_Law_emit 1 := ⟨tw753, tw114, ⟨by decide +kernel, by decide +kernel⟩, by decide +kernel, Nat.le_of_ble_eq_true rfl⟩
def m_Reader_failAt : Mth := (yX7_failAt, cX7_failAt, 3, some .boolean, RX7)
def cd_Reader_failAt : List ME := [(0, .aload_n 0, 0, 0, 0), (1, .sipush (-1000), 0, (-1000), 0), (4, .iload_n 1, 0, 0, 0), (5, .imul, 0, 0, 0), (6, .iload_n 2, 0, 0, 0), (7, .isub, 0, 0, 0), (8, .putfield 22, 323, 0, 0), (11, .iconst 0, 0, 0, 0), (12, .ireturn, 0, 0, 0)]
set_option maxRecDepth 20000 in
theorem bk_Reader_failAt : BK m_Reader_failAt cd_Reader_failAt := ⟨pl_X7, pk_X7, fun E hE => (show ∀ E ∈ cd_Reader_failAt, decode cX7_failAt E.1 = .ok (E.2.1, ilen E.2.1) ∧ exE pl_X7 E.1 E.2.1 E.2.2.1 E.2.2.2.1 E.2.2.2.2 = true by decide +kernel) E hE⟩
theorem nk_Reader_failAt : NK m_Reader_failAt 2 := ⟨tw729, tw115, ⟨by decide +kernel, by decide +kernel⟩, by decide +kernel, Nat.le_of_ble_eq_true rfl⟩
def m_Reader_fail : Mth := (yX7_fail, cX7_fail, 2, some .boolean, RX7)
def cd_Reader_fail : List ME := [(0, .aload_n 0, 0, 0, 0), (1, .iload_n 1, 0, 0, 0), (2, .aload_n 0, 0, 0, 0), (3, .getfield 19, 322, 0, 0), (6, .invokevirtual 31, 0, 0, 0), (9, .ireturn, 0, 0, 0)]
set_option maxRecDepth 20000 in
theorem bk_Reader_fail : BK m_Reader_fail cd_Reader_fail := ⟨pl_X7, pk_X7, fun E hE => (show ∀ E ∈ cd_Reader_fail, decode cX7_fail E.1 = .ok (E.2.1, ilen E.2.1) ∧ exE pl_X7 E.1 E.2.1 E.2.2.1 E.2.2.2.1 E.2.2.2.2 = true by decide +kernel) E hE⟩
theorem nk_Reader_fail : NK m_Reader_fail 1 := ⟨tw723, tw115, ⟨by decide +kernel, by decide +kernel⟩, by decide +kernel, Nat.le_of_ble_eq_true rfl⟩
def m_LawReader_pass : Mth := (yX5_pass, cX5_pass, 2, some .boolean, RX5)
def cd_LawReader_pass : List ME := [(0, .aload_n 0, 0, 0, 0), (1, .invokevirtual 35, 0, 0, 0), (4, .iload_n 1, 0, 0, 0), (5, .if_icmp .eq 9, 14, 0, 0), (8, .aload_n 0, 0, 0, 0), (9, .iconst 1, 0, 1, 0), (10, .invokevirtual 39, 0, 0, 0), (13, .ireturn, 0, 0, 0), (14, .aload_n 0, 0, 0, 0), (15, .dup, 0, 0, 0), (16, .getfield 43, 322, 0, 0), (19, .iconst 1, 0, 1, 0), (20, .iadd, 0, 0, 0), (21, .putfield 43, 322, 0, 0), (24, .iconst 1, 0, 1, 0), (25, .ireturn, 0, 0, 0)]
set_option maxRecDepth 20000 in
theorem bk_LawReader_pass : BK m_LawReader_pass cd_LawReader_pass := ⟨pl_X5, pk_X5, fun E hE => (show ∀ E ∈ cd_LawReader_pass, decode cX5_pass E.1 = .ok (E.2.1, ilen E.2.1) ∧ exE pl_X5 E.1 E.2.1 E.2.2.1 E.2.2.2.1 E.2.2.2.2 = true by decide +kernel) E hE⟩
theorem nk_LawReader_pass : NK m_LawReader_pass 1 := ⟨tw745, tw116, ⟨by decide +kernel, by decide +kernel⟩, by decide +kernel, Nat.le_of_ble_eq_true rfl⟩
def m_Law_copyFrom : Mth := (yX4_copyFrom, cX4_copyFrom, 2, none, RX4)
def cd_Law_copyFrom : List ME := [(0, .aload_n 1, 0, 0, 0), (1, .ifnonnull 4, 5, 0, 0), (5, .aload_n 1, 0, 0, 0), (6, .getfield 11, 256, 0, 0), (9, .iconst 0, 0, 0, 0), (10, .aload_n 0, 0, 0, 0), (11, .getfield 11, 256, 0, 0), (14, .iconst 0, 0, 0, 0), (15, .sipush 512, 0, 512, 0), (18, .invokestatic 31, 0, 0, 0), (21, .aload_n 1, 0, 0, 0), (22, .getfield 15, 257, 0, 0), (25, .iconst 0, 0, 0, 0), (26, .aload_n 0, 0, 0, 0), (27, .getfield 15, 257, 0, 0), (30, .iconst 0, 0, 0, 0), (31, .bipush 16, 0, 16, 0), (33, .invokestatic 31, 0, 0, 0), (36, .aload_n 1, 0, 0, 0), (37, .getfield 18, 258, 0, 0), (40, .iconst 0, 0, 0, 0), (41, .aload_n 0, 0, 0, 0), (42, .getfield 18, 258, 0, 0), (45, .iconst 0, 0, 0, 0), (46, .bipush 16, 0, 16, 0), (48, .invokestatic 31, 0, 0, 0), (51, .aload_n 1, 0, 0, 0), (52, .getfield 21, 259, 0, 0), (55, .iconst 0, 0, 0, 0), (56, .aload_n 0, 0, 0, 0), (57, .getfield 21, 259, 0, 0), (60, .iconst 0, 0, 0, 0), (61, .bipush 16, 0, 16, 0), (63, .invokestatic 31, 0, 0, 0), (66, .aload_n 0, 0, 0, 0), (67, .aload_n 1, 0, 0, 0), (68, .getfield 37, 262, 0, 0), (71, .putfield 37, 262, 0, 0), (74, .return_, 0, 0, 0)]
set_option maxRecDepth 20000 in
theorem bk_Law_copyFrom : BK m_Law_copyFrom cd_Law_copyFrom := ⟨pl_X4, pk_X4, fun E hE => (show ∀ E ∈ cd_Law_copyFrom, decode cX4_copyFrom E.1 = .ok (E.2.1, ilen E.2.1) ∧ exE pl_X4 E.1 E.2.1 E.2.2.1 E.2.2.2.1 E.2.2.2.2 = true by decide +kernel) E hE⟩
theorem nk_Law_copyFrom : NK m_Law_copyFrom 1 := ⟨tw782, tw114, ⟨by decide +kernel, by decide +kernel⟩, by decide +kernel, Nat.le_of_ble_eq_true rfl⟩
def m_Reader_begin_2 : Mth := (yX7_begin, cX7_begin, 2, none, RX7)
def cd_Reader_begin_2 : List ME := [(0, .aload_n 0, 0, 0, 0), (1, .iload_n 1, 0, 0, 0), (2, .putfield 15, 385, 0, 0), (5, .aload_n 0, 0, 0, 0), (6, .iconst 0, 0, 0, 0), (7, .putfield 19, 386, 0, 0), (10, .aload_n 0, 0, 0, 0), (11, .iconst 0, 0, 0, 0), (12, .putfield 22, 387, 0, 0), (15, .return_, 0, 0, 0)]
set_option maxRecDepth 20000 in
theorem bk_Reader_begin_2 : BK m_Reader_begin_2 cd_Reader_begin_2 := ⟨pl_X7, pk_X7, fun E hE => (show ∀ E ∈ cd_Reader_begin_2, decode cX7_begin E.1 = .ok (E.2.1, ilen E.2.1) ∧ exE pl_X7 E.1 E.2.1 E.2.2.1 E.2.2.2.1 E.2.2.2.2 = true by decide +kernel) E hE⟩
theorem nk_Reader_begin_2 : NK m_Reader_begin_2 1 := ⟨tw614, tw115, ⟨by decide +kernel, by decide +kernel⟩, by decide +kernel, Nat.le_of_ble_eq_true rfl⟩
def m_Reader_sign_2 : Mth := (yX7_sign, cX7_sign, 1, some .int, RX7)
def cd_Reader_sign_2 : List ME := [(0, .aload_n 0, 0, 0, 0), (1, .getfield 19, 386, 0, 0), (4, .ifCond .lt 39, 43, 0, 0), (7, .aload_n 0, 0, 0, 0), (8, .getfield 19, 386, 0, 0), (11, .aload_n 0, 0, 0, 0), (12, .getfield 15, 385, 0, 0), (15, .if_icmp .ge 28, 43, 0, 0), (18, .aload_n 0, 0, 0, 0), (19, .getfield 19, 386, 0, 0), (22, .sipush 260, 0, 260, 0), (25, .if_icmp .ge 18, 43, 0, 0), (28, .aload_n 0, 0, 0, 0), (29, .getfield 9, 384, 0, 0), (32, .getfield 25, 576, 0, 0), (35, .aload_n 0, 0, 0, 0), (36, .getfield 19, 386, 0, 0), (39, .iaload, 260, 0, 0), (40, .goto 4, 44, 0, 0), (43, .iconst (-1), 0, (-1), 0), (44, .ireturn, 0, 0, 0)]
set_option maxRecDepth 20000 in
theorem bk_Reader_sign_2 : BK m_Reader_sign_2 cd_Reader_sign_2 := ⟨pl_X7, pk_X7, fun E hE => (show ∀ E ∈ cd_Reader_sign_2, decode cX7_sign E.1 = .ok (E.2.1, ilen E.2.1) ∧ exE pl_X7 E.1 E.2.1 E.2.2.1 E.2.2.2.1 E.2.2.2.2 = true by decide +kernel) E hE⟩
theorem nk_Reader_sign_2 : NK m_Reader_sign_2 0 := ⟨tw631, tw115, ⟨by decide +kernel, by decide +kernel⟩, by decide +kernel, Nat.le_of_ble_eq_true rfl⟩
def m_Reader_failAt_2 : Mth := (yX7_failAt, cX7_failAt, 3, some .boolean, RX7)
def cd_Reader_failAt_2 : List ME := [(0, .aload_n 0, 0, 0, 0), (1, .sipush (-1000), 0, (-1000), 0), (4, .iload_n 1, 0, 0, 0), (5, .imul, 0, 0, 0), (6, .iload_n 2, 0, 0, 0), (7, .isub, 0, 0, 0), (8, .putfield 22, 387, 0, 0), (11, .iconst 0, 0, 0, 0), (12, .ireturn, 0, 0, 0)]
set_option maxRecDepth 20000 in
theorem bk_Reader_failAt_2 : BK m_Reader_failAt_2 cd_Reader_failAt_2 := ⟨pl_X7, pk_X7, fun E hE => (show ∀ E ∈ cd_Reader_failAt_2, decode cX7_failAt E.1 = .ok (E.2.1, ilen E.2.1) ∧ exE pl_X7 E.1 E.2.1 E.2.2.1 E.2.2.2.1 E.2.2.2.2 = true by decide +kernel) E hE⟩
theorem nk_Reader_failAt_2 : NK m_Reader_failAt_2 2 := ⟨tw729, tw115, ⟨by decide +kernel, by decide +kernel⟩, by decide +kernel, Nat.le_of_ble_eq_true rfl⟩
def m_Reader_fail_2 : Mth := (yX7_fail, cX7_fail, 2, some .boolean, RX7)
def cd_Reader_fail_2 : List ME := [(0, .aload_n 0, 0, 0, 0), (1, .iload_n 1, 0, 0, 0), (2, .aload_n 0, 0, 0, 0), (3, .getfield 19, 386, 0, 0), (6, .invokevirtual 31, 0, 0, 0), (9, .ireturn, 0, 0, 0)]
set_option maxRecDepth 20000 in
theorem bk_Reader_fail_2 : BK m_Reader_fail_2 cd_Reader_fail_2 := ⟨pl_X7, pk_X7, fun E hE => (show ∀ E ∈ cd_Reader_fail_2, decode cX7_fail E.1 = .ok (E.2.1, ilen E.2.1) ∧ exE pl_X7 E.1 E.2.1 E.2.2.1 E.2.2.2.1 E.2.2.2.2 = true by decide +kernel) E hE⟩
theorem nk_Reader_fail_2 : NK m_Reader_fail_2 1 := ⟨tw723, tw115, ⟨by decide +kernel, by decide +kernel⟩, by decide +kernel, Nat.le_of_ble_eq_true rfl⟩
def m_ListReader_readHeight : Mth := (yX6_readHeight, cX6_readHeight, 3, some .boolean, RX6)
def cd_ListReader_readHeight : List ME := [(0, .aload_n 0, 0, 0, 0), (1, .invokevirtual 51, 0, 0, 0), (4, .bipush 45, 0, 45, 0), (6, .if_icmp .ne 7, 13, 0, 0), (9, .iconst 1, 0, 1, 0), (10, .goto 4, 14, 0, 0), (13, .iconst 0, 0, 0, 0), (14, .istore_n 1, 0, 0, 0), (15, .iload_n 1, 0, 0, 0), (16, .ifCond .eq 13, 29, 0, 0), (19, .aload_n 0, 0, 0, 0), (20, .dup, 0, 0, 0), (21, .getfield 23, 386, 0, 0), (24, .iconst 1, 0, 1, 0), (25, .iadd, 0, 0, 0), (26, .putfield 23, 386, 0, 0), (29, .aload_n 0, 0, 0, 0), (30, .invokevirtual 51, 0, 0, 0), (33, .istore_n 2, 0, 0, 0), (34, .iload_n 2, 0, 0, 0), (35, .iload_n 1, 0, 0, 0), (36, .ifCond .eq 8, 44, 0, 0), (39, .bipush 49, 0, 49, 0), (41, .goto 5, 46, 0, 0), (44, .bipush 48, 0, 48, 0), (46, .if_icmp .lt 9, 55, 0, 0), (49, .iload_n 2, 0, 0, 0), (50, .bipush 57, 0, 57, 0), (52, .if_icmp .le 9, 61, 0, 0), (55, .aload_n 0, 0, 0, 0), (56, .iconst 1, 0, 1, 0), (57, .invokevirtual 48, 0, 0, 0), (60, .ireturn, 0, 0, 0), (61, .aload_n 0, 0, 0, 0), (62, .iload_n 1, 0, 0, 0), (63, .ifCond .eq 10, 73, 0, 0), (66, .bipush 48, 0, 48, 0), (68, .iload_n 2, 0, 0, 0), (69, .isub, 0, 0, 0), (70, .goto 7, 77, 0, 0), (73, .iload_n 2, 0, 0, 0), (74, .bipush 48, 0, 48, 0), (76, .isub, 0, 0, 0), (77, .putfield 55, 390, 0, 0), (80, .aload_n 0, 0, 0, 0), (81, .dup, 0, 0, 0), (82, .getfield 23, 386, 0, 0), (85, .iconst 1, 0, 1, 0), (86, .iadd, 0, 0, 0), (87, .putfield 23, 386, 0, 0), (90, .iconst 1, 0, 1, 0), (91, .ireturn, 0, 0, 0)]
set_option maxRecDepth 20000 in
theorem bk_ListReader_readHeight : BK m_ListReader_readHeight cd_ListReader_readHeight := ⟨pl_X6, pk_X6, fun E hE => (show ∀ E ∈ cd_ListReader_readHeight, decode cX6_readHeight E.1 = .ok (E.2.1, ilen E.2.1) ∧ exE pl_X6 E.1 E.2.1 E.2.2.1 E.2.2.2.1 E.2.2.2.2 = true by decide +kernel) E hE⟩
theorem nk_ListReader_readHeight : NK m_ListReader_readHeight 0 := ⟨tw801, tw117, ⟨by decide +kernel, by decide +kernel⟩, by decide +kernel, Nat.le_of_ble_eq_true rfl⟩
def m_ListReader_readTimes : Mth := (yX6_readTimes, cX6_readTimes, 3, some .boolean, RX6)
def cd_ListReader_readTimes : List ME := [(0, .aload_n 0, 0, 0, 0), (1, .iconst 1, 0, 1, 0), (2, .putfield 34, 391, 0, 0), (5, .aload_n 0, 0, 0, 0), (6, .invokevirtual 51, 0, 0, 0), (9, .bipush 42, 0, 42, 0), (11, .if_icmp .eq 5, 16, 0, 0), (14, .iconst 1, 0, 1, 0), (15, .ireturn, 0, 0, 0), (16, .aload_n 0, 0, 0, 0), (17, .dup, 0, 0, 0), (18, .getfield 23, 386, 0, 0), (21, .iconst 1, 0, 1, 0), (22, .iadd, 0, 0, 0), (23, .putfield 23, 386, 0, 0), (26, .aload_n 0, 0, 0, 0), (27, .invokevirtual 51, 0, 0, 0), (30, .istore_n 2, 0, 0, 0), (31, .iload_n 2, 0, 0, 0), (32, .bipush 50, 0, 50, 0), (34, .if_icmp .lt 8, 42, 0, 0), (37, .iload_n 2, 0, 0, 0), (38, .iload_n 1, 0, 0, 0), (39, .if_icmp .le 9, 48, 0, 0), (42, .aload_n 0, 0, 0, 0), (43, .iconst 1, 0, 1, 0), (44, .invokevirtual 48, 0, 0, 0), (47, .ireturn, 0, 0, 0), (48, .aload_n 0, 0, 0, 0), (49, .iload_n 2, 0, 0, 0), (50, .bipush 48, 0, 48, 0), (52, .isub, 0, 0, 0), (53, .putfield 34, 391, 0, 0), (56, .aload_n 0, 0, 0, 0), (57, .dup, 0, 0, 0), (58, .getfield 23, 386, 0, 0), (61, .iconst 1, 0, 1, 0), (62, .iadd, 0, 0, 0), (63, .putfield 23, 386, 0, 0), (66, .iconst 1, 0, 1, 0), (67, .ireturn, 0, 0, 0)]
set_option maxRecDepth 20000 in
theorem bk_ListReader_readTimes : BK m_ListReader_readTimes cd_ListReader_readTimes := ⟨pl_X6, pk_X6, fun E hE => (show ∀ E ∈ cd_ListReader_readTimes, decode cX6_readTimes E.1 = .ok (E.2.1, ilen E.2.1) ∧ exE pl_X6 E.1 E.2.1 E.2.2.1 E.2.2.2.1 E.2.2.2.2 = true by decide +kernel) E hE⟩
theorem nk_ListReader_readTimes : NK m_ListReader_readTimes 1 := ⟨tw811, tw117, ⟨by decide +kernel, by decide +kernel⟩, by decide +kernel, Nat.le_of_ble_eq_true rfl⟩
def m_ListReader_put : Mth := (yX6_put, cX6_put, 2, none, RX6)
def cd_ListReader_put : List ME := [(0, .iconst 0, 0, 0, 0), (1, .istore_n 1, 0, 0, 0), (2, .iload_n 1, 0, 0, 0), (3, .aload_n 0, 0, 0, 0), (4, .getfield 34, 391, 0, 0), (7, .if_icmp .ge 49, 56, 0, 0), (10, .aload_n 0, 0, 0, 0), (11, .getfield 19, 389, 0, 0), (14, .ifCond .lt 36, 50, 0, 0), (17, .aload_n 0, 0, 0, 0), (18, .getfield 19, 389, 0, 0), (21, .sipush 144, 0, 144, 0), (24, .if_icmp .ge 26, 50, 0, 0), (27, .aload_n 0, 0, 0, 0), (28, .getfield 9, 388, 0, 0), (31, .aload_n 0, 0, 0, 0), (32, .getfield 19, 389, 0, 0), (35, .aload_n 0, 0, 0, 0), (36, .getfield 55, 390, 0, 0), (39, .iastore, 144, 0, 0), (40, .aload_n 0, 0, 0, 0), (41, .dup, 0, 0, 0), (42, .getfield 19, 389, 0, 0), (45, .iconst 1, 0, 1, 0), (46, .iadd, 0, 0, 0), (47, .putfield 19, 389, 0, 0), (50, .iinc 1 1, 0, 1, 0), (53, .goto (-51), 2, 0, 0), (56, .return_, 0, 0, 0)]
set_option maxRecDepth 20000 in
theorem bk_ListReader_put : BK m_ListReader_put cd_ListReader_put := ⟨pl_X6, pk_X6, fun E hE => (show ∀ E ∈ cd_ListReader_put, decode cX6_put E.1 = .ok (E.2.1, ilen E.2.1) ∧ exE pl_X6 E.1 E.2.1 E.2.2.1 E.2.2.2.1 E.2.2.2.2 = true by decide +kernel) E hE⟩
theorem nk_ListReader_put : NK m_ListReader_put 0 := ⟨tw819, tw117, ⟨by decide +kernel, by decide +kernel⟩, by decide +kernel, Nat.le_of_ble_eq_true rfl⟩
def m_Reader_isEnd_2 : Mth := (yX7_isEnd, cX7_isEnd, 1, some .boolean, RX7)
def cd_Reader_isEnd_2 : List ME := [(0, .aload_n 0, 0, 0, 0), (1, .getfield 19, 386, 0, 0), (4, .aload_n 0, 0, 0, 0), (5, .getfield 15, 385, 0, 0), (8, .if_icmp .lt 7, 15, 0, 0), (11, .iconst 1, 0, 1, 0), (12, .goto 4, 16, 0, 0), (15, .iconst 0, 0, 0, 0), (16, .ireturn, 0, 0, 0)]
set_option maxRecDepth 20000 in
theorem bk_Reader_isEnd_2 : BK m_Reader_isEnd_2 cd_Reader_isEnd_2 := ⟨pl_X7, pk_X7, fun E hE => (show ∀ E ∈ cd_Reader_isEnd_2, decode cX7_isEnd E.1 = .ok (E.2.1, ilen E.2.1) ∧ exE pl_X7 E.1 E.2.1 E.2.2.1 E.2.2.2.1 E.2.2.2.2 = true by decide +kernel) E hE⟩
theorem nk_Reader_isEnd_2 : NK m_Reader_isEnd_2 0 := ⟨tw624, tw115, ⟨by decide +kernel, by decide +kernel⟩, by decide +kernel, Nat.le_of_ble_eq_true rfl⟩
def m_ListReader_readEdge : Mth := (yX6_readEdge, cX6_readEdge, 4, some .boolean, RX6)
def cd_ListReader_readEdge : List ME := [(0, .aload_n 0, 0, 0, 0), (1, .iload_n 1, 0, 0, 0), (2, .invokevirtual 15, 0, 0, 0), (5, .aload_n 0, 0, 0, 0), (6, .iconst 0, 0, 0, 0), (7, .putfield 19, 389, 0, 0), (10, .iconst 0, 0, 0, 0), (11, .istore_n 2, 0, 0, 0), (12, .iload_n 2, 0, 0, 0), (13, .iload_n 1, 0, 0, 0), (14, .if_icmp .ge 113, 127, 0, 0), (17, .aload_n 0, 0, 0, 0), (18, .getfield 23, 386, 0, 0), (21, .istore_n 3, 0, 0, 0), (22, .aload_n 0, 0, 0, 0), (23, .invokevirtual 26, 0, 0, 0), (26, .ifCond .eq 12, 38, 0, 0), (29, .aload_n 0, 0, 0, 0), (30, .bipush 56, 0, 56, 0), (32, .invokevirtual 30, 0, 0, 0), (35, .ifCond .ne 5, 40, 0, 0), (38, .iconst 0, 0, 0, 0), (39, .ireturn, 0, 0, 0), (40, .aload_n 0, 0, 0, 0), (41, .getfield 19, 389, 0, 0), (44, .aload_n 0, 0, 0, 0), (45, .getfield 34, 391, 0, 0), (48, .iadd, 0, 0, 0), (49, .bipush 8, 0, 8, 0), (51, .if_icmp .le 11, 62, 0, 0), (54, .aload_n 0, 0, 0, 0), (55, .bipush 6, 0, 6, 0), (57, .iload_n 3, 0, 0, 0), (58, .invokevirtual 37, 0, 0, 0), (61, .ireturn, 0, 0, 0), (62, .aload_n 0, 0, 0, 0), (63, .invokevirtual 41, 0, 0, 0), (66, .aload_n 0, 0, 0, 0), (67, .invokevirtual 45, 0, 0, 0), (70, .ifCond .eq 26, 96, 0, 0), (73, .aload_n 0, 0, 0, 0), (74, .getfield 19, 389, 0, 0), (77, .bipush 8, 0, 8, 0), (79, .if_icmp .eq 11, 90, 0, 0), (82, .aload_n 0, 0, 0, 0), (83, .iconst 1, 0, 1, 0), (84, .invokevirtual 48, 0, 0, 0), (87, .ifCond .eq 7, 94, 0, 0), (90, .iconst 1, 0, 1, 0), (91, .goto 4, 95, 0, 0), (94, .iconst 0, 0, 0, 0), (95, .ireturn, 0, 0, 0), (96, .aload_n 0, 0, 0, 0), (97, .invokevirtual 51, 0, 0, 0), (100, .bipush 44, 0, 44, 0), (102, .if_icmp .eq 9, 111, 0, 0), (105, .aload_n 0, 0, 0, 0), (106, .iconst 1, 0, 1, 0), (107, .invokevirtual 48, 0, 0, 0), (110, .ireturn, 0, 0, 0), (111, .aload_n 0, 0, 0, 0), (112, .dup, 0, 0, 0), (113, .getfield 23, 386, 0, 0), (116, .iconst 1, 0, 1, 0), (117, .iadd, 0, 0, 0), (118, .putfield 23, 386, 0, 0), (121, .iinc 2 1, 0, 1, 0), (124, .goto (-112), 12, 0, 0), (127, .aload_n 0, 0, 0, 0), (128, .iconst 1, 0, 1, 0), (129, .invokevirtual 48, 0, 0, 0), (132, .ireturn, 0, 0, 0)]
set_option maxRecDepth 20000 in
theorem bk_ListReader_readEdge : BK m_ListReader_readEdge cd_ListReader_readEdge := ⟨pl_X6, pk_X6, fun E hE => (show ∀ E ∈ cd_ListReader_readEdge, decode cX6_readEdge E.1 = .ok (E.2.1, ilen E.2.1) ∧ exE pl_X6 E.1 E.2.1 E.2.2.1 E.2.2.2.1 E.2.2.2.2 = true by decide +kernel) E hE⟩
theorem nk_ListReader_readEdge : NK m_ListReader_readEdge 1 := ⟨tw794, tw117, ⟨by decide +kernel, by decide +kernel⟩, by decide +kernel, Nat.le_of_ble_eq_true rfl⟩
def m_Pz_edge : Mth := (yX11_edge, cX11_edge, 6, some .int, RX11)
def cd_Pz_edge : List ME := [(0, .iload_n 1, 0, 0, 0), (1, .invokestatic 104, 0, 0, 0), (4, .ifCond .eq 25, 29, 0, 0), (7, .iload_n 2, 0, 0, 0), (8, .iconst 1, 0, 1, 0), (9, .if_icmp .lt 20, 29, 0, 0), (12, .iload_n 2, 0, 0, 0), (13, .bipush 40, 0, 40, 0), (15, .if_icmp .gt 14, 29, 0, 0), (18, .iload_n 2, 0, 0, 0), (19, .aload_n 0, 0, 0, 0), (20, .getfield 29, 644, 0, 0), (23, .getfield 141, 577, 0, 0), (26, .if_icmp .le 5, 31, 0, 0), (29, .iconst (-1), 0, (-1), 0), (30, .ireturn, 0, 0, 0), (31, .aload_n 0, 0, 0, 0), (32, .getfield 57, 648, 0, 0), (35, .iload_n 2, 0, 0, 0), (36, .invokevirtual 159, 0, 0, 0), (39, .istore_n 3, 0, 0, 0), (40, .aload_n 0, 0, 0, 0), (41, .getfield 29, 644, 0, 0), (44, .iconst 0, 0, 0, 0), (45, .putfield 141, 577, 0, 0), (48, .iload_n 3, 0, 0, 0), (49, .ifCond .ne 11, 60, 0, 0), (52, .aload_n 0, 0, 0, 0), (53, .getfield 57, 648, 0, 0), (56, .getfield 162, 387, 0, 0), (59, .ireturn, 0, 0, 0), (60, .iconst 0, 0, 0, 0), (61, .istore 4, 0, 0, 0), (63, .iconst 0, 0, 0, 0), (64, .istore 5, 0, 0, 0), (66, .iload 5, 0, 0, 0), (68, .bipush 8, 0, 8, 0), (70, .if_icmp .ge 49, 119, 0, 0), (73, .aload_n 0, 0, 0, 0), (74, .getfield 12, 640, 0, 0), (77, .getfield 163, 201, 0, 0), (80, .iload_n 1, 0, 0, 0), (81, .aaload, 12, 0, 0), (82, .iload 5, 0, 0, 0), (84, .aload_n 0, 0, 0, 0), (85, .getfield 57, 648, 0, 0), (88, .getfield 167, 388, 0, 0), (91, .iload 5, 0, 0, 0), (93, .iaload, 144, 0, 0), (94, .iastore, 8, 0, 0), (95, .iload 4, 0, 0, 0), (97, .aload_n 0, 0, 0, 0), (98, .getfield 57, 648, 0, 0), (101, .getfield 167, 388, 0, 0), (104, .iload 5, 0, 0, 0), (106, .iaload, 144, 0, 0), (107, .invokestatic 170, 0, 0, 0), (110, .iadd, 0, 0, 0), (111, .istore 4, 0, 0, 0), (113, .iinc 5 1, 0, 1, 0), (116, .goto (-50), 66, 0, 0), (119, .iload 4, 0, 0, 0), (121, .ireturn, 0, 0, 0)]
set_option maxRecDepth 20000 in
theorem bk_Pz_edge : BK m_Pz_edge cd_Pz_edge := ⟨pl_X11, pk_X11, fun E hE => (show ∀ E ∈ cd_Pz_edge, decode cX11_edge E.1 = .ok (E.2.1, ilen E.2.1) ∧ exE pl_X11 E.1 E.2.1 E.2.2.1 E.2.2.2.1 E.2.2.2.2 = true by decide +kernel) E hE⟩
theorem nk_Pz_edge : NK m_Pz_edge 2 := ⟨tw790, tw111, ⟨by decide +kernel, by decide +kernel⟩, by decide +kernel, Nat.le_of_ble_eq_true rfl⟩
def m_ListReader_readWay : Mth := (yX6_readWay, cX6_readWay, 4, some .boolean, RX6)
def cd_ListReader_readWay : List ME := [(0, .aload_n 0, 0, 0, 0), (1, .iload_n 1, 0, 0, 0), (2, .invokevirtual 15, 0, 0, 0), (5, .aload_n 0, 0, 0, 0), (6, .iconst 0, 0, 0, 0), (7, .putfield 19, 389, 0, 0), (10, .iconst 0, 0, 0, 0), (11, .istore_n 2, 0, 0, 0), (12, .iload_n 2, 0, 0, 0), (13, .bipush 16, 0, 16, 0), (15, .if_icmp .gt 123, 138, 0, 0), (18, .aload_n 0, 0, 0, 0), (19, .invokevirtual 51, 0, 0, 0), (22, .istore_n 3, 0, 0, 0), (23, .iload_n 3, 0, 0, 0), (24, .bipush 48, 0, 48, 0), (26, .if_icmp .lt 9, 35, 0, 0), (29, .iload_n 3, 0, 0, 0), (30, .bipush 57, 0, 57, 0), (32, .if_icmp .le 9, 41, 0, 0), (35, .aload_n 0, 0, 0, 0), (36, .iconst 1, 0, 1, 0), (37, .invokevirtual 48, 0, 0, 0), (40, .ireturn, 0, 0, 0), (41, .iload_n 2, 0, 0, 0), (42, .bipush 16, 0, 16, 0), (44, .if_icmp .ne 9, 53, 0, 0), (47, .aload_n 0, 0, 0, 0), (48, .iconst 4, 0, 4, 0), (49, .invokevirtual 48, 0, 0, 0), (52, .ireturn, 0, 0, 0), (53, .iload_n 3, 0, 0, 0), (54, .bipush 53, 0, 53, 0), (56, .if_icmp .le 9, 65, 0, 0), (59, .aload_n 0, 0, 0, 0), (60, .iconst 3, 0, 3, 0), (61, .invokevirtual 48, 0, 0, 0), (64, .ireturn, 0, 0, 0), (65, .aload_n 0, 0, 0, 0), (66, .iload_n 3, 0, 0, 0), (67, .bipush 48, 0, 48, 0), (69, .isub, 0, 0, 0), (70, .putfield 55, 390, 0, 0), (73, .aload_n 0, 0, 0, 0), (74, .dup, 0, 0, 0), (75, .getfield 23, 386, 0, 0), (78, .iconst 1, 0, 1, 0), (79, .iadd, 0, 0, 0), (80, .putfield 23, 386, 0, 0), (83, .aload_n 0, 0, 0, 0), (84, .bipush 57, 0, 57, 0), (86, .invokevirtual 30, 0, 0, 0), (89, .ifCond .ne 5, 94, 0, 0), (92, .iconst 0, 0, 0, 0), (93, .ireturn, 0, 0, 0), (94, .aload_n 0, 0, 0, 0), (95, .invokevirtual 41, 0, 0, 0), (98, .aload_n 0, 0, 0, 0), (99, .invokevirtual 45, 0, 0, 0), (102, .ifCond .eq 5, 107, 0, 0), (105, .iconst 1, 0, 1, 0), (106, .ireturn, 0, 0, 0), (107, .aload_n 0, 0, 0, 0), (108, .invokevirtual 51, 0, 0, 0), (111, .bipush 44, 0, 44, 0), (113, .if_icmp .eq 9, 122, 0, 0), (116, .aload_n 0, 0, 0, 0), (117, .iconst 1, 0, 1, 0), (118, .invokevirtual 48, 0, 0, 0), (121, .ireturn, 0, 0, 0), (122, .aload_n 0, 0, 0, 0), (123, .dup, 0, 0, 0), (124, .getfield 23, 386, 0, 0), (127, .iconst 1, 0, 1, 0), (128, .iadd, 0, 0, 0), (129, .putfield 23, 386, 0, 0), (132, .iinc 2 1, 0, 1, 0), (135, .goto (-123), 12, 0, 0), (138, .aload_n 0, 0, 0, 0), (139, .iconst 1, 0, 1, 0), (140, .invokevirtual 48, 0, 0, 0), (143, .ireturn, 0, 0, 0)]
set_option maxRecDepth 20000 in
theorem bk_ListReader_readWay : BK m_ListReader_readWay cd_ListReader_readWay := ⟨pl_X6, pk_X6, fun E hE => (show ∀ E ∈ cd_ListReader_readWay, decode cX6_readWay E.1 = .ok (E.2.1, ilen E.2.1) ∧ exE pl_X6 E.1 E.2.1 E.2.2.1 E.2.2.2.1 E.2.2.2.2 = true by decide +kernel) E hE⟩
theorem nk_ListReader_readWay : NK m_ListReader_readWay 1 := ⟨tw833, tw117, ⟨by decide +kernel, by decide +kernel⟩, by decide +kernel, Nat.le_of_ble_eq_true rfl⟩
def m_Pz_journey : Mth := (yX11_journey, cX11_journey, 4, some .int, RX11)
def cd_Pz_journey : List ME := [(0, .aload_n 0, 0, 0, 0), (1, .getfield 12, 640, 0, 0), (4, .iload_n 1, 0, 0, 0), (5, .invokevirtual 108, 0, 0, 0), (8, .ifCond .eq 25, 33, 0, 0), (11, .iload_n 2, 0, 0, 0), (12, .iconst 1, 0, 1, 0), (13, .if_icmp .lt 20, 33, 0, 0), (16, .iload_n 2, 0, 0, 0), (17, .bipush 40, 0, 40, 0), (19, .if_icmp .gt 14, 33, 0, 0), (22, .iload_n 2, 0, 0, 0), (23, .aload_n 0, 0, 0, 0), (24, .getfield 29, 644, 0, 0), (27, .getfield 141, 577, 0, 0), (30, .if_icmp .le 5, 35, 0, 0), (33, .iconst (-1), 0, (-1), 0), (34, .ireturn, 0, 0, 0), (35, .aload_n 0, 0, 0, 0), (36, .getfield 57, 648, 0, 0), (39, .iload_n 2, 0, 0, 0), (40, .invokevirtual 176, 0, 0, 0), (43, .istore_n 3, 0, 0, 0), (44, .aload_n 0, 0, 0, 0), (45, .getfield 29, 644, 0, 0), (48, .iconst 0, 0, 0, 0), (49, .putfield 141, 577, 0, 0), (52, .iload_n 3, 0, 0, 0), (53, .ifCond .ne 11, 64, 0, 0), (56, .aload_n 0, 0, 0, 0), (57, .getfield 57, 648, 0, 0), (60, .getfield 162, 387, 0, 0), (63, .ireturn, 0, 0, 0), (64, .aload_n 0, 0, 0, 0), (65, .getfield 57, 648, 0, 0), (68, .getfield 167, 388, 0, 0), (71, .iconst 0, 0, 0, 0), (72, .aload_n 0, 0, 0, 0), (73, .getfield 12, 640, 0, 0), (76, .getfield 179, 202, 0, 0), (79, .iload_n 1, 0, 0, 0), (80, .aaload, 12, 0, 0), (81, .iconst 0, 0, 0, 0), (82, .sipush 144, 0, 144, 0), (85, .invokestatic 182, 0, 0, 0), (88, .aload_n 0, 0, 0, 0), (89, .getfield 12, 640, 0, 0), (92, .getfield 188, 203, 0, 0), (95, .iload_n 1, 0, 0, 0), (96, .aload_n 0, 0, 0, 0), (97, .getfield 57, 648, 0, 0), (100, .getfield 191, 389, 0, 0), (103, .iastore, 12, 0, 0), (104, .aload_n 0, 0, 0, 0), (105, .getfield 12, 640, 0, 0), (108, .getfield 194, 204, 0, 0), (111, .iload_n 1, 0, 0, 0), (112, .iconst 0, 0, 0, 0), (113, .iastore, 12, 0, 0), (114, .aload_n 0, 0, 0, 0), (115, .getfield 57, 648, 0, 0), (118, .getfield 191, 389, 0, 0), (121, .ireturn, 0, 0, 0)]
set_option maxRecDepth 20000 in
theorem bk_Pz_journey : BK m_Pz_journey cd_Pz_journey := ⟨pl_X11, pk_X11, fun E hE => (show ∀ E ∈ cd_Pz_journey, decode cX11_journey E.1 = .ok (E.2.1, ilen E.2.1) ∧ exE pl_X11 E.1 E.2.1 E.2.2.1 E.2.2.2.1 E.2.2.2.2 = true by decide +kernel) E hE⟩
theorem nk_Pz_journey : NK m_Pz_journey 2 := ⟨tw829, tw111, ⟨by decide +kernel, by decide +kernel⟩, by decide +kernel, Nat.le_of_ble_eq_true rfl⟩
def m_Course_travel : Mth := (yX1_travel, cX1_travel, 4, none, RX1)
def cd_Course_travel : List ME := [(0, .iconst 0, 0, 0, 0), (1, .istore_n 2, 0, 0, 0), (2, .iload_n 2, 0, 0, 0), (3, .bipush 12, 0, 12, 0), (5, .if_icmp .ge 68, 73, 0, 0), (8, .aload_n 1, 0, 0, 0), (9, .getfield 40, 204, 0, 0), (12, .iload_n 2, 0, 0, 0), (13, .iaload, 12, 0, 0), (14, .istore_n 3, 0, 0, 0), (15, .aload_n 1, 0, 0, 0), (16, .iload_n 2, 0, 0, 0), (17, .invokevirtual 44, 0, 0, 0), (20, .ifCond .eq 47, 67, 0, 0), (23, .iload_n 3, 0, 0, 0), (24, .ifCond .lt 43, 67, 0, 0), (27, .iload_n 3, 0, 0, 0), (28, .aload_n 1, 0, 0, 0), (29, .getfield 48, 203, 0, 0), (32, .iload_n 2, 0, 0, 0), (33, .iaload, 12, 0, 0), (34, .if_icmp .ge 33, 67, 0, 0), (37, .iload_n 3, 0, 0, 0), (38, .sipush 144, 0, 144, 0), (41, .if_icmp .ge 26, 67, 0, 0), (44, .aload_n 1, 0, 0, 0), (45, .getfield 51, 195, 0, 0), (48, .iload_n 2, 0, 0, 0), (49, .aload_n 1, 0, 0, 0), (50, .getfield 54, 202, 0, 0), (53, .iload_n 2, 0, 0, 0), (54, .aaload, 12, 0, 0), (55, .iload_n 3, 0, 0, 0), (56, .iaload, 144, 0, 0), (57, .iastore, 12, 0, 0), (58, .aload_n 1, 0, 0, 0), (59, .getfield 40, 204, 0, 0), (62, .iload_n 2, 0, 0, 0), (63, .iload_n 3, 0, 0, 0), (64, .iconst 1, 0, 1, 0), (65, .iadd, 0, 0, 0), (66, .iastore, 12, 0, 0), (67, .iinc 2 1, 0, 1, 0), (70, .goto (-68), 2, 0, 0), (73, .return_, 0, 0, 0)]
set_option maxRecDepth 20000 in
theorem bk_Course_travel : BK m_Course_travel cd_Course_travel := ⟨pl_X1, pk_X1, fun E hE => (show ∀ E ∈ cd_Course_travel, decode cX1_travel E.1 = .ok (E.2.1, ilen E.2.1) ∧ exE pl_X1 E.1 E.2.1 E.2.2.1 E.2.2.2.1 E.2.2.2.2 = true by decide +kernel) E hE⟩
theorem nk_Course_travel : NK m_Course_travel 1 := ⟨tw846, tw119, ⟨by decide +kernel, by decide +kernel⟩, by decide +kernel, Nat.le_of_ble_eq_true rfl⟩
def m_Land_hasTried : Mth := (yX3_hasTried, cX3_hasTried, 3, some .boolean, RX3)
def cd_Land_hasTried : List ME := [(0, .iload_n 1, 0, 0, 0), (1, .invokestatic 51, 0, 0, 0), (4, .ifCond .eq 28, 32, 0, 0), (7, .iload_n 2, 0, 0, 0), (8, .invokestatic 51, 0, 0, 0), (11, .ifCond .eq 21, 32, 0, 0), (14, .aload_n 0, 0, 0, 0), (15, .getfield 24, 198, 0, 0), (18, .iload_n 1, 0, 0, 0), (19, .iaload, 12, 0, 0), (20, .iload_n 2, 0, 0, 0), (21, .ishr, 0, 0, 0), (22, .iconst 1, 0, 1, 0), (23, .iand, 0, 0, 0), (24, .iconst 1, 0, 1, 0), (25, .if_icmp .ne 7, 32, 0, 0), (28, .iconst 1, 0, 1, 0), (29, .goto 4, 33, 0, 0), (32, .iconst 0, 0, 0, 0), (33, .ireturn, 0, 0, 0)]
set_option maxRecDepth 20000 in
theorem bk_Land_hasTried : BK m_Land_hasTried cd_Land_hasTried := ⟨pl_X3, pk_X3, fun E hE => (show ∀ E ∈ cd_Land_hasTried, decode cX3_hasTried E.1 = .ok (E.2.1, ilen E.2.1) ∧ exE pl_X3 E.1 E.2.1 E.2.2.1 E.2.2.2.1 E.2.2.2.2 = true by decide +kernel) E hE⟩
theorem nk_Land_hasTried : NK m_Land_hasTried 2 := ⟨tw858, tw112, ⟨by decide +kernel, by decide +kernel⟩, by decide +kernel, Nat.le_of_ble_eq_true rfl⟩
def m_Course_nextFor : Mth := (yX1_nextFor, cX1_nextFor, 4, some .int, RX1)
def cd_Course_nextFor : List ME := [(0, .aload_n 0, 0, 0, 0), (1, .iload_n 1, 0, 0, 0), (2, .invokevirtual 44, 0, 0, 0), (5, .ifCond .eq 22, 27, 0, 0), (8, .aload_n 0, 0, 0, 0), (9, .getfield 81, 194, 0, 0), (12, .iload_n 1, 0, 0, 0), (13, .iaload, 12, 0, 0), (14, .ifCond .ne 13, 27, 0, 0), (17, .aload_n 0, 0, 0, 0), (18, .getfield 51, 195, 0, 0), (21, .iload_n 1, 0, 0, 0), (22, .iaload, 12, 0, 0), (23, .iload_n 2, 0, 0, 0), (24, .if_icmp .eq 5, 29, 0, 0), (27, .iconst (-1), 0, (-1), 0), (28, .ireturn, 0, 0, 0), (29, .iconst 0, 0, 0, 0), (30, .istore_n 3, 0, 0, 0), (31, .iload_n 3, 0, 0, 0), (32, .bipush 12, 0, 12, 0), (34, .if_icmp .ge 48, 82, 0, 0), (37, .aload_n 0, 0, 0, 0), (38, .iload_n 3, 0, 0, 0), (39, .invokevirtual 44, 0, 0, 0), (42, .ifCond .eq 34, 76, 0, 0), (45, .aload_n 0, 0, 0, 0), (46, .getfield 81, 194, 0, 0), (49, .iload_n 3, 0, 0, 0), (50, .iaload, 12, 0, 0), (51, .iconst 1, 0, 1, 0), (52, .if_icmp .ne 24, 76, 0, 0), (55, .aload_n 0, 0, 0, 0), (56, .getfield 51, 195, 0, 0), (59, .iload_n 3, 0, 0, 0), (60, .iaload, 12, 0, 0), (61, .iload_n 2, 0, 0, 0), (62, .if_icmp .ne 14, 76, 0, 0), (65, .aload_n 0, 0, 0, 0), (66, .iload_n 1, 0, 0, 0), (67, .iload_n 3, 0, 0, 0), (68, .invokevirtual 84, 0, 0, 0), (71, .ifCond .ne 5, 76, 0, 0), (74, .iload_n 3, 0, 0, 0), (75, .ireturn, 0, 0, 0), (76, .iinc 3 1, 0, 1, 0), (79, .goto (-48), 31, 0, 0), (82, .iconst (-1), 0, (-1), 0), (83, .ireturn, 0, 0, 0)]
set_option maxRecDepth 20000 in
theorem bk_Course_nextFor : BK m_Course_nextFor cd_Course_nextFor := ⟨pl_X1, pk_X1, fun E hE => (show ∀ E ∈ cd_Course_nextFor, decode cX1_nextFor E.1 = .ok (E.2.1, ilen E.2.1) ∧ exE pl_X1 E.1 E.2.1 E.2.2.1 E.2.2.2.1 E.2.2.2.2 = true by decide +kernel) E hE⟩
theorem nk_Course_nextFor : NK m_Course_nextFor 3 := ⟨tw854, tw119, ⟨by decide +kernel, by decide +kernel⟩, by decide +kernel, Nat.le_of_ble_eq_true rfl⟩
def m_Land_markTried : Mth := (yX3_markTried, cX3_markTried, 3, none, RX3)
def cd_Land_markTried : List ME := [(0, .iload_n 1, 0, 0, 0), (1, .invokestatic 51, 0, 0, 0), (4, .ifCond .eq 34, 38, 0, 0), (7, .iload_n 2, 0, 0, 0), (8, .invokestatic 51, 0, 0, 0), (11, .ifCond .eq 27, 38, 0, 0), (14, .aload_n 0, 0, 0, 0), (15, .getfield 24, 198, 0, 0), (18, .iload_n 1, 0, 0, 0), (19, .dup2, 0, 0, 0), (20, .iaload, 12, 0, 0), (21, .iconst 1, 0, 1, 0), (22, .iload_n 2, 0, 0, 0), (23, .ishl, 0, 0, 0), (24, .ior, 0, 0, 0), (25, .iastore, 12, 0, 0), (26, .aload_n 0, 0, 0, 0), (27, .getfield 24, 198, 0, 0), (30, .iload_n 2, 0, 0, 0), (31, .dup2, 0, 0, 0), (32, .iaload, 12, 0, 0), (33, .iconst 1, 0, 1, 0), (34, .iload_n 1, 0, 0, 0), (35, .ishl, 0, 0, 0), (36, .ior, 0, 0, 0), (37, .iastore, 12, 0, 0), (38, .return_, 0, 0, 0)]
set_option maxRecDepth 20000 in
theorem bk_Land_markTried : BK m_Land_markTried cd_Land_markTried := ⟨pl_X3, pk_X3, fun E hE => (show ∀ E ∈ cd_Land_markTried, decode cX3_markTried E.1 = .ok (E.2.1, ilen E.2.1) ∧ exE pl_X3 E.1 E.2.1 E.2.2.1 E.2.2.2.1 E.2.2.2.2 = true by decide +kernel) E hE⟩
theorem nk_Land_markTried : NK m_Land_markTried 2 := ⟨tw862, tw112, ⟨by decide +kernel, by decide +kernel⟩, by decide +kernel, Nat.le_of_ble_eq_true rfl⟩
def m_Judge_gap : Mth := (yX2_gap, cX2_gap, 4, some .int, RX2)
def cd_Judge_gap : List ME := [(0, .iconst 0, 0, 0, 0), (1, .istore_n 2, 0, 0, 0), (2, .iconst 0, 0, 0, 0), (3, .istore_n 3, 0, 0, 0), (4, .iload_n 3, 0, 0, 0), (5, .bipush 8, 0, 8, 0), (7, .if_icmp .ge 25, 32, 0, 0), (10, .iload_n 2, 0, 0, 0), (11, .aload_n 0, 0, 0, 0), (12, .iload_n 3, 0, 0, 0), (13, .iaload, 8, 0, 0), (14, .aload_n 1, 0, 0, 0), (15, .bipush 7, 0, 7, 0), (17, .iload_n 3, 0, 0, 0), (18, .isub, 0, 0, 0), (19, .iaload, 8, 0, 0), (20, .iadd, 0, 0, 0), (21, .invokestatic 19, 0, 0, 0), (24, .iadd, 0, 0, 0), (25, .istore_n 2, 0, 0, 0), (26, .iinc 3 1, 0, 1, 0), (29, .goto (-25), 4, 0, 0), (32, .iload_n 2, 0, 0, 0), (33, .ireturn, 0, 0, 0)]
set_option maxRecDepth 20000 in
theorem bk_Judge_gap : BK m_Judge_gap cd_Judge_gap := ⟨pl_X2, pk_X2, fun E hE => (show ∀ E ∈ cd_Judge_gap, decode cX2_gap E.1 = .ok (E.2.1, ilen E.2.1) ∧ exE pl_X2 E.1 E.2.1 E.2.2.1 E.2.2.2.1 E.2.2.2.2 = true by decide +kernel) E hE⟩
theorem nk_Judge_gap : NK m_Judge_gap 2 := ⟨tw873, tw118, ⟨by decide +kernel, by decide +kernel⟩, by decide +kernel, Nat.le_of_ble_eq_true rfl⟩
def m_Judge_slackOf : Mth := (yX2_slackOf, cX2_slackOf, 9, some .int, RX2)
def cd_Judge_slackOf : List ME := [(0, .iconst (-1), 0, (-1), 0), (1, .istore 4, 0, 0, 0), (3, .iconst 0, 0, 0, 0), (4, .istore 5, 0, 0, 0), (6, .iload 5, 0, 0, 0), (8, .bipush 12, 0, 12, 0), (10, .if_icmp .ge 109, 119, 0, 0), (13, .iconst 0, 0, 0, 0), (14, .istore 6, 0, 0, 0), (16, .aload_n 1, 0, 0, 0), (17, .getfield 25, 199, 0, 0), (20, .iload 5, 0, 0, 0), (22, .iaload, 12, 0, 0), (23, .iload_n 2, 0, 0, 0), (24, .if_icmp .ne 89, 113, 0, 0), (27, .iload 6, 0, 0, 0), (29, .bipush 12, 0, 12, 0), (31, .if_icmp .ge 82, 113, 0, 0), (34, .aload_n 1, 0, 0, 0), (35, .getfield 25, 199, 0, 0), (38, .iload 6, 0, 0, 0), (40, .iaload, 12, 0, 0), (41, .iload_n 3, 0, 0, 0), (42, .if_icmp .ne 65, 107, 0, 0), (45, .aload_n 1, 0, 0, 0), (46, .getfield 30, 201, 0, 0), (49, .iload 5, 0, 0, 0), (51, .aaload, 12, 0, 0), (52, .aload_n 1, 0, 0, 0), (53, .getfield 30, 201, 0, 0), (56, .iload 6, 0, 0, 0), (58, .aaload, 12, 0, 0), (59, .invokestatic 34, 0, 0, 0), (62, .aload_n 1, 0, 0, 0), (63, .getfield 38, 200, 0, 0), (66, .iload 5, 0, 0, 0), (68, .iaload, 12, 0, 0), (69, .isub, 0, 0, 0), (70, .aload_n 1, 0, 0, 0), (71, .getfield 38, 200, 0, 0), (74, .iload 6, 0, 0, 0), (76, .iaload, 12, 0, 0), (77, .isub, 0, 0, 0), (78, .istore 7, 0, 0, 0), (80, .iconst 0, 0, 0, 0), (81, .iload 7, 0, 0, 0), (83, .invokestatic 41, 0, 0, 0), (86, .istore 8, 0, 0, 0), (88, .iload 4, 0, 0, 0), (90, .ifCond .ge 8, 98, 0, 0), (93, .iload 8, 0, 0, 0), (95, .goto 10, 105, 0, 0), (98, .iload 4, 0, 0, 0), (100, .iload 8, 0, 0, 0), (102, .invokestatic 45, 0, 0, 0), (105, .istore 4, 0, 0, 0), (107, .iinc 6 1, 0, 1, 0), (110, .goto (-94), 16, 0, 0), (113, .iinc 5 1, 0, 1, 0), (116, .goto (-110), 6, 0, 0), (119, .iload 4, 0, 0, 0), (121, .ireturn, 0, 0, 0)]
set_option maxRecDepth 20000 in
theorem bk_Judge_slackOf : BK m_Judge_slackOf cd_Judge_slackOf := ⟨pl_X2, pk_X2, fun E hE => (show ∀ E ∈ cd_Judge_slackOf, decode cX2_slackOf E.1 = .ok (E.2.1, ilen E.2.1) ∧ exE pl_X2 E.1 E.2.1 E.2.2.1 E.2.2.2.1 E.2.2.2.2 = true by decide +kernel) E hE⟩
theorem nk_Judge_slackOf : NK m_Judge_slackOf 3 := ⟨tw870, tw118, ⟨by decide +kernel, by decide +kernel⟩, by decide +kernel, Nat.le_of_ble_eq_true rfl⟩
def m_Judge_isFirst : Mth := (yX2_isFirst, cX2_isFirst, 3, some .boolean, RX2)
def cd_Judge_isFirst : List ME := [(0, .iload_n 1, 0, 0, 0), (1, .invokestatic 63, 0, 0, 0), (4, .ifCond .eq 10, 14, 0, 0), (7, .iload_n 2, 0, 0, 0), (8, .invokestatic 63, 0, 0, 0), (11, .ifCond .ne 5, 16, 0, 0), (14, .iconst 1, 0, 1, 0), (15, .ireturn, 0, 0, 0), (16, .aload_n 0, 0, 0, 0), (17, .getfield 70, 194, 0, 0), (20, .iload_n 1, 0, 0, 0), (21, .iaload, 12, 0, 0), (22, .aload_n 0, 0, 0, 0), (23, .getfield 70, 194, 0, 0), (26, .iload_n 2, 0, 0, 0), (27, .iaload, 12, 0, 0), (28, .if_icmp .lt 23, 51, 0, 0), (31, .aload_n 0, 0, 0, 0), (32, .getfield 70, 194, 0, 0), (35, .iload_n 1, 0, 0, 0), (36, .iaload, 12, 0, 0), (37, .aload_n 0, 0, 0, 0), (38, .getfield 70, 194, 0, 0), (41, .iload_n 2, 0, 0, 0), (42, .iaload, 12, 0, 0), (43, .if_icmp .ne 12, 55, 0, 0), (46, .iload_n 1, 0, 0, 0), (47, .iload_n 2, 0, 0, 0), (48, .if_icmp .ge 7, 55, 0, 0), (51, .iconst 1, 0, 1, 0), (52, .goto 4, 56, 0, 0), (55, .iconst 0, 0, 0, 0), (56, .ireturn, 0, 0, 0)]
set_option maxRecDepth 20000 in
theorem bk_Judge_isFirst : BK m_Judge_isFirst cd_Judge_isFirst := ⟨pl_X2, pk_X2, fun E hE => (show ∀ E ∈ cd_Judge_isFirst, decode cX2_isFirst E.1 = .ok (E.2.1, ilen E.2.1) ∧ exE pl_X2 E.1 E.2.1 E.2.2.1 E.2.2.2.1 E.2.2.2.2 = true by decide +kernel) E hE⟩
theorem nk_Judge_isFirst : NK m_Judge_isFirst 3 := ⟨tw883, tw118, ⟨by decide +kernel, by decide +kernel⟩, by decide +kernel, Nat.le_of_ble_eq_true rfl⟩
def m_Land_piecesOf : Mth := (yX3_piecesOf, cX3_piecesOf, 4, some .int, RX3)
def cd_Land_piecesOf : List ME := [(0, .iconst 0, 0, 0, 0), (1, .istore_n 2, 0, 0, 0), (2, .iconst 0, 0, 0, 0), (3, .istore_n 3, 0, 0, 0), (4, .iload_n 3, 0, 0, 0), (5, .bipush 12, 0, 12, 0), (7, .if_icmp .ge 25, 32, 0, 0), (10, .aload_n 0, 0, 0, 0), (11, .getfield 27, 199, 0, 0), (14, .iload_n 3, 0, 0, 0), (15, .iaload, 12, 0, 0), (16, .iload_n 1, 0, 0, 0), (17, .if_icmp .ne 9, 26, 0, 0), (20, .iload_n 2, 0, 0, 0), (21, .iconst 1, 0, 1, 0), (22, .iload_n 3, 0, 0, 0), (23, .ishl, 0, 0, 0), (24, .ior, 0, 0, 0), (25, .istore_n 2, 0, 0, 0), (26, .iinc 3 1, 0, 1, 0), (29, .goto (-25), 4, 0, 0), (32, .iload_n 2, 0, 0, 0), (33, .ireturn, 0, 0, 0)]
set_option maxRecDepth 20000 in
theorem bk_Land_piecesOf : BK m_Land_piecesOf cd_Land_piecesOf := ⟨pl_X3, pk_X3, fun E hE => (show ∀ E ∈ cd_Land_piecesOf, decode cX3_piecesOf E.1 = .ok (E.2.1, ilen E.2.1) ∧ exE pl_X3 E.1 E.2.1 E.2.2.1 E.2.2.2.1 E.2.2.2.2 = true by decide +kernel) E hE⟩
theorem nk_Land_piecesOf : NK m_Land_piecesOf 1 := ⟨tw899, tw112, ⟨by decide +kernel, by decide +kernel⟩, by decide +kernel, Nat.le_of_ble_eq_true rfl⟩
def m_Integer_bitCount : Mth := (yJ6_bitCount_0f7a4, cJ6_bitCount_0f7a4, 1, some .int, RJ6)
def cd_Integer_bitCount : List ME := [(0, .iload_n 0, 0, 0, 0), (1, .iload_n 0, 0, 0, 0), (2, .iconst 1, 0, 1, 0), (3, .iushr, 0, 0, 0), (4, .ldc_w 265, 0, 1431655765, 0), (7, .iand, 0, 0, 0), (8, .isub, 0, 0, 0), (9, .istore_n 0, 0, 0, 0), (10, .iload_n 0, 0, 0, 0), (11, .ldc_w 266, 0, 858993459, 0), (14, .iand, 0, 0, 0), (15, .iload_n 0, 0, 0, 0), (16, .iconst 2, 0, 2, 0), (17, .iushr, 0, 0, 0), (18, .ldc_w 266, 0, 858993459, 0), (21, .iand, 0, 0, 0), (22, .iadd, 0, 0, 0), (23, .istore_n 0, 0, 0, 0), (24, .iload_n 0, 0, 0, 0), (25, .iload_n 0, 0, 0, 0), (26, .iconst 4, 0, 4, 0), (27, .iushr, 0, 0, 0), (28, .iadd, 0, 0, 0), (29, .ldc_w 267, 0, 252645135, 0), (32, .iand, 0, 0, 0), (33, .istore_n 0, 0, 0, 0), (34, .iload_n 0, 0, 0, 0), (35, .iload_n 0, 0, 0, 0), (36, .bipush 8, 0, 8, 0), (38, .iushr, 0, 0, 0), (39, .iadd, 0, 0, 0), (40, .istore_n 0, 0, 0, 0), (41, .iload_n 0, 0, 0, 0), (42, .iload_n 0, 0, 0, 0), (43, .bipush 16, 0, 16, 0), (45, .iushr, 0, 0, 0), (46, .iadd, 0, 0, 0), (47, .istore_n 0, 0, 0, 0), (48, .iload_n 0, 0, 0, 0), (49, .bipush 63, 0, 63, 0), (51, .iand, 0, 0, 0), (52, .ireturn, 0, 0, 0)]
set_option maxRecDepth 20000 in
theorem bk_Integer_bitCount : BK m_Integer_bitCount cd_Integer_bitCount := ⟨pl_J6, pk_J6, fun E hE => (show ∀ E ∈ cd_Integer_bitCount, decode cJ6_bitCount_0f7a4 E.1 = .ok (E.2.1, ilen E.2.1) ∧ exE pl_J6 E.1 E.2.1 E.2.2.1 E.2.2.2.1 E.2.2.2.2 = true by decide +kernel) E hE⟩
theorem nk_Integer_bitCount : NK m_Integer_bitCount 1 := ⟨tw902, tw132, ⟨by decide +kernel, by decide +kernel⟩, by decide +kernel, Nat.le_of_ble_eq_true rfl⟩
def m_Arrays_fill_ii : Mth := (yJ7_fill_53178, cJ7_fill_53178, 4, none, RJ7)
def cd_Arrays_fill_ii : List ME := [(0, .iconst 0, 0, 0, 0), (1, .istore_n 2, 0, 0, 0), (2, .aload_n 0, 0, 0, 0), (3, .arraylength, 11, 11, 0), (4, .istore_n 3, 0, 0, 0), (5, .iload_n 2, 0, 0, 0), (6, .iload_n 3, 0, 0, 0), (7, .if_icmp .ge 13, 20, 0, 0), (10, .aload_n 0, 0, 0, 0), (11, .iload_n 2, 0, 0, 0), (12, .iload_n 1, 0, 0, 0), (13, .iastore, 11, 0, 0), (14, .iinc 2 1, 0, 1, 0), (17, .goto (-12), 5, 0, 0), (20, .return_, 0, 0, 0)]
set_option maxRecDepth 20000 in
theorem bk_Arrays_fill_ii : BK m_Arrays_fill_ii cd_Arrays_fill_ii := ⟨pl_J7, pk_J7, fun E hE => (show ∀ E ∈ cd_Arrays_fill_ii, decode cJ7_fill_53178 E.1 = .ok (E.2.1, ilen E.2.1) ∧ exE pl_J7 E.1 E.2.1 E.2.2.1 E.2.2.2.1 E.2.2.2.2 = true by decide +kernel) E hE⟩
theorem nk_Arrays_fill_ii : NK m_Arrays_fill_ii 2 := ⟨tw895, tw131, ⟨by decide +kernel, by decide +kernel⟩, by decide +kernel, Nat.le_of_ble_eq_true rfl⟩
def m_Judge_fill : Mth := (yX2_fill, cX2_fill, 5, none, RX2)
def cd_Judge_fill : List ME := [(0, .iload_n 2, 0, 0, 0), (1, .invokestatic 63, 0, 0, 0), (4, .ifCond .eq 10, 14, 0, 0), (7, .iload_n 3, 0, 0, 0), (8, .invokestatic 63, 0, 0, 0), (11, .ifCond .ne 12, 23, 0, 0), (14, .aload_n 0, 0, 0, 0), (15, .getfield 15, 129, 0, 0), (18, .iconst 0, 0, 0, 0), (19, .invokestatic 96, 0, 0, 0), (22, .return_, 0, 0, 0), (23, .aload_n 0, 0, 0, 0), (24, .getfield 15, 129, 0, 0), (27, .iconst 0, 0, 0, 0), (28, .iload_n 2, 0, 0, 0), (29, .iastore, 11, 0, 0), (30, .aload_n 0, 0, 0, 0), (31, .getfield 15, 129, 0, 0), (34, .iconst 1, 0, 1, 0), (35, .iload_n 3, 0, 0, 0), (36, .iastore, 11, 0, 0), (37, .aload_n 0, 0, 0, 0), (38, .getfield 15, 129, 0, 0), (41, .iconst 2, 0, 2, 0), (42, .iconst 0, 0, 0, 0), (43, .iload 4, 0, 0, 0), (45, .invokestatic 41, 0, 0, 0), (48, .iastore, 11, 0, 0), (49, .aload_n 0, 0, 0, 0), (50, .getfield 15, 129, 0, 0), (53, .iconst 3, 0, 3, 0), (54, .aload_n 1, 0, 0, 0), (55, .iload_n 2, 0, 0, 0), (56, .invokevirtual 101, 0, 0, 0), (59, .invokestatic 104, 0, 0, 0), (62, .iastore, 11, 0, 0), (63, .aload_n 0, 0, 0, 0), (64, .getfield 15, 129, 0, 0), (67, .iconst 4, 0, 4, 0), (68, .aload_n 1, 0, 0, 0), (69, .iload_n 3, 0, 0, 0), (70, .invokevirtual 101, 0, 0, 0), (73, .invokestatic 104, 0, 0, 0), (76, .iastore, 11, 0, 0), (77, .aload_n 0, 0, 0, 0), (78, .getfield 15, 129, 0, 0), (81, .iconst 5, 0, 5, 0), (82, .aload_n 1, 0, 0, 0), (83, .getfield 109, 195, 0, 0), (86, .iload_n 2, 0, 0, 0), (87, .iaload, 12, 0, 0), (88, .iastore, 11, 0, 0), (89, .aload_n 0, 0, 0, 0), (90, .getfield 15, 129, 0, 0), (93, .bipush 6, 0, 6, 0), (95, .aload_n 1, 0, 0, 0), (96, .getfield 109, 195, 0, 0), (99, .iload_n 3, 0, 0, 0), (100, .iaload, 12, 0, 0), (101, .iastore, 11, 0, 0), (102, .aload_n 0, 0, 0, 0), (103, .getfield 15, 129, 0, 0), (106, .bipush 7, 0, 7, 0), (108, .aload_n 1, 0, 0, 0), (109, .getfield 112, 205, 0, 0), (112, .iastore, 11, 0, 0), (113, .aload_n 0, 0, 0, 0), (114, .getfield 15, 129, 0, 0), (117, .bipush 8, 0, 8, 0), (119, .aload_n 1, 0, 0, 0), (120, .getfield 115, 197, 0, 0), (123, .iload_n 2, 0, 0, 0), (124, .iaload, 12, 0, 0), (125, .iastore, 11, 0, 0), (126, .aload_n 0, 0, 0, 0), (127, .getfield 15, 129, 0, 0), (130, .bipush 9, 0, 9, 0), (132, .aload_n 1, 0, 0, 0), (133, .getfield 70, 194, 0, 0), (136, .iload_n 2, 0, 0, 0), (137, .iaload, 12, 0, 0), (138, .iastore, 11, 0, 0), (139, .aload_n 0, 0, 0, 0), (140, .getfield 15, 129, 0, 0), (143, .bipush 10, 0, 10, 0), (145, .aload_n 1, 0, 0, 0), (146, .getfield 70, 194, 0, 0), (149, .iload_n 3, 0, 0, 0), (150, .iaload, 12, 0, 0), (151, .iastore, 11, 0, 0), (152, .return_, 0, 0, 0)]
set_option maxRecDepth 20000 in
theorem bk_Judge_fill : BK m_Judge_fill cd_Judge_fill := ⟨pl_X2, pk_X2, fun E hE => (show ∀ E ∈ cd_Judge_fill, decode cX2_fill E.1 = .ok (E.2.1, ilen E.2.1) ∧ exE pl_X2 E.1 E.2.1 E.2.2.1 E.2.2.2.1 E.2.2.2.2 = true by decide +kernel) E hE⟩
theorem nk_Judge_fill : NK m_Judge_fill 4 := ⟨tw892, tw118, ⟨by decide +kernel, by decide +kernel⟩, by decide +kernel, Nat.le_of_ble_eq_true rfl⟩
def m_Law_reckon : Mth := (yX4_reckon, cX4_reckon, 3, some .int, RX4)
def cd_Law_reckon : List ME := [(0, .iload_n 0, 0, 0, 0), (120, .iload_n 1, 0, 0, 0), (121, .iload_n 2, 0, 0, 0), (122, .iadd, 0, 0, 0), (123, .ireturn, 0, 0, 0), (124, .iload_n 1, 0, 0, 0), (125, .iload_n 2, 0, 0, 0), (126, .isub, 0, 0, 0), (127, .ireturn, 0, 0, 0), (128, .iload_n 1, 0, 0, 0), (129, .iload_n 2, 0, 0, 0), (130, .imul, 0, 0, 0), (131, .ireturn, 0, 0, 0), (132, .iload_n 2, 0, 0, 0), (133, .ifCond .ne 7, 140, 0, 0), (136, .iconst 0, 0, 0, 0), (137, .goto 6, 143, 0, 0), (140, .iload_n 1, 0, 0, 0), (141, .iload_n 2, 0, 0, 0), (142, .idiv, 0, 0, 0), (143, .ireturn, 0, 0, 0), (144, .iload_n 2, 0, 0, 0), (145, .ifCond .ne 7, 152, 0, 0), (148, .iconst 0, 0, 0, 0), (149, .goto 6, 155, 0, 0), (152, .iload_n 1, 0, 0, 0), (153, .iload_n 2, 0, 0, 0), (154, .irem, 0, 0, 0), (155, .ireturn, 0, 0, 0), (156, .iload_n 1, 0, 0, 0), (157, .iload_n 2, 0, 0, 0), (158, .if_icmp .ge 7, 165, 0, 0), (161, .iconst 1, 0, 1, 0), (162, .goto 4, 166, 0, 0), (165, .iconst 0, 0, 0, 0), (166, .ireturn, 0, 0, 0), (167, .iload_n 1, 0, 0, 0), (168, .iload_n 2, 0, 0, 0), (169, .if_icmp .le 7, 176, 0, 0), (172, .iconst 1, 0, 1, 0), (173, .goto 4, 177, 0, 0), (176, .iconst 0, 0, 0, 0), (177, .ireturn, 0, 0, 0), (178, .iload_n 1, 0, 0, 0), (179, .iload_n 2, 0, 0, 0), (180, .if_icmp .ne 7, 187, 0, 0), (183, .iconst 1, 0, 1, 0), (184, .goto 4, 188, 0, 0), (187, .iconst 0, 0, 0, 0), (188, .ireturn, 0, 0, 0), (189, .iconst 0, 0, 0, 0), (190, .ireturn, 0, 0, 0)]
set_option maxRecDepth 20000 in
theorem bk_Law_reckon : BK m_Law_reckon cd_Law_reckon := ⟨pl_X4, pk_X4, fun E hE => (show ∀ E ∈ cd_Law_reckon, decode cX4_reckon E.1 = .ok (E.2.1, ilen E.2.1) ∧ exE pl_X4 E.1 E.2.1 E.2.2.1 E.2.2.2.1 E.2.2.2.2 = true by decide +kernel) E hE⟩
theorem nk_Law_reckon : NK m_Law_reckon 3 := ⟨tw915, tw114, ⟨by decide +kernel, by decide +kernel⟩, by decide +kernel, Nat.le_of_ble_eq_true rfl⟩
def m_Law_valueOf : Mth := (yX4_valueOf, cX4_valueOf, 2, some .int, RX4)
def cd_Law_valueOf : List ME := [(0, .iload_n 0, 0, 0, 0), (1, .ifCond .lt 15, 16, 0, 0), (4, .iload_n 0, 0, 0, 0), (5, .aload_n 1, 0, 0, 0), (6, .arraylength, 11, 11, 0), (7, .if_icmp .ge 9, 16, 0, 0), (10, .aload_n 1, 0, 0, 0), (11, .iload_n 0, 0, 0, 0), (12, .iaload, 11, 0, 0), (13, .goto 4, 17, 0, 0), (16, .iconst 0, 0, 0, 0), (17, .ireturn, 0, 0, 0)]
set_option maxRecDepth 20000 in
theorem bk_Law_valueOf : BK m_Law_valueOf cd_Law_valueOf := ⟨pl_X4, pk_X4, fun E hE => (show ∀ E ∈ cd_Law_valueOf, decode cX4_valueOf E.1 = .ok (E.2.1, ilen E.2.1) ∧ exE pl_X4 E.1 E.2.1 E.2.2.1 E.2.2.2.1 E.2.2.2.2 = true by decide +kernel) E hE⟩
theorem nk_Law_valueOf : NK m_Law_valueOf 2 := ⟨tw912, tw114, ⟨by decide +kernel, by decide +kernel⟩, by decide +kernel, Nat.le_of_ble_eq_true rfl⟩
def m_Law_run : Mth := (yX4_run, cX4_run, 9, some .int, RX4)
def cd_Law_run : List ME := [(0, .iconst 0, 0, 0, 0), (1, .istore_n 3, 0, 0, 0), (2, .iload_n 1, 0, 0, 0), (3, .istore 4, 0, 0, 0), (5, .iconst 0, 0, 0, 0), (6, .istore 5, 0, 0, 0), (8, .iload 5, 0, 0, 0), (10, .sipush 512, 0, 512, 0), (13, .if_icmp .ge 301, 314, 0, 0), (16, .iload 4, 0, 0, 0), (18, .ifCond .lt 296, 314, 0, 0), (21, .iload 4, 0, 0, 0), (23, .iconst 1, 0, 1, 0), (24, .iadd, 0, 0, 0), (25, .sipush 512, 0, 512, 0), (28, .if_icmp .ge 286, 314, 0, 0), (31, .aload_n 0, 0, 0, 0), (32, .getfield 11, 256, 0, 0), (35, .iload 4, 0, 0, 0), (37, .iaload, 512, 0, 0), (38, .ifCond .ne 6, 44, 0, 0), (41, .goto 273, 314, 0, 0), (44, .aload_n 0, 0, 0, 0), (45, .getfield 11, 256, 0, 0), (48, .iload 4, 0, 0, 0), (50, .iaload, 512, 0, 0), (51, .istore 6, 0, 0, 0), (53, .aload_n 0, 0, 0, 0), (54, .getfield 11, 256, 0, 0), (57, .iload 4, 0, 0, 0), (59, .iconst 1, 0, 1, 0), (60, .iadd, 0, 0, 0), (61, .iaload, 512, 0, 0), (62, .istore 7, 0, 0, 0), (64, .iload 6, 0, 0, 0), (66, .iconst 1, 0, 1, 0), (67, .if_icmp .eq 9, 76, 0, 0), (70, .iload 6, 0, 0, 0), (72, .iconst 2, 0, 2, 0), (73, .if_icmp .ne 43, 116, 0, 0), (76, .iload_n 3, 0, 0, 0), (77, .bipush 64, 0, 64, 0), (79, .if_icmp .lt 5, 84, 0, 0), (82, .iconst 0, 0, 0, 0), (83, .ireturn, 0, 0, 0), (84, .aload_n 0, 0, 0, 0), (85, .getfield 24, 260, 0, 0), (88, .iload_n 3, 0, 0, 0), (89, .iload 6, 0, 0, 0), (91, .iconst 1, 0, 1, 0), (92, .if_icmp .ne 8, 100, 0, 0), (95, .iload 7, 0, 0, 0), (97, .goto 9, 106, 0, 0), (100, .iload 7, 0, 0, 0), (102, .aload_n 2, 0, 0, 0), (103, .invokestatic 40, 0, 0, 0), (106, .iastore, 64, 0, 0), (107, .iinc 3 1, 0, 1, 0), (110, .iinc 4 2, 0, 2, 0), (113, .goto 195, 308, 0, 0), (116, .iload_n 3, 0, 0, 0), (117, .ifCond .ne 5, 122, 0, 0), (120, .iconst 0, 0, 0, 0), (121, .ireturn, 0, 0, 0), (122, .iload 6, 0, 0, 0), (124, .bipush 33, 0, 33, 0), (126, .if_icmp .ne 33, 159, 0, 0), (129, .aload_n 0, 0, 0, 0), (130, .getfield 24, 260, 0, 0), (133, .iload_n 3, 0, 0, 0), (134, .iconst 1, 0, 1, 0), (135, .isub, 0, 0, 0), (136, .aload_n 0, 0, 0, 0), (137, .getfield 24, 260, 0, 0), (140, .iload_n 3, 0, 0, 0), (141, .iconst 1, 0, 1, 0), (142, .isub, 0, 0, 0), (143, .iaload, 64, 0, 0), (144, .ifCond .ne 7, 151, 0, 0), (147, .iconst 1, 0, 1, 0), (148, .goto 4, 152, 0, 0), (151, .iconst 0, 0, 0, 0), (152, .iastore, 64, 0, 0), (153, .iinc 4 1, 0, 1, 0), (156, .goto 152, 308, 0, 0), (159, .iload 6, 0, 0, 0), (161, .bipush 124, 0, 124, 0), (163, .if_icmp .eq 10, 173, 0, 0), (166, .iload 6, 0, 0, 0), (168, .bipush 38, 0, 38, 0), (170, .if_icmp .ne 73, 243, 0, 0), (173, .aload_n 0, 0, 0, 0), (174, .getfield 24, 260, 0, 0), (177, .iload_n 3, 0, 0, 0), (178, .iconst 1, 0, 1, 0), (179, .isub, 0, 0, 0), (180, .iaload, 64, 0, 0), (181, .ifCond .eq 7, 188, 0, 0), (184, .iconst 1, 0, 1, 0), (185, .goto 4, 189, 0, 0), (188, .iconst 0, 0, 0, 0), (189, .iload 6, 0, 0, 0), (191, .bipush 124, 0, 124, 0), (193, .if_icmp .ne 7, 200, 0, 0), (196, .iconst 1, 0, 1, 0), (197, .goto 4, 201, 0, 0), (200, .iconst 0, 0, 0, 0), (201, .if_icmp .ne 7, 208, 0, 0), (204, .iconst 1, 0, 1, 0), (205, .goto 4, 209, 0, 0), (208, .iconst 0, 0, 0, 0), (209, .istore 8, 0, 0, 0), (211, .iload_n 3, 0, 0, 0), (212, .iload 8, 0, 0, 0), (214, .ifCond .eq 7, 221, 0, 0), (217, .iconst 0, 0, 0, 0), (218, .goto 4, 222, 0, 0), (221, .iconst 1, 0, 1, 0), (222, .isub, 0, 0, 0), (223, .istore_n 3, 0, 0, 0), (224, .iload 8, 0, 0, 0), (226, .ifCond .eq 8, 234, 0, 0), (229, .iload 7, 0, 0, 0), (231, .goto 7, 238, 0, 0), (234, .iload 4, 0, 0, 0), (236, .iconst 2, 0, 2, 0), (237, .iadd, 0, 0, 0), (238, .istore 4, 0, 0, 0), (240, .goto 68, 308, 0, 0), (243, .aload_n 0, 0, 0, 0), (244, .getfield 24, 260, 0, 0), (247, .iload_n 3, 0, 0, 0), (248, .iconst 1, 0, 1, 0), (249, .isub, 0, 0, 0), (250, .iaload, 64, 0, 0), (251, .istore 8, 0, 0, 0), (253, .iload_n 3, 0, 0, 0), (254, .iconst 2, 0, 2, 0), (255, .if_icmp .lt 22, 277, 0, 0), (258, .iload 8, 0, 0, 0), (260, .ifCond .ne 19, 279, 0, 0), (263, .iload 6, 0, 0, 0), (265, .bipush 47, 0, 47, 0), (267, .if_icmp .eq 10, 277, 0, 0), (270, .iload 6, 0, 0, 0), (272, .bipush 37, 0, 37, 0), (274, .if_icmp .ne 5, 279, 0, 0), (277, .iconst 0, 0, 0, 0), (278, .ireturn, 0, 0, 0), (279, .iinc 3 (-1), 0, (-1), 0), (282, .aload_n 0, 0, 0, 0), (283, .getfield 24, 260, 0, 0), (286, .iload_n 3, 0, 0, 0), (287, .iconst 1, 0, 1, 0), (288, .isub, 0, 0, 0), (289, .iload 6, 0, 0, 0), (291, .aload_n 0, 0, 0, 0), (292, .getfield 24, 260, 0, 0), (295, .iload_n 3, 0, 0, 0), (296, .iconst 1, 0, 1, 0), (297, .isub, 0, 0, 0), (298, .iaload, 64, 0, 0), (299, .iload 8, 0, 0, 0), (301, .invokestatic 44, 0, 0, 0), (304, .iastore, 64, 0, 0), (305, .iinc 4 1, 0, 1, 0), (308, .iinc 5 1, 0, 1, 0), (311, .goto (-303), 8, 0, 0), (314, .iload_n 3, 0, 0, 0), (315, .ifCond .le 12, 327, 0, 0), (318, .aload_n 0, 0, 0, 0), (319, .getfield 24, 260, 0, 0), (322, .iconst 0, 0, 0, 0), (323, .iaload, 64, 0, 0), (324, .goto 4, 328, 0, 0), (327, .iconst 0, 0, 0, 0), (328, .ireturn, 0, 0, 0)]
set_option maxRecDepth 20000 in
theorem bk_Law_run : BK m_Law_run cd_Law_run := ⟨pl_X4, pk_X4, fun E hE => (show ∀ E ∈ cd_Law_run, decode cX4_run E.1 = .ok (E.2.1, ilen E.2.1) ∧ exE pl_X4 E.1 E.2.1 E.2.2.1 E.2.2.2.1 E.2.2.2.2 = true by decide +kernel) E hE⟩
theorem nk_Law_run : NK m_Law_run 2 := ⟨tw909, tw114, ⟨by decide +kernel, by decide +kernel⟩, by decide +kernel, Nat.le_of_ble_eq_true rfl⟩
def m_Judge_rule : Mth := (yX2_rule, cX2_rule, 8, some .int, RX2)
def cd_Judge_rule : List ME := [(0, .aload_n 0, 0, 0, 0), (1, .aload_n 3, 0, 0, 0), (2, .iload 4, 0, 0, 0), (4, .iload 5, 0, 0, 0), (6, .iload 6, 0, 0, 0), (8, .invokevirtual 73, 0, 0, 0), (11, .iconst 0, 0, 0, 0), (12, .istore 7, 0, 0, 0), (14, .iload 7, 0, 0, 0), (16, .aload_n 0, 0, 0, 0), (17, .getfield 9, 128, 0, 0), (20, .getfield 77, 262, 0, 0), (23, .if_icmp .ge 84, 107, 0, 0), (26, .iload 7, 0, 0, 0), (28, .bipush 16, 0, 16, 0), (30, .if_icmp .ge 77, 107, 0, 0), (33, .aload_n 0, 0, 0, 0), (34, .getfield 9, 128, 0, 0), (37, .getfield 83, 257, 0, 0), (40, .iload 7, 0, 0, 0), (42, .iaload, 16, 0, 0), (43, .iload_n 1, 0, 0, 0), (44, .if_icmp .ne 57, 101, 0, 0), (47, .aload_n 0, 0, 0, 0), (48, .getfield 9, 128, 0, 0), (51, .aload_n 0, 0, 0, 0), (52, .getfield 9, 128, 0, 0), (55, .getfield 86, 259, 0, 0), (58, .iload 7, 0, 0, 0), (60, .iaload, 16, 0, 0), (61, .aload_n 0, 0, 0, 0), (62, .getfield 15, 129, 0, 0), (65, .invokevirtual 89, 0, 0, 0), (68, .ifCond .eq 33, 101, 0, 0), (71, .iconst 0, 0, 0, 0), (72, .iload_n 2, 0, 0, 0), (73, .aload_n 0, 0, 0, 0), (74, .getfield 9, 128, 0, 0), (77, .aload_n 0, 0, 0, 0), (78, .getfield 9, 128, 0, 0), (81, .getfield 93, 258, 0, 0), (84, .iload 7, 0, 0, 0), (86, .iaload, 16, 0, 0), (87, .aload_n 0, 0, 0, 0), (88, .getfield 15, 129, 0, 0), (91, .invokevirtual 89, 0, 0, 0), (94, .invokestatic 45, 0, 0, 0), (97, .invokestatic 41, 0, 0, 0), (100, .ireturn, 0, 0, 0), (101, .iinc 7 1, 0, 1, 0), (104, .goto (-90), 14, 0, 0), (107, .iconst 0, 0, 0, 0), (108, .ireturn, 0, 0, 0)]
set_option maxRecDepth 20000 in
theorem bk_Judge_rule : BK m_Judge_rule cd_Judge_rule := ⟨pl_X2, pk_X2, fun E hE => (show ∀ E ∈ cd_Judge_rule, decode cX2_rule E.1 = .ok (E.2.1, ilen E.2.1) ∧ exE pl_X2 E.1 E.2.1 E.2.2.1 E.2.2.2.1 E.2.2.2.2 = true by decide +kernel) E hE⟩
theorem nk_Judge_rule : NK m_Judge_rule 6 := ⟨tw888, tw118, ⟨by decide +kernel, by decide +kernel⟩, by decide +kernel, Nat.le_of_ble_eq_true rfl⟩
def m_Judge_allowance : Mth := (yX2_allowance, cX2_allowance, 5, some .int, RX2)
def cd_Judge_allowance : List ME := [(0, .aload_n 1, 0, 0, 0), (1, .iload_n 2, 0, 0, 0), (2, .iload_n 3, 0, 0, 0), (3, .invokestatic 55, 0, 0, 0), (6, .istore 4, 0, 0, 0), (8, .aload_n 0, 0, 0, 0), (9, .bipush 102, 0, 102, 0), (11, .bipush 99, 0, 99, 0), (13, .aload_n 1, 0, 0, 0), (14, .iload 4, 0, 0, 0), (16, .ifCond .eq 7, 23, 0, 0), (19, .iload_n 2, 0, 0, 0), (20, .goto 4, 24, 0, 0), (23, .iload_n 3, 0, 0, 0), (24, .iload 4, 0, 0, 0), (26, .ifCond .eq 7, 33, 0, 0), (29, .iload_n 3, 0, 0, 0), (30, .goto 4, 34, 0, 0), (33, .iload_n 2, 0, 0, 0), (34, .iconst 0, 0, 0, 0), (35, .invokevirtual 59, 0, 0, 0), (38, .ireturn, 0, 0, 0)]
set_option maxRecDepth 20000 in
theorem bk_Judge_allowance : BK m_Judge_allowance cd_Judge_allowance := ⟨pl_X2, pk_X2, fun E hE => (show ∀ E ∈ cd_Judge_allowance, decode cX2_allowance E.1 = .ok (E.2.1, ilen E.2.1) ∧ exE pl_X2 E.1 E.2.1 E.2.2.1 E.2.2.2.1 E.2.2.2.2 = true by decide +kernel) E hE⟩
theorem nk_Judge_allowance : NK m_Judge_allowance 3 := ⟨tw880, tw118, ⟨by decide +kernel, by decide +kernel⟩, by decide +kernel, Nat.le_of_ble_eq_true rfl⟩
def m_Judge_fit : Mth := (yX2_fit, cX2_fit, 5, some .boolean, RX2)
def cd_Judge_fit : List ME := [(0, .aload_n 0, 0, 0, 0), (1, .aload_n 1, 0, 0, 0), (2, .iload_n 2, 0, 0, 0), (3, .iload_n 3, 0, 0, 0), (4, .invokevirtual 48, 0, 0, 0), (7, .istore 4, 0, 0, 0), (9, .iload 4, 0, 0, 0), (11, .ifCond .lt 19, 30, 0, 0), (14, .iload 4, 0, 0, 0), (16, .aload_n 0, 0, 0, 0), (17, .aload_n 1, 0, 0, 0), (18, .iload_n 2, 0, 0, 0), (19, .iload_n 3, 0, 0, 0), (20, .invokevirtual 52, 0, 0, 0), (23, .if_icmp .gt 7, 30, 0, 0), (26, .iconst 1, 0, 1, 0), (27, .goto 4, 31, 0, 0), (30, .iconst 0, 0, 0, 0), (31, .ireturn, 0, 0, 0)]
set_option maxRecDepth 20000 in
theorem bk_Judge_fit : BK m_Judge_fit cd_Judge_fit := ⟨pl_X2, pk_X2, fun E hE => (show ∀ E ∈ cd_Judge_fit, decode cX2_fit E.1 = .ok (E.2.1, ilen E.2.1) ∧ exE pl_X2 E.1 E.2.1 E.2.2.1 E.2.2.2.1 E.2.2.2.2 = true by decide +kernel) E hE⟩
theorem nk_Judge_fit : NK m_Judge_fit 3 := ⟨tw866, tw118, ⟨by decide +kernel, by decide +kernel⟩, by decide +kernel, Nat.le_of_ble_eq_true rfl⟩
def m_Judge_wearOf : Mth := (yX2_wearOf, cX2_wearOf, 6, some .int, RX2)
def cd_Judge_wearOf : List ME := [(0, .iload_n 2, 0, 0, 0), (1, .invokestatic 63, 0, 0, 0), (4, .ifCond .eq 17, 21, 0, 0), (7, .aload_n 1, 0, 0, 0), (8, .getfield 67, 196, 0, 0), (11, .iload_n 2, 0, 0, 0), (12, .iaload, 12, 0, 0), (13, .iload_n 3, 0, 0, 0), (14, .if_icmp .ne 7, 21, 0, 0), (17, .iconst 1, 0, 1, 0), (18, .goto 4, 22, 0, 0), (21, .iconst 0, 0, 0, 0), (22, .istore 4, 0, 0, 0), (24, .iload 4, 0, 0, 0), (26, .ifCond .eq 16, 42, 0, 0), (29, .iload_n 2, 0, 0, 0), (30, .iload_n 3, 0, 0, 0), (31, .if_icmp .ge 7, 38, 0, 0), (34, .iconst 1, 0, 1, 0), (35, .goto 13, 48, 0, 0), (38, .iconst 0, 0, 0, 0), (39, .goto 9, 48, 0, 0), (42, .aload_n 1, 0, 0, 0), (43, .iload_n 2, 0, 0, 0), (44, .iload_n 3, 0, 0, 0), (45, .invokestatic 55, 0, 0, 0), (48, .istore 5, 0, 0, 0), (50, .aload_n 0, 0, 0, 0), (51, .bipush 119, 0, 119, 0), (53, .bipush 9, 0, 9, 0), (55, .aload_n 1, 0, 0, 0), (56, .iload 5, 0, 0, 0), (58, .ifCond .eq 7, 65, 0, 0), (61, .iload_n 2, 0, 0, 0), (62, .goto 4, 66, 0, 0), (65, .iload_n 3, 0, 0, 0), (66, .iload 5, 0, 0, 0), (68, .ifCond .eq 7, 75, 0, 0), (71, .iload_n 3, 0, 0, 0), (72, .goto 4, 76, 0, 0), (75, .iload_n 2, 0, 0, 0), (76, .aload_n 0, 0, 0, 0), (77, .aload_n 1, 0, 0, 0), (78, .iload_n 2, 0, 0, 0), (79, .iload_n 3, 0, 0, 0), (80, .invokevirtual 48, 0, 0, 0), (83, .invokevirtual 59, 0, 0, 0), (86, .ireturn, 0, 0, 0)]
set_option maxRecDepth 20000 in
theorem bk_Judge_wearOf : BK m_Judge_wearOf cd_Judge_wearOf := ⟨pl_X2, pk_X2, fun E hE => (show ∀ E ∈ cd_Judge_wearOf, decode cX2_wearOf E.1 = .ok (E.2.1, ilen E.2.1) ∧ exE pl_X2 E.1 E.2.1 E.2.2.1 E.2.2.2.1 E.2.2.2.2 = true by decide +kernel) E hE⟩
theorem nk_Judge_wearOf : NK m_Judge_wearOf 3 := ⟨tw920, tw118, ⟨by decide +kernel, by decide +kernel⟩, by decide +kernel, Nat.le_of_ble_eq_true rfl⟩
def m_Land_wearDown : Mth := (yX3_wearDown, cX3_wearDown, 4, none, RX3)
def cd_Land_wearDown : List ME := [(0, .iconst 0, 0, 0, 0), (1, .istore_n 3, 0, 0, 0), (2, .iload_n 3, 0, 0, 0), (3, .bipush 12, 0, 12, 0), (5, .if_icmp .ge 38, 43, 0, 0), (8, .aload_n 0, 0, 0, 0), (9, .getfield 27, 199, 0, 0), (12, .iload_n 3, 0, 0, 0), (13, .iaload, 12, 0, 0), (14, .iload_n 1, 0, 0, 0), (15, .if_icmp .ne 22, 37, 0, 0), (18, .aload_n 0, 0, 0, 0), (19, .getfield 30, 200, 0, 0), (22, .iload_n 3, 0, 0, 0), (23, .bipush 99, 0, 99, 0), (25, .aload_n 0, 0, 0, 0), (26, .getfield 30, 200, 0, 0), (29, .iload_n 3, 0, 0, 0), (30, .iaload, 12, 0, 0), (31, .iload_n 2, 0, 0, 0), (32, .iadd, 0, 0, 0), (33, .invokestatic 68, 0, 0, 0), (36, .iastore, 12, 0, 0), (37, .iinc 3 1, 0, 1, 0), (40, .goto (-38), 2, 0, 0), (43, .return_, 0, 0, 0)]
set_option maxRecDepth 20000 in
theorem bk_Land_wearDown : BK m_Land_wearDown cd_Land_wearDown := ⟨pl_X3, pk_X3, fun E hE => (show ∀ E ∈ cd_Land_wearDown, decode cX3_wearDown E.1 = .ok (E.2.1, ilen E.2.1) ∧ exE pl_X3 E.1 E.2.1 E.2.2.1 E.2.2.2.1 E.2.2.2.2 = true by decide +kernel) E hE⟩
theorem nk_Land_wearDown : NK m_Land_wearDown 2 := ⟨tw924, tw112, ⟨by decide +kernel, by decide +kernel⟩, by decide +kernel, Nat.le_of_ble_eq_true rfl⟩
def m_Course_meet : Mth := (yX1_meet, cX1_meet, 6, none, RX1)
def cd_Course_meet : List ME := [(0, .iconst 0, 0, 0, 0), (1, .istore_n 2, 0, 0, 0), (2, .iload_n 2, 0, 0, 0), (3, .bipush 6, 0, 6, 0), (5, .if_icmp .ge 118, 123, 0, 0), (8, .iconst 0, 0, 0, 0), (9, .istore_n 3, 0, 0, 0), (10, .iload_n 3, 0, 0, 0), (11, .bipush 12, 0, 12, 0), (13, .if_icmp .ge 104, 117, 0, 0), (16, .aload_n 1, 0, 0, 0), (17, .iload_n 3, 0, 0, 0), (18, .iload_n 2, 0, 0, 0), (19, .invokestatic 58, 0, 0, 0), (22, .istore 4, 0, 0, 0), (24, .iload 4, 0, 0, 0), (26, .ifCond .ge 6, 32, 0, 0), (29, .goto 82, 111, 0, 0), (32, .aload_n 0, 0, 0, 0), (33, .dup, 0, 0, 0), (34, .getfield 19, 66, 0, 0), (37, .iconst 1, 0, 1, 0), (38, .iadd, 0, 0, 0), (39, .putfield 19, 66, 0, 0), (42, .aload_n 1, 0, 0, 0), (43, .iload_n 3, 0, 0, 0), (44, .iload 4, 0, 0, 0), (46, .invokevirtual 62, 0, 0, 0), (49, .aload_n 0, 0, 0, 0), (50, .getfield 9, 64, 0, 0), (53, .aload_n 1, 0, 0, 0), (54, .iload_n 3, 0, 0, 0), (55, .iload 4, 0, 0, 0), (57, .invokevirtual 66, 0, 0, 0), (60, .ifCond .eq 23, 83, 0, 0), (63, .aload_n 1, 0, 0, 0), (64, .iload_n 3, 0, 0, 0), (65, .iload 4, 0, 0, 0), (67, .invokevirtual 72, 0, 0, 0), (70, .aload_n 0, 0, 0, 0), (71, .dup, 0, 0, 0), (72, .getfield 15, 65, 0, 0), (75, .iconst 1, 0, 1, 0), (76, .iadd, 0, 0, 0), (77, .putfield 15, 65, 0, 0), (80, .goto 31, 111, 0, 0), (83, .aload_n 0, 0, 0, 0), (84, .getfield 9, 64, 0, 0), (87, .aload_n 1, 0, 0, 0), (88, .iload_n 3, 0, 0, 0), (89, .iload 4, 0, 0, 0), (91, .invokevirtual 75, 0, 0, 0), (94, .istore 5, 0, 0, 0), (96, .aload_n 1, 0, 0, 0), (97, .iload_n 3, 0, 0, 0), (98, .iload 5, 0, 0, 0), (100, .invokevirtual 78, 0, 0, 0), (103, .aload_n 1, 0, 0, 0), (104, .iload 4, 0, 0, 0), (106, .iload 5, 0, 0, 0), (108, .invokevirtual 78, 0, 0, 0), (111, .iinc 3 1, 0, 1, 0), (114, .goto (-104), 10, 0, 0), (117, .iinc 2 1, 0, 1, 0), (120, .goto (-118), 2, 0, 0), (123, .return_, 0, 0, 0)]
set_option maxRecDepth 20000 in
theorem bk_Course_meet : BK m_Course_meet cd_Course_meet := ⟨pl_X1, pk_X1, fun E hE => (show ∀ E ∈ cd_Course_meet, decode cX1_meet E.1 = .ok (E.2.1, ilen E.2.1) ∧ exE pl_X1 E.1 E.2.1 E.2.2.1 E.2.2.2.1 E.2.2.2.2 = true by decide +kernel) E hE⟩
theorem nk_Course_meet : NK m_Course_meet 1 := ⟨tw851, tw119, ⟨by decide +kernel, by decide +kernel⟩, by decide +kernel, Nat.le_of_ble_eq_true rfl⟩
def m_Land_draw : Mth := (yX3_draw, cX3_draw, 1, some .int, RX3)
def cd_Land_draw : List ME := [(0, .aload_n 0, 0, 0, 0), (1, .sipush 25173, 0, 25173, 0), (4, .aload_n 0, 0, 0, 0), (5, .getfield 47, 206, 0, 0), (8, .imul, 0, 0, 0), (9, .sipush 13849, 0, 13849, 0), (12, .iadd, 0, 0, 0), (13, .ldc 74, 0, 65535, 0), (15, .iand, 0, 0, 0), (16, .putfield 47, 206, 0, 0), (19, .aload_n 0, 0, 0, 0), (20, .getfield 47, 206, 0, 0), (23, .bipush 10, 0, 10, 0), (25, .irem, 0, 0, 0), (26, .ireturn, 0, 0, 0)]
set_option maxRecDepth 20000 in
theorem bk_Land_draw : BK m_Land_draw cd_Land_draw := ⟨pl_X3, pk_X3, fun E hE => (show ∀ E ∈ cd_Land_draw, decode cX3_draw E.1 = .ok (E.2.1, ilen E.2.1) ∧ exE pl_X3 E.1 E.2.1 E.2.2.1 E.2.2.2.1 E.2.2.2.2 = true by decide +kernel) E hE⟩
theorem nk_Land_draw : NK m_Land_draw 0 := ⟨tw935, tw112, ⟨by decide +kernel, by decide +kernel⟩, by decide +kernel, Nat.le_of_ble_eq_true rfl⟩
def m_Course_strain : Mth := (yX1_strain, cX1_strain, 5, none, RX1)
def cd_Course_strain : List ME := [(0, .iconst 0, 0, 0, 0), (1, .istore_n 2, 0, 0, 0), (2, .iload_n 2, 0, 0, 0), (3, .bipush 12, 0, 12, 0), (5, .if_icmp .ge 151, 156, 0, 0), (8, .aload_n 1, 0, 0, 0), (9, .getfield 88, 196, 0, 0), (12, .iload_n 2, 0, 0, 0), (13, .iaload, 12, 0, 0), (14, .istore_n 3, 0, 0, 0), (15, .iload_n 3, 0, 0, 0), (16, .iload_n 2, 0, 0, 0), (17, .if_icmp .le 133, 150, 0, 0), (20, .iload_n 3, 0, 0, 0), (21, .invokestatic 91, 0, 0, 0), (24, .ifCond .ne 6, 30, 0, 0), (27, .goto 123, 150, 0, 0), (30, .aload_n 0, 0, 0, 0), (31, .getfield 9, 64, 0, 0), (34, .aload_n 1, 0, 0, 0), (35, .iload_n 2, 0, 0, 0), (36, .iload_n 3, 0, 0, 0), (37, .invokevirtual 94, 0, 0, 0), (40, .istore 4, 0, 0, 0), (42, .aload_n 1, 0, 0, 0), (43, .invokevirtual 97, 0, 0, 0), (46, .aload_n 0, 0, 0, 0), (47, .getfield 9, 64, 0, 0), (50, .bipush 99, 0, 99, 0), (52, .bipush 10, 0, 10, 0), (54, .aload_n 1, 0, 0, 0), (55, .iload_n 2, 0, 0, 0), (56, .iload_n 3, 0, 0, 0), (57, .iload 4, 0, 0, 0), (59, .invokevirtual 101, 0, 0, 0), (62, .if_icmp .ge 41, 103, 0, 0), (65, .aload_n 1, 0, 0, 0), (66, .getfield 105, 197, 0, 0), (69, .iload_n 2, 0, 0, 0), (70, .bipush 99, 0, 99, 0), (72, .aload_n 1, 0, 0, 0), (73, .getfield 105, 197, 0, 0), (76, .iload_n 2, 0, 0, 0), (77, .iaload, 12, 0, 0), (78, .iconst 1, 0, 1, 0), (79, .iadd, 0, 0, 0), (80, .invokestatic 108, 0, 0, 0), (83, .iastore, 12, 0, 0), (84, .aload_n 1, 0, 0, 0), (85, .getfield 105, 197, 0, 0), (88, .iload_n 3, 0, 0, 0), (89, .bipush 99, 0, 99, 0), (91, .aload_n 1, 0, 0, 0), (92, .getfield 105, 197, 0, 0), (95, .iload_n 3, 0, 0, 0), (96, .iaload, 12, 0, 0), (97, .iconst 1, 0, 1, 0), (98, .iadd, 0, 0, 0), (99, .invokestatic 108, 0, 0, 0), (102, .iastore, 12, 0, 0), (103, .aload_n 1, 0, 0, 0), (104, .getfield 105, 197, 0, 0), (107, .iload_n 2, 0, 0, 0), (108, .iaload, 12, 0, 0), (109, .aload_n 0, 0, 0, 0), (110, .getfield 9, 64, 0, 0), (113, .bipush 98, 0, 98, 0), (115, .bipush 99, 0, 99, 0), (117, .aload_n 1, 0, 0, 0), (118, .iload_n 2, 0, 0, 0), (119, .iload_n 3, 0, 0, 0), (120, .iload 4, 0, 0, 0), (122, .invokevirtual 101, 0, 0, 0), (125, .if_icmp .le 25, 150, 0, 0), (128, .aload_n 1, 0, 0, 0), (129, .iload_n 2, 0, 0, 0), (130, .iload_n 3, 0, 0, 0), (131, .invokevirtual 114, 0, 0, 0), (134, .aload_n 1, 0, 0, 0), (135, .iload_n 2, 0, 0, 0), (136, .iload_n 3, 0, 0, 0), (137, .invokevirtual 62, 0, 0, 0), (140, .aload_n 0, 0, 0, 0), (141, .dup, 0, 0, 0), (142, .getfield 22, 67, 0, 0), (145, .iconst 1, 0, 1, 0), (146, .iadd, 0, 0, 0), (147, .putfield 22, 67, 0, 0), (150, .iinc 2 1, 0, 1, 0), (153, .goto (-151), 2, 0, 0), (156, .return_, 0, 0, 0)]
set_option maxRecDepth 20000 in
theorem bk_Course_strain : BK m_Course_strain cd_Course_strain := ⟨pl_X1, pk_X1, fun E hE => (show ∀ E ∈ cd_Course_strain, decode cX1_strain E.1 = .ok (E.2.1, ilen E.2.1) ∧ exE pl_X1 E.1 E.2.1 E.2.2.1 E.2.2.2.1 E.2.2.2.2 = true by decide +kernel) E hE⟩
theorem nk_Course_strain : NK m_Course_strain 1 := ⟨tw929, tw119, ⟨by decide +kernel, by decide +kernel⟩, by decide +kernel, Nat.le_of_ble_eq_true rfl⟩
def m_Course_pass : Mth := (yX1_pass, cX1_pass, 4, none, RX1)
def cd_Course_pass : List ME := [(0, .aload_n 0, 0, 0, 0), (1, .iconst 0, 0, 0, 0), (2, .putfield 15, 65, 0, 0), (5, .aload_n 0, 0, 0, 0), (6, .iconst 0, 0, 0, 0), (7, .putfield 19, 66, 0, 0), (10, .aload_n 0, 0, 0, 0), (11, .iconst 0, 0, 0, 0), (12, .putfield 22, 67, 0, 0), (15, .iconst 0, 0, 0, 0), (16, .istore_n 3, 0, 0, 0), (17, .iload_n 3, 0, 0, 0), (18, .iload_n 2, 0, 0, 0), (19, .if_icmp .ge 44, 63, 0, 0), (22, .aload_n 1, 0, 0, 0), (23, .getfield 25, 205, 0, 0), (26, .sipush 9999, 0, 9999, 0), (29, .if_icmp .ge 34, 63, 0, 0), (32, .aload_n 0, 0, 0, 0), (33, .aload_n 1, 0, 0, 0), (34, .invokevirtual 30, 0, 0, 0), (37, .aload_n 0, 0, 0, 0), (38, .aload_n 1, 0, 0, 0), (39, .invokevirtual 34, 0, 0, 0), (42, .aload_n 0, 0, 0, 0), (43, .aload_n 1, 0, 0, 0), (44, .invokevirtual 37, 0, 0, 0), (47, .aload_n 1, 0, 0, 0), (48, .dup, 0, 0, 0), (49, .getfield 25, 205, 0, 0), (52, .iconst 1, 0, 1, 0), (53, .iadd, 0, 0, 0), (54, .putfield 25, 205, 0, 0), (57, .iinc 3 1, 0, 1, 0), (60, .goto (-43), 17, 0, 0), (63, .return_, 0, 0, 0)]
set_option maxRecDepth 20000 in
theorem bk_Course_pass : BK m_Course_pass cd_Course_pass := ⟨pl_X1, pk_X1, fun E hE => (show ∀ E ∈ cd_Course_pass, decode cX1_pass E.1 = .ok (E.2.1, ilen E.2.1) ∧ exE pl_X1 E.1 E.2.1 E.2.2.1 E.2.2.2.1 E.2.2.2.2 = true by decide +kernel) E hE⟩
theorem nk_Course_pass : NK m_Course_pass 2 := ⟨tw842, tw119, ⟨by decide +kernel, by decide +kernel⟩, by decide +kernel, Nat.le_of_ble_eq_true rfl⟩
def m_Pz_days : Mth := (yX11_days, cX11_days, 2, some .int, RX11)
def cd_Pz_days : List ME := [(0, .iload_n 1, 0, 0, 0), (1, .iconst 1, 0, 1, 0), (2, .if_icmp .lt 9, 11, 0, 0), (5, .iload_n 1, 0, 0, 0), (6, .bipush 60, 0, 60, 0), (8, .if_icmp .le 5, 13, 0, 0), (11, .iconst (-1), 0, (-1), 0), (12, .ireturn, 0, 0, 0), (13, .aload_n 0, 0, 0, 0), (14, .getfield 75, 650, 0, 0), (17, .aload_n 0, 0, 0, 0), (18, .getfield 12, 640, 0, 0), (21, .iload_n 1, 0, 0, 0), (22, .invokevirtual 197, 0, 0, 0), (25, .aload_n 0, 0, 0, 0), (26, .getfield 75, 650, 0, 0), (29, .getfield 201, 65, 0, 0), (32, .ireturn, 0, 0, 0)]
set_option maxRecDepth 20000 in
theorem bk_Pz_days : BK m_Pz_days cd_Pz_days := ⟨pl_X11, pk_X11, fun E hE => (show ∀ E ∈ cd_Pz_days, decode cX11_days E.1 = .ok (E.2.1, ilen E.2.1) ∧ exE pl_X11 E.1 E.2.1 E.2.2.1 E.2.2.2.1 E.2.2.2.2 = true by decide +kernel) E hE⟩
theorem nk_Pz_days : NK m_Pz_days 1 := ⟨tw838, tw111, ⟨by decide +kernel, by decide +kernel⟩, by decide +kernel, Nat.le_of_ble_eq_true rfl⟩
def m_Land_copyFrom : Mth := (yX3_copyFrom, cX3_copyFrom, 3, none, RX3)
def cd_Land_copyFrom : List ME := [(0, .aload_n 1, 0, 0, 0), (1, .ifnonnull 4, 5, 0, 0), (5, .aload_n 0, 0, 0, 0), (6, .aload_n 1, 0, 0, 0), (7, .getfield 55, 192, 0, 0), (10, .putfield 55, 192, 0, 0), (13, .aload_n 0, 0, 0, 0), (14, .aload_n 1, 0, 0, 0), (15, .getfield 58, 193, 0, 0), (18, .putfield 58, 193, 0, 0), (21, .aload_n 0, 0, 0, 0), (22, .aload_n 1, 0, 0, 0), (23, .getfield 75, 205, 0, 0), (26, .putfield 75, 205, 0, 0), (29, .aload_n 0, 0, 0, 0), (30, .aload_n 1, 0, 0, 0), (31, .getfield 47, 206, 0, 0), (34, .putfield 47, 206, 0, 0), (37, .iconst 0, 0, 0, 0), (38, .istore_n 2, 0, 0, 0), (39, .iload_n 2, 0, 0, 0), (40, .bipush 12, 0, 12, 0), (42, .if_icmp .ge 156, 198, 0, 0), (45, .aload_n 0, 0, 0, 0), (46, .getfield 9, 194, 0, 0), (49, .iload_n 2, 0, 0, 0), (50, .aload_n 1, 0, 0, 0), (51, .getfield 9, 194, 0, 0), (54, .iload_n 2, 0, 0, 0), (55, .iaload, 12, 0, 0), (56, .iastore, 12, 0, 0), (57, .aload_n 0, 0, 0, 0), (58, .getfield 15, 195, 0, 0), (61, .iload_n 2, 0, 0, 0), (62, .aload_n 1, 0, 0, 0), (63, .getfield 15, 195, 0, 0), (66, .iload_n 2, 0, 0, 0), (67, .iaload, 12, 0, 0), (68, .iastore, 12, 0, 0), (69, .aload_n 0, 0, 0, 0), (70, .getfield 18, 196, 0, 0), (73, .iload_n 2, 0, 0, 0), (74, .aload_n 1, 0, 0, 0), (75, .getfield 18, 196, 0, 0), (78, .iload_n 2, 0, 0, 0), (79, .iaload, 12, 0, 0), (80, .iastore, 12, 0, 0), (81, .aload_n 0, 0, 0, 0), (82, .getfield 21, 197, 0, 0), (85, .iload_n 2, 0, 0, 0), (86, .aload_n 1, 0, 0, 0), (87, .getfield 21, 197, 0, 0), (90, .iload_n 2, 0, 0, 0), (91, .iaload, 12, 0, 0), (92, .iastore, 12, 0, 0), (93, .aload_n 0, 0, 0, 0), (94, .getfield 24, 198, 0, 0), (97, .iload_n 2, 0, 0, 0), (98, .aload_n 1, 0, 0, 0), (99, .getfield 24, 198, 0, 0), (102, .iload_n 2, 0, 0, 0), (103, .iaload, 12, 0, 0), (104, .iastore, 12, 0, 0), (105, .aload_n 0, 0, 0, 0), (106, .getfield 27, 199, 0, 0), (109, .iload_n 2, 0, 0, 0), (110, .aload_n 1, 0, 0, 0), (111, .getfield 27, 199, 0, 0), (114, .iload_n 2, 0, 0, 0), (115, .iaload, 12, 0, 0), (116, .iastore, 12, 0, 0), (117, .aload_n 0, 0, 0, 0), (118, .getfield 30, 200, 0, 0), (121, .iload_n 2, 0, 0, 0), (122, .aload_n 1, 0, 0, 0), (123, .getfield 30, 200, 0, 0), (126, .iload_n 2, 0, 0, 0), (127, .iaload, 12, 0, 0), (128, .iastore, 12, 0, 0), (129, .aload_n 0, 0, 0, 0), (130, .getfield 41, 203, 0, 0), (133, .iload_n 2, 0, 0, 0), (134, .aload_n 1, 0, 0, 0), (135, .getfield 41, 203, 0, 0), (138, .iload_n 2, 0, 0, 0), (139, .iaload, 12, 0, 0), (140, .iastore, 12, 0, 0), (141, .aload_n 0, 0, 0, 0), (142, .getfield 44, 204, 0, 0), (145, .iload_n 2, 0, 0, 0), (146, .aload_n 1, 0, 0, 0), (147, .getfield 44, 204, 0, 0), (150, .iload_n 2, 0, 0, 0), (151, .iaload, 12, 0, 0), (152, .iastore, 12, 0, 0), (153, .aload_n 1, 0, 0, 0), (154, .getfield 35, 201, 0, 0), (157, .iload_n 2, 0, 0, 0), (158, .aaload, 12, 0, 0), (159, .iconst 0, 0, 0, 0), (160, .aload_n 0, 0, 0, 0), (161, .getfield 35, 201, 0, 0), (164, .iload_n 2, 0, 0, 0), (165, .aaload, 12, 0, 0), (166, .iconst 0, 0, 0, 0), (167, .bipush 8, 0, 8, 0), (169, .invokestatic 78, 0, 0, 0), (172, .aload_n 1, 0, 0, 0), (173, .getfield 38, 202, 0, 0), (176, .iload_n 2, 0, 0, 0), (177, .aaload, 12, 0, 0), (178, .iconst 0, 0, 0, 0), (179, .aload_n 0, 0, 0, 0), (180, .getfield 38, 202, 0, 0), (183, .iload_n 2, 0, 0, 0), (184, .aaload, 12, 0, 0), (185, .iconst 0, 0, 0, 0), (186, .sipush 144, 0, 144, 0), (189, .invokestatic 78, 0, 0, 0), (192, .iinc 2 1, 0, 1, 0), (195, .goto (-156), 39, 0, 0), (198, .return_, 0, 0, 0)]
set_option maxRecDepth 20000 in
theorem bk_Land_copyFrom : BK m_Land_copyFrom cd_Land_copyFrom := ⟨pl_X3, pk_X3, fun E hE => (show ∀ E ∈ cd_Land_copyFrom, decode cX3_copyFrom E.1 = .ok (E.2.1, ilen E.2.1) ∧ exE pl_X3 E.1 E.2.1 E.2.2.1 E.2.2.2.1 E.2.2.2.2 = true by decide +kernel) E hE⟩
theorem nk_Land_copyFrom : NK m_Land_copyFrom 1 := ⟨tw947, tw112, ⟨by decide +kernel, by decide +kernel⟩, by decide +kernel, Nat.le_of_ble_eq_true rfl⟩
def m_Land_countTwos : Mth := (yX3_countTwos, cX3_countTwos, 3, some .int, RX3)
def cd_Land_countTwos : List ME := [(0, .iconst 0, 0, 0, 0), (1, .istore_n 1, 0, 0, 0), (2, .iconst 0, 0, 0, 0), (3, .istore_n 2, 0, 0, 0), (4, .iload_n 2, 0, 0, 0), (5, .bipush 12, 0, 12, 0), (7, .if_icmp .ge 22, 29, 0, 0), (10, .aload_n 0, 0, 0, 0), (11, .getfield 18, 196, 0, 0), (14, .iload_n 2, 0, 0, 0), (15, .iaload, 12, 0, 0), (16, .iload_n 2, 0, 0, 0), (17, .if_icmp .le 6, 23, 0, 0), (20, .iinc 1 1, 0, 1, 0), (23, .iinc 2 1, 0, 1, 0), (26, .goto (-22), 4, 0, 0), (29, .iload_n 1, 0, 0, 0), (30, .ireturn, 0, 0, 0)]
set_option maxRecDepth 20000 in
theorem bk_Land_countTwos : BK m_Land_countTwos cd_Land_countTwos := ⟨pl_X3, pk_X3, fun E hE => (show ∀ E ∈ cd_Land_countTwos, decode cX3_countTwos E.1 = .ok (E.2.1, ilen E.2.1) ∧ exE pl_X3 E.1 E.2.1 E.2.2.1 E.2.2.2.1 E.2.2.2.2 = true by decide +kernel) E hE⟩
theorem nk_Land_countTwos : NK m_Land_countTwos 0 := ⟨tw952, tw112, ⟨by decide +kernel, by decide +kernel⟩, by decide +kernel, Nat.le_of_ble_eq_true rfl⟩
def m_Pz_tried : Mth := (yX11_tried, cX11_tried, 6, some .int, RX11)
def cd_Pz_tried : List ME := [(0, .iload_n 2, 0, 0, 0), (1, .bipush 10, 0, 10, 0), (3, .if_icmp .lt 27, 30, 0, 0), (6, .iload_n 2, 0, 0, 0), (7, .bipush 22, 0, 22, 0), (9, .if_icmp .ge 21, 30, 0, 0), (12, .aload_n 0, 0, 0, 0), (13, .getfield 12, 640, 0, 0), (16, .iload_n 2, 0, 0, 0), (17, .bipush 10, 0, 10, 0), (19, .isub, 0, 0, 0), (20, .invokevirtual 108, 0, 0, 0), (23, .ifCond .eq 7, 30, 0, 0), (26, .iconst 1, 0, 1, 0), (27, .goto 4, 31, 0, 0), (30, .iconst 0, 0, 0, 0), (31, .istore_n 3, 0, 0, 0), (32, .iload_n 2, 0, 0, 0), (33, .bipush 30, 0, 30, 0), (35, .if_icmp .lt 13, 48, 0, 0), (38, .iload_n 2, 0, 0, 0), (39, .bipush 42, 0, 42, 0), (41, .if_icmp .ge 7, 48, 0, 0), (44, .iconst 1, 0, 1, 0), (45, .goto 4, 49, 0, 0), (48, .iconst 0, 0, 0, 0), (49, .istore 4, 0, 0, 0), (51, .iload_n 2, 0, 0, 0), (52, .ifCond .lt 12, 64, 0, 0), (55, .iload_n 2, 0, 0, 0), (56, .iconst 3, 0, 3, 0), (57, .if_icmp .gt 7, 64, 0, 0), (60, .iconst 1, 0, 1, 0), (61, .goto 4, 65, 0, 0), (64, .iconst 0, 0, 0, 0), (65, .istore 5, 0, 0, 0), (67, .iload_n 1, 0, 0, 0), (68, .iconst 1, 0, 1, 0), (69, .if_icmp .lt 23, 92, 0, 0), (72, .iload_n 1, 0, 0, 0), (73, .bipush 60, 0, 60, 0), (75, .if_icmp .gt 17, 92, 0, 0), (78, .iload_n 3, 0, 0, 0), (79, .ifCond .ne 15, 94, 0, 0), (82, .iload 4, 0, 0, 0), (84, .ifCond .ne 10, 94, 0, 0), (87, .iload 5, 0, 0, 0), (89, .ifCond .ne 5, 94, 0, 0), (92, .iconst (-1), 0, (-1), 0), (93, .ireturn, 0, 0, 0), (94, .aload_n 0, 0, 0, 0), (95, .getfield 19, 642, 0, 0), (98, .aload_n 0, 0, 0, 0), (99, .getfield 12, 640, 0, 0), (102, .invokevirtual 204, 0, 0, 0), (105, .aload_n 0, 0, 0, 0), (106, .getfield 75, 650, 0, 0), (109, .aload_n 0, 0, 0, 0), (110, .getfield 19, 642, 0, 0), (113, .iload_n 1, 0, 0, 0), (114, .invokevirtual 197, 0, 0, 0), (117, .iload_n 3, 0, 0, 0), (118, .ifCond .eq 16, 134, 0, 0), (121, .aload_n 0, 0, 0, 0), (122, .getfield 19, 642, 0, 0), (125, .getfield 207, 196, 0, 0), (128, .iload_n 2, 0, 0, 0), (129, .bipush 10, 0, 10, 0), (131, .isub, 0, 0, 0), (132, .iaload, 12, 0, 0), (133, .ireturn, 0, 0, 0), (134, .iload 4, 0, 0, 0), (136, .ifCond .eq 16, 152, 0, 0), (139, .aload_n 0, 0, 0, 0), (140, .getfield 19, 642, 0, 0), (143, .getfield 124, 200, 0, 0), (146, .iload_n 2, 0, 0, 0), (147, .bipush 30, 0, 30, 0), (149, .isub, 0, 0, 0), (150, .iaload, 12, 0, 0), (151, .ireturn, 0, 0, 0), (152, .iload_n 2, 0, 0, 0), (153, .ifCond .ne 11, 164, 0, 0), (156, .aload_n 0, 0, 0, 0), (157, .getfield 75, 650, 0, 0), (160, .getfield 201, 65, 0, 0), (163, .ireturn, 0, 0, 0), (164, .iload_n 2, 0, 0, 0), (165, .iconst 1, 0, 1, 0), (166, .if_icmp .ne 11, 177, 0, 0), (169, .aload_n 0, 0, 0, 0), (170, .getfield 75, 650, 0, 0), (173, .getfield 210, 66, 0, 0), (176, .ireturn, 0, 0, 0), (177, .iload_n 2, 0, 0, 0), (178, .iconst 2, 0, 2, 0), (179, .if_icmp .ne 13, 192, 0, 0), (182, .aload_n 0, 0, 0, 0), (183, .getfield 75, 650, 0, 0), (186, .getfield 213, 67, 0, 0), (189, .goto 10, 199, 0, 0), (192, .aload_n 0, 0, 0, 0), (193, .getfield 19, 642, 0, 0), (196, .invokevirtual 216, 0, 0, 0), (199, .ireturn, 0, 0, 0)]
set_option maxRecDepth 20000 in
theorem bk_Pz_tried : BK m_Pz_tried cd_Pz_tried := ⟨pl_X11, pk_X11, fun E hE => (show ∀ E ∈ cd_Pz_tried, decode cX11_tried E.1 = .ok (E.2.1, ilen E.2.1) ∧ exE pl_X11 E.1 E.2.1 E.2.2.1 E.2.2.2.1 E.2.2.2.2 = true by decide +kernel) E hE⟩
theorem nk_Pz_tried : NK m_Pz_tried 2 := ⟨tw943, tw111, ⟨by decide +kernel, by decide +kernel⟩, by decide +kernel, Nat.le_of_ble_eq_true rfl⟩
def m_Pz_whomItFits : Mth := (yX11_whomItFits, cX11_whomItFits, 4, some .int, RX11)
def cd_Pz_whomItFits : List ME := [(0, .iconst 0, 0, 0, 0), (1, .istore_n 2, 0, 0, 0), (2, .iconst 0, 0, 0, 0), (3, .istore_n 3, 0, 0, 0), (4, .iload_n 3, 0, 0, 0), (5, .bipush 12, 0, 12, 0), (7, .if_icmp .ge 47, 54, 0, 0), (10, .iload_n 3, 0, 0, 0), (11, .iload_n 1, 0, 0, 0), (12, .if_icmp .eq 36, 48, 0, 0), (15, .aload_n 0, 0, 0, 0), (16, .getfield 12, 640, 0, 0), (19, .iload_n 3, 0, 0, 0), (20, .invokevirtual 127, 0, 0, 0), (23, .ifCond .eq 25, 48, 0, 0), (26, .aload_n 0, 0, 0, 0), (27, .getfield 66, 649, 0, 0), (30, .aload_n 0, 0, 0, 0), (31, .getfield 12, 640, 0, 0), (34, .iload_n 1, 0, 0, 0), (35, .iload_n 3, 0, 0, 0), (36, .invokevirtual 232, 0, 0, 0), (39, .ifCond .eq 9, 48, 0, 0), (42, .iload_n 2, 0, 0, 0), (43, .iconst 1, 0, 1, 0), (44, .iload_n 3, 0, 0, 0), (45, .ishl, 0, 0, 0), (46, .ior, 0, 0, 0), (47, .istore_n 2, 0, 0, 0), (48, .iinc 3 1, 0, 1, 0), (51, .goto (-47), 4, 0, 0), (54, .iload_n 2, 0, 0, 0), (55, .ireturn, 0, 0, 0)]
set_option maxRecDepth 20000 in
theorem bk_Pz_whomItFits : BK m_Pz_whomItFits cd_Pz_whomItFits := ⟨pl_X11, pk_X11, fun E hE => (show ∀ E ∈ cd_Pz_whomItFits, decode cX11_whomItFits E.1 = .ok (E.2.1, ilen E.2.1) ∧ exE pl_X11 E.1 E.2.1 E.2.2.1 E.2.2.2.1 E.2.2.2.2 = true by decide +kernel) E hE⟩
theorem nk_Pz_whomItFits : NK m_Pz_whomItFits 1 := ⟨tw961, tw111, ⟨by decide +kernel, by decide +kernel⟩, by decide +kernel, Nat.le_of_ble_eq_true rfl⟩
def m_Pz_personIs : Mth := (yX11_personIs, cX11_personIs, 3, some .int, RX11)
def cd_Pz_personIs : List ME := [(0, .aload_n 0, 0, 0, 0), (1, .getfield 12, 640, 0, 0), (4, .iload_n 1, 0, 0, 0), (5, .invokevirtual 108, 0, 0, 0), (8, .ifCond .ne 5, 13, 0, 0), (11, .iconst (-1), 0, (-1), 0), (12, .ireturn, 0, 0, 0), (13, .iload_n 2, 0, 0, 0), (64, .aload_n 0, 0, 0, 0), (65, .getfield 12, 640, 0, 0), (68, .getfield 118, 194, 0, 0), (71, .iload_n 1, 0, 0, 0), (72, .iaload, 12, 0, 0), (73, .ireturn, 0, 0, 0), (74, .aload_n 0, 0, 0, 0), (75, .getfield 12, 640, 0, 0), (78, .getfield 121, 195, 0, 0), (81, .iload_n 1, 0, 0, 0), (82, .iaload, 12, 0, 0), (83, .ireturn, 0, 0, 0), (84, .aload_n 0, 0, 0, 0), (85, .getfield 12, 640, 0, 0), (88, .getfield 207, 196, 0, 0), (91, .iload_n 1, 0, 0, 0), (92, .iaload, 12, 0, 0), (93, .ireturn, 0, 0, 0), (94, .aload_n 0, 0, 0, 0), (95, .getfield 12, 640, 0, 0), (98, .getfield 220, 197, 0, 0), (101, .iload_n 1, 0, 0, 0), (102, .iaload, 12, 0, 0), (103, .ireturn, 0, 0, 0), (104, .aload_n 0, 0, 0, 0), (105, .getfield 12, 640, 0, 0), (108, .iload_n 1, 0, 0, 0), (109, .invokevirtual 127, 0, 0, 0), (112, .ifCond .eq 7, 119, 0, 0), (115, .iconst 1, 0, 1, 0), (116, .goto 4, 120, 0, 0), (119, .iconst 0, 0, 0, 0), (120, .ireturn, 0, 0, 0), (121, .aload_n 0, 0, 0, 0), (122, .getfield 12, 640, 0, 0), (125, .iload_n 1, 0, 0, 0), (126, .invokevirtual 223, 0, 0, 0), (129, .ireturn, 0, 0, 0), (130, .aload_n 0, 0, 0, 0), (131, .iload_n 1, 0, 0, 0), (132, .invokevirtual 226, 0, 0, 0), (135, .ireturn, 0, 0, 0), (136, .aload_n 0, 0, 0, 0), (137, .getfield 12, 640, 0, 0), (140, .getfield 188, 203, 0, 0), (143, .iload_n 1, 0, 0, 0), (144, .iaload, 12, 0, 0), (145, .aload_n 0, 0, 0, 0), (146, .getfield 12, 640, 0, 0), (149, .getfield 194, 204, 0, 0), (152, .iload_n 1, 0, 0, 0), (153, .iaload, 12, 0, 0), (154, .isub, 0, 0, 0), (155, .ireturn, 0, 0, 0), (156, .aload_n 0, 0, 0, 0), (157, .getfield 12, 640, 0, 0), (160, .getfield 229, 198, 0, 0), (163, .iload_n 1, 0, 0, 0), (164, .iaload, 12, 0, 0), (165, .ireturn, 0, 0, 0), (166, .iconst (-1), 0, (-1), 0), (167, .ireturn, 0, 0, 0)]
set_option maxRecDepth 20000 in
theorem bk_Pz_personIs : BK m_Pz_personIs cd_Pz_personIs := ⟨pl_X11, pk_X11, fun E hE => (show ∀ E ∈ cd_Pz_personIs, decode cX11_personIs E.1 = .ok (E.2.1, ilen E.2.1) ∧ exE pl_X11 E.1 E.2.1 E.2.2.1 E.2.2.2.1 E.2.2.2.2 = true by decide +kernel) E hE⟩
theorem nk_Pz_personIs : NK m_Pz_personIs 2 := ⟨tw956, tw111, ⟨by decide +kernel, by decide +kernel⟩, by decide +kernel, Nat.le_of_ble_eq_true rfl⟩
def m_Pz_piece : Mth := (yX11_piece, cX11_piece, 3, some .int, RX11)
def cd_Pz_piece : List ME := [(0, .iload_n 1, 0, 0, 0), (1, .invokestatic 104, 0, 0, 0), (4, .ifCond .eq 13, 17, 0, 0), (7, .iload_n 2, 0, 0, 0), (8, .ifCond .lt 9, 17, 0, 0), (11, .iload_n 2, 0, 0, 0), (12, .bipush 9, 0, 9, 0), (14, .if_icmp .le 6, 20, 0, 0), (17, .bipush (-100), 0, (-100), 0), (19, .ireturn, 0, 0, 0), (20, .iload_n 2, 0, 0, 0), (21, .bipush 8, 0, 8, 0), (23, .if_icmp .ge 15, 38, 0, 0), (26, .aload_n 0, 0, 0, 0), (27, .getfield 12, 640, 0, 0), (30, .getfield 163, 201, 0, 0), (33, .iload_n 1, 0, 0, 0), (34, .aaload, 12, 0, 0), (35, .iload_n 2, 0, 0, 0), (36, .iaload, 8, 0, 0), (37, .ireturn, 0, 0, 0), (38, .iload_n 2, 0, 0, 0), (39, .bipush 8, 0, 8, 0), (41, .if_icmp .ne 13, 54, 0, 0), (44, .aload_n 0, 0, 0, 0), (45, .getfield 12, 640, 0, 0), (48, .getfield 124, 200, 0, 0), (51, .iload_n 1, 0, 0, 0), (52, .iaload, 12, 0, 0), (53, .ireturn, 0, 0, 0), (54, .aload_n 0, 0, 0, 0), (55, .getfield 12, 640, 0, 0), (58, .aload_n 0, 0, 0, 0), (59, .getfield 12, 640, 0, 0), (62, .getfield 236, 199, 0, 0), (65, .iload_n 1, 0, 0, 0), (66, .iaload, 12, 0, 0), (67, .invokevirtual 127, 0, 0, 0), (70, .ifCond .eq 15, 85, 0, 0), (73, .aload_n 0, 0, 0, 0), (74, .getfield 12, 640, 0, 0), (77, .getfield 236, 199, 0, 0), (80, .iload_n 1, 0, 0, 0), (81, .iaload, 12, 0, 0), (82, .goto 5, 87, 0, 0), (85, .bipush (-2), 0, (-2), 0), (87, .ireturn, 0, 0, 0)]
set_option maxRecDepth 20000 in
theorem bk_Pz_piece : BK m_Pz_piece cd_Pz_piece := ⟨pl_X11, pk_X11, fun E hE => (show ∀ E ∈ cd_Pz_piece, decode cX11_piece E.1 = .ok (E.2.1, ilen E.2.1) ∧ exE pl_X11 E.1 E.2.1 E.2.2.1 E.2.2.2.1 E.2.2.2.2 = true by decide +kernel) E hE⟩
theorem nk_Pz_piece : NK m_Pz_piece 2 := ⟨tw966, tw111, ⟨by decide +kernel, by decide +kernel⟩, by decide +kernel, Nat.le_of_ble_eq_true rfl⟩
def m_Judge_liking : Mth := (yX2_liking, cX2_liking, 4, some .int, RX2)
def cd_Judge_liking : List ME := [(0, .aload_n 0, 0, 0, 0), (1, .bipush 108, 0, 108, 0), (3, .bipush 99, 0, 99, 0), (5, .aload_n 1, 0, 0, 0), (6, .iload_n 2, 0, 0, 0), (7, .iload_n 3, 0, 0, 0), (8, .aload_n 0, 0, 0, 0), (9, .aload_n 1, 0, 0, 0), (10, .iload_n 2, 0, 0, 0), (11, .iload_n 3, 0, 0, 0), (12, .invokevirtual 48, 0, 0, 0), (15, .invokevirtual 59, 0, 0, 0), (18, .ireturn, 0, 0, 0)]
set_option maxRecDepth 20000 in
theorem bk_Judge_liking : BK m_Judge_liking cd_Judge_liking := ⟨pl_X2, pk_X2, fun E hE => (show ∀ E ∈ cd_Judge_liking, decode cX2_liking E.1 = .ok (E.2.1, ilen E.2.1) ∧ exE pl_X2 E.1 E.2.1 E.2.2.1 E.2.2.2.1 E.2.2.2.2 = true by decide +kernel) E hE⟩
theorem nk_Judge_liking : NK m_Judge_liking 3 := ⟨tw975, tw118, ⟨by decide +kernel, by decide +kernel⟩, by decide +kernel, Nat.le_of_ble_eq_true rfl⟩
def m_Pz_slack : Mth := (yX11_slack, cX11_slack, 5, some .int, RX11)
def cd_Pz_slack : List ME := [(0, .aload_n 0, 0, 0, 0), (1, .getfield 12, 640, 0, 0), (4, .iload_n 1, 0, 0, 0), (5, .invokevirtual 108, 0, 0, 0), (8, .ifCond .eq 28, 36, 0, 0), (11, .aload_n 0, 0, 0, 0), (12, .getfield 12, 640, 0, 0), (15, .iload_n 2, 0, 0, 0), (16, .invokevirtual 108, 0, 0, 0), (19, .ifCond .eq 17, 36, 0, 0), (22, .iload_n 1, 0, 0, 0), (23, .iload_n 2, 0, 0, 0), (24, .if_icmp .eq 12, 36, 0, 0), (27, .iload_n 3, 0, 0, 0), (28, .ifCond .lt 8, 36, 0, 0), (31, .iload_n 3, 0, 0, 0), (32, .iconst 2, 0, 2, 0), (33, .if_icmp .le 5, 38, 0, 0), (36, .iconst (-1), 0, (-1), 0), (37, .ireturn, 0, 0, 0), (38, .aload_n 0, 0, 0, 0), (39, .getfield 66, 649, 0, 0), (42, .aload_n 0, 0, 0, 0), (43, .getfield 12, 640, 0, 0), (46, .iload_n 1, 0, 0, 0), (47, .iload_n 2, 0, 0, 0), (48, .invokevirtual 239, 0, 0, 0), (51, .istore 4, 0, 0, 0), (53, .iload 4, 0, 0, 0), (55, .ifCond .lt 7, 62, 0, 0), (58, .iload_n 3, 0, 0, 0), (59, .ifCond .ne 6, 65, 0, 0), (62, .iload 4, 0, 0, 0), (64, .ireturn, 0, 0, 0), (65, .iload_n 3, 0, 0, 0), (66, .iconst 1, 0, 1, 0), (67, .if_icmp .ne 25, 92, 0, 0), (70, .aload_n 0, 0, 0, 0), (71, .getfield 66, 649, 0, 0), (74, .aload_n 0, 0, 0, 0), (75, .getfield 12, 640, 0, 0), (78, .iload_n 1, 0, 0, 0), (79, .iload_n 2, 0, 0, 0), (80, .invokevirtual 232, 0, 0, 0), (83, .ifCond .eq 7, 90, 0, 0), (86, .iconst 1, 0, 1, 0), (87, .goto 4, 91, 0, 0), (90, .iconst 0, 0, 0, 0), (91, .ireturn, 0, 0, 0), (92, .aload_n 0, 0, 0, 0), (93, .getfield 66, 649, 0, 0), (96, .aload_n 0, 0, 0, 0), (97, .getfield 12, 640, 0, 0), (100, .iload_n 1, 0, 0, 0), (101, .iload_n 2, 0, 0, 0), (102, .invokevirtual 243, 0, 0, 0), (105, .ireturn, 0, 0, 0)]
set_option maxRecDepth 20000 in
theorem bk_Pz_slack : BK m_Pz_slack cd_Pz_slack := ⟨pl_X11, pk_X11, fun E hE => (show ∀ E ∈ cd_Pz_slack, decode cX11_slack E.1 = .ok (E.2.1, ilen E.2.1) ∧ exE pl_X11 E.1 E.2.1 E.2.2.1 E.2.2.2.1 E.2.2.2.2 = true by decide +kernel) E hE⟩
theorem nk_Pz_slack : NK m_Pz_slack 3 := ⟨tw970, tw111, ⟨by decide +kernel, by decide +kernel⟩, by decide +kernel, Nat.le_of_ble_eq_true rfl⟩
def m_Pz_fitsAbove : Mth := (yX11_fitsAbove, cX11_fitsAbove, 4, some .int, RX11)
def cd_Pz_fitsAbove : List ME := [(0, .aload_n 0, 0, 0, 0), (1, .getfield 12, 640, 0, 0), (4, .iload_n 1, 0, 0, 0), (5, .invokevirtual 127, 0, 0, 0), (8, .ifCond .ne 5, 13, 0, 0), (11, .iconst 0, 0, 0, 0), (12, .ireturn, 0, 0, 0), (13, .iconst 0, 0, 0, 0), (14, .istore_n 2, 0, 0, 0), (15, .iload_n 1, 0, 0, 0), (16, .iconst 1, 0, 1, 0), (17, .iadd, 0, 0, 0), (18, .istore_n 3, 0, 0, 0), (19, .iload_n 3, 0, 0, 0), (20, .bipush 12, 0, 12, 0), (22, .if_icmp .ge 42, 64, 0, 0), (25, .aload_n 0, 0, 0, 0), (26, .getfield 12, 640, 0, 0), (29, .iload_n 3, 0, 0, 0), (30, .invokevirtual 127, 0, 0, 0), (33, .ifCond .eq 25, 58, 0, 0), (36, .aload_n 0, 0, 0, 0), (37, .getfield 66, 649, 0, 0), (40, .aload_n 0, 0, 0, 0), (41, .getfield 12, 640, 0, 0), (44, .iload_n 1, 0, 0, 0), (45, .iload_n 3, 0, 0, 0), (46, .invokevirtual 232, 0, 0, 0), (49, .ifCond .eq 9, 58, 0, 0), (52, .iload_n 2, 0, 0, 0), (53, .iconst 1, 0, 1, 0), (54, .iload_n 3, 0, 0, 0), (55, .ishl, 0, 0, 0), (56, .ior, 0, 0, 0), (57, .istore_n 2, 0, 0, 0), (58, .iinc 3 1, 0, 1, 0), (61, .goto (-42), 19, 0, 0), (64, .iload_n 2, 0, 0, 0), (65, .ireturn, 0, 0, 0)]
set_option maxRecDepth 20000 in
theorem bk_Pz_fitsAbove : BK m_Pz_fitsAbove cd_Pz_fitsAbove := ⟨pl_X11, pk_X11, fun E hE => (show ∀ E ∈ cd_Pz_fitsAbove, decode cX11_fitsAbove E.1 = .ok (E.2.1, ilen E.2.1) ∧ exE pl_X11 E.1 E.2.1 E.2.2.1 E.2.2.2.1 E.2.2.2.2 = true by decide +kernel) E hE⟩
theorem nk_Pz_fitsAbove : NK m_Pz_fitsAbove 1 := ⟨tw983, tw111, ⟨by decide +kernel, by decide +kernel⟩, by decide +kernel, Nat.le_of_ble_eq_true rfl⟩
def m_Pz_lowestOf : Mth := (yX11_lowestOf, cX11_lowestOf, 2, some .int, RX11)
def cd_Pz_lowestOf : List ME := [(0, .iconst 0, 0, 0, 0), (1, .istore_n 1, 0, 0, 0), (2, .iload_n 1, 0, 0, 0), (3, .bipush 12, 0, 12, 0), (5, .if_icmp .ge 20, 25, 0, 0), (8, .iload_n 0, 0, 0, 0), (9, .iload_n 1, 0, 0, 0), (10, .ishr, 0, 0, 0), (11, .iconst 1, 0, 1, 0), (12, .iand, 0, 0, 0), (13, .iconst 1, 0, 1, 0), (14, .if_icmp .ne 5, 19, 0, 0), (17, .iload_n 1, 0, 0, 0), (18, .ireturn, 0, 0, 0), (19, .iinc 1 1, 0, 1, 0), (22, .goto (-20), 2, 0, 0), (25, .bipush (-2), 0, (-2), 0), (27, .ireturn, 0, 0, 0)]
set_option maxRecDepth 20000 in
theorem bk_Pz_lowestOf : BK m_Pz_lowestOf cd_Pz_lowestOf := ⟨pl_X11, pk_X11, fun E hE => (show ∀ E ∈ cd_Pz_lowestOf, decode cX11_lowestOf E.1 = .ok (E.2.1, ilen E.2.1) ∧ exE pl_X11 E.1 E.2.1 E.2.2.1 E.2.2.2.1 E.2.2.2.2 = true by decide +kernel) E hE⟩
theorem nk_Pz_lowestOf : NK m_Pz_lowestOf 1 := ⟨tw986, tw111, ⟨by decide +kernel, by decide +kernel⟩, by decide +kernel, Nat.le_of_ble_eq_true rfl⟩
def m_Pz_locks : Mth := (yX11_locks, cX11_locks, 8, some .int, RX11)
def cd_Pz_locks : List ME := [(0, .iload_n 1, 0, 0, 0), (1, .ifCond .lt 8, 9, 0, 0), (4, .iload_n 1, 0, 0, 0), (5, .iconst 3, 0, 3, 0), (6, .if_icmp .le 5, 11, 0, 0), (9, .iconst (-1), 0, (-1), 0), (10, .ireturn, 0, 0, 0), (11, .iconst 0, 0, 0, 0), (12, .istore_n 2, 0, 0, 0), (13, .bipush (-2), 0, (-2), 0), (15, .istore_n 3, 0, 0, 0), (16, .iconst 0, 0, 0, 0), (17, .istore 4, 0, 0, 0), (19, .iload 4, 0, 0, 0), (21, .bipush 12, 0, 12, 0), (23, .if_icmp .ge 103, 126, 0, 0), (26, .aload_n 0, 0, 0, 0), (27, .iload 4, 0, 0, 0), (29, .invokevirtual 246, 0, 0, 0), (32, .istore 5, 0, 0, 0), (34, .iload 4, 0, 0, 0), (36, .iconst 1, 0, 1, 0), (37, .iadd, 0, 0, 0), (38, .istore 6, 0, 0, 0), (40, .iload 6, 0, 0, 0), (42, .bipush 12, 0, 12, 0), (44, .if_icmp .ge 76, 120, 0, 0), (47, .iload 5, 0, 0, 0), (49, .iload 6, 0, 0, 0), (51, .ishr, 0, 0, 0), (52, .iconst 1, 0, 1, 0), (53, .iand, 0, 0, 0), (54, .ifCond .ne 6, 60, 0, 0), (57, .goto 57, 114, 0, 0), (60, .iload 5, 0, 0, 0), (62, .aload_n 0, 0, 0, 0), (63, .iload 6, 0, 0, 0), (65, .invokevirtual 246, 0, 0, 0), (68, .iand, 0, 0, 0), (69, .istore 7, 0, 0, 0), (71, .iload_n 2, 0, 0, 0), (72, .ifCond .ne 34, 106, 0, 0), (75, .iload 7, 0, 0, 0), (77, .ifCond .eq 29, 106, 0, 0), (80, .iload_n 1, 0, 0, 0), (81, .iconst 1, 0, 1, 0), (82, .if_icmp .ne 8, 90, 0, 0), (85, .iload 4, 0, 0, 0), (87, .goto 18, 105, 0, 0), (90, .iload_n 1, 0, 0, 0), (91, .iconst 2, 0, 2, 0), (92, .if_icmp .ne 8, 100, 0, 0), (95, .iload 6, 0, 0, 0), (97, .goto 8, 105, 0, 0), (100, .iload 7, 0, 0, 0), (102, .invokestatic 249, 0, 0, 0), (105, .istore_n 3, 0, 0, 0), (106, .iload_n 2, 0, 0, 0), (107, .iload 7, 0, 0, 0), (109, .invokestatic 252, 0, 0, 0), (112, .iadd, 0, 0, 0), (113, .istore_n 2, 0, 0, 0), (114, .iinc 6 1, 0, 1, 0), (117, .goto (-77), 40, 0, 0), (120, .iinc 4 1, 0, 1, 0), (123, .goto (-104), 19, 0, 0), (126, .iload_n 1, 0, 0, 0), (127, .ifCond .ne 7, 134, 0, 0), (130, .iload_n 2, 0, 0, 0), (131, .goto 4, 135, 0, 0), (134, .iload_n 3, 0, 0, 0), (135, .ireturn, 0, 0, 0)]
set_option maxRecDepth 20000 in
theorem bk_Pz_locks : BK m_Pz_locks cd_Pz_locks := ⟨pl_X11, pk_X11, fun E hE => (show ∀ E ∈ cd_Pz_locks, decode cX11_locks E.1 = .ok (E.2.1, ilen E.2.1) ∧ exE pl_X11 E.1 E.2.1 E.2.2.1 E.2.2.2.1 E.2.2.2.2 = true by decide +kernel) E hE⟩
theorem nk_Pz_locks : NK m_Pz_locks 1 := ⟨tw979, tw111, ⟨by decide +kernel, by decide +kernel⟩, by decide +kernel, Nat.le_of_ble_eq_true rfl⟩
def m_Couples_gather : Mth := (yX0_gather, cX0_gather, 3, none, RX0)
def cd_Couples_gather : List ME := [(0, .aload_n 0, 0, 0, 0), (1, .iconst 0, 0, 0, 0), (2, .putfield 36, 6, 0, 0), (5, .aload_n 0, 0, 0, 0), (6, .iconst 0, 0, 0, 0), (7, .putfield 40, 7, 0, 0), (10, .aload_n 0, 0, 0, 0), (11, .iconst 0, 0, 0, 0), (12, .putfield 43, 2, 0, 0), (15, .aload_n 0, 0, 0, 0), (16, .iconst 0, 0, 0, 0), (17, .putfield 46, 3, 0, 0), (20, .iconst 0, 0, 0, 0), (21, .istore_n 2, 0, 0, 0), (22, .iload_n 2, 0, 0, 0), (23, .bipush 12, 0, 12, 0), (25, .if_icmp .ge 92, 117, 0, 0), (28, .aload_n 0, 0, 0, 0), (29, .getfield 15, 1, 0, 0), (32, .iload_n 2, 0, 0, 0), (33, .bipush (-2), 0, (-2), 0), (35, .iastore, 12, 0, 0), (36, .aload_n 0, 0, 0, 0), (37, .getfield 33, 10, 0, 0), (40, .iload_n 2, 0, 0, 0), (41, .iconst 0, 0, 0, 0), (42, .iastore, 12, 0, 0), (43, .aload_n 1, 0, 0, 0), (44, .iload_n 2, 0, 0, 0), (45, .invokevirtual 49, 0, 0, 0), (48, .ifCond .eq 35, 83, 0, 0), (51, .aload_n 1, 0, 0, 0), (52, .getfield 55, 194, 0, 0), (55, .iload_n 2, 0, 0, 0), (56, .iaload, 12, 0, 0), (57, .ifCond .ne 26, 83, 0, 0), (60, .aload_n 0, 0, 0, 0), (61, .getfield 19, 4, 0, 0), (64, .aload_n 0, 0, 0, 0), (65, .getfield 36, 6, 0, 0), (68, .iload_n 2, 0, 0, 0), (69, .iastore, 12, 0, 0), (70, .aload_n 0, 0, 0, 0), (71, .dup, 0, 0, 0), (72, .getfield 36, 6, 0, 0), (75, .iconst 1, 0, 1, 0), (76, .iadd, 0, 0, 0), (77, .putfield 36, 6, 0, 0), (80, .goto 31, 111, 0, 0), (83, .aload_n 1, 0, 0, 0), (84, .iload_n 2, 0, 0, 0), (85, .invokevirtual 49, 0, 0, 0), (88, .ifCond .eq 23, 111, 0, 0), (91, .aload_n 0, 0, 0, 0), (92, .getfield 22, 5, 0, 0), (95, .aload_n 0, 0, 0, 0), (96, .getfield 40, 7, 0, 0), (99, .iload_n 2, 0, 0, 0), (100, .iastore, 12, 0, 0), (101, .aload_n 0, 0, 0, 0), (102, .dup, 0, 0, 0), (103, .getfield 40, 7, 0, 0), (106, .iconst 1, 0, 1, 0), (107, .iadd, 0, 0, 0), (108, .putfield 40, 7, 0, 0), (111, .iinc 2 1, 0, 1, 0), (114, .goto (-92), 22, 0, 0), (117, .return_, 0, 0, 0)]
set_option maxRecDepth 20000 in
theorem bk_Couples_gather : BK m_Couples_gather cd_Couples_gather := ⟨pl_X0, pk_X0, fun E hE => (show ∀ E ∈ cd_Couples_gather, decode cX0_gather E.1 = .ok (E.2.1, ilen E.2.1) ∧ exE pl_X0 E.1 E.2.1 E.2.2.1 E.2.2.2.1 E.2.2.2.2 = true by decide +kernel) E hE⟩
theorem nk_Couples_gather : NK m_Couples_gather 1 := ⟨tw999, tw120, ⟨by decide +kernel, by decide +kernel⟩, by decide +kernel, Nat.le_of_ble_eq_true rfl⟩
def m_Couples_setBest : Mth := (yX0_setBest, cX0_setBest, 5, none, RX0)
def cd_Couples_setBest : List ME := [(0, .iload_n 1, 0, 0, 0), (1, .aload_n 0, 0, 0, 0), (2, .getfield 40, 7, 0, 0), (5, .ishl, 0, 0, 0), (6, .iload_n 2, 0, 0, 0), (7, .iadd, 0, 0, 0), (8, .istore 4, 0, 0, 0), (10, .iload 4, 0, 0, 0), (12, .ifCond .lt 19, 31, 0, 0), (15, .iload 4, 0, 0, 0), (17, .sipush 4096, 0, 4096, 0), (20, .if_icmp .ge 11, 31, 0, 0), (23, .aload_n 0, 0, 0, 0), (24, .getfield 30, 9, 0, 0), (27, .iload 4, 0, 0, 0), (29, .iload_n 3, 0, 0, 0), (30, .iastore, 4096, 0, 0), (31, .return_, 0, 0, 0)]
set_option maxRecDepth 20000 in
theorem bk_Couples_setBest : BK m_Couples_setBest cd_Couples_setBest := ⟨pl_X0, pk_X0, fun E hE => (show ∀ E ∈ cd_Couples_setBest, decode cX0_setBest E.1 = .ok (E.2.1, ilen E.2.1) ∧ exE pl_X0 E.1 E.2.1 E.2.2.1 E.2.2.2.1 E.2.2.2.2 = true by decide +kernel) E hE⟩
theorem nk_Couples_setBest : NK m_Couples_setBest 3 := ⟨tw1010, tw120, ⟨by decide +kernel, by decide +kernel⟩, by decide +kernel, Nat.le_of_ble_eq_true rfl⟩
def m_Couples_bestOf : Mth := (yX0_bestOf, cX0_bestOf, 4, some .int, RX0)
def cd_Couples_bestOf : List ME := [(0, .iload_n 1, 0, 0, 0), (1, .aload_n 0, 0, 0, 0), (2, .getfield 40, 7, 0, 0), (5, .ishl, 0, 0, 0), (6, .iload_n 2, 0, 0, 0), (7, .iadd, 0, 0, 0), (8, .istore_n 3, 0, 0, 0), (9, .iload_n 3, 0, 0, 0), (10, .ifCond .lt 19, 29, 0, 0), (13, .iload_n 3, 0, 0, 0), (14, .sipush 4096, 0, 4096, 0), (17, .if_icmp .ge 12, 29, 0, 0), (20, .aload_n 0, 0, 0, 0), (21, .getfield 30, 9, 0, 0), (24, .iload_n 3, 0, 0, 0), (25, .iaload, 4096, 0, 0), (26, .goto 4, 30, 0, 0), (29, .iconst 0, 0, 0, 0), (30, .ireturn, 0, 0, 0)]
set_option maxRecDepth 20000 in
theorem bk_Couples_bestOf : BK m_Couples_bestOf cd_Couples_bestOf := ⟨pl_X0, pk_X0, fun E hE => (show ∀ E ∈ cd_Couples_bestOf, decode cX0_bestOf E.1 = .ok (E.2.1, ilen E.2.1) ∧ exE pl_X0 E.1 E.2.1 E.2.2.1 E.2.2.2.1 E.2.2.2.2 = true by decide +kernel) E hE⟩
theorem nk_Couples_bestOf : NK m_Couples_bestOf 2 := ⟨tw1014, tw120, ⟨by decide +kernel, by decide +kernel⟩, by decide +kernel, Nat.le_of_ble_eq_true rfl⟩
def m_Couples_withBond : Mth := (yX0_withBond, cX0_withBond, 4, some .int, RX0)
def cd_Couples_withBond : List ME := [(0, .iload_n 3, 0, 0, 0), (1, .iload_n 2, 0, 0, 0), (2, .ishr, 0, 0, 0), (3, .iconst 1, 0, 1, 0), (4, .iand, 0, 0, 0), (5, .iconst 1, 0, 1, 0), (6, .if_icmp .eq 14, 20, 0, 0), (9, .aload_n 0, 0, 0, 0), (10, .getfield 27, 8, 0, 0), (13, .iload_n 1, 0, 0, 0), (14, .aaload, 12, 0, 0), (15, .iload_n 2, 0, 0, 0), (16, .iaload, 12, 0, 0), (17, .ifCond .ne 5, 22, 0, 0), (20, .iconst (-1), 0, (-1), 0), (21, .ireturn, 0, 0, 0), (22, .aload_n 0, 0, 0, 0), (23, .getfield 27, 8, 0, 0), (26, .iload_n 1, 0, 0, 0), (27, .aaload, 12, 0, 0), (28, .iload_n 2, 0, 0, 0), (29, .iaload, 12, 0, 0), (30, .aload_n 0, 0, 0, 0), (31, .iload_n 1, 0, 0, 0), (32, .iconst 1, 0, 1, 0), (33, .iadd, 0, 0, 0), (34, .iload_n 3, 0, 0, 0), (35, .iconst 1, 0, 1, 0), (36, .iload_n 2, 0, 0, 0), (37, .ishl, 0, 0, 0), (38, .ior, 0, 0, 0), (39, .invokevirtual 83, 0, 0, 0), (42, .iadd, 0, 0, 0), (43, .ireturn, 0, 0, 0)]
set_option maxRecDepth 20000 in
theorem bk_Couples_withBond : BK m_Couples_withBond cd_Couples_withBond := ⟨pl_X0, pk_X0, fun E hE => (show ∀ E ∈ cd_Couples_withBond, decode cX0_withBond E.1 = .ok (E.2.1, ilen E.2.1) ∧ exE pl_X0 E.1 E.2.1 E.2.2.1 E.2.2.2.1 E.2.2.2.2 = true by decide +kernel) E hE⟩
theorem nk_Couples_withBond : NK m_Couples_withBond 3 := ⟨tw1018, tw120, ⟨by decide +kernel, by decide +kernel⟩, by decide +kernel, Nat.le_of_ble_eq_true rfl⟩
def m_Couples_weighAll : Mth := (yX0_weighAll, cX0_weighAll, 6, none, RX0)
def cd_Couples_weighAll : List ME := [(0, .iconst 1, 0, 1, 0), (1, .aload_n 0, 0, 0, 0), (2, .getfield 40, 7, 0, 0), (5, .ishl, 0, 0, 0), (6, .istore_n 1, 0, 0, 0), (7, .iconst 0, 0, 0, 0), (8, .istore_n 2, 0, 0, 0), (9, .iload_n 2, 0, 0, 0), (10, .iload_n 1, 0, 0, 0), (11, .if_icmp .ge 19, 30, 0, 0), (14, .aload_n 0, 0, 0, 0), (15, .aload_n 0, 0, 0, 0), (16, .getfield 36, 6, 0, 0), (19, .iload_n 2, 0, 0, 0), (20, .iconst 0, 0, 0, 0), (21, .invokevirtual 79, 0, 0, 0), (24, .iinc 2 1, 0, 1, 0), (27, .goto (-18), 9, 0, 0), (30, .aload_n 0, 0, 0, 0), (31, .getfield 36, 6, 0, 0), (34, .iconst 1, 0, 1, 0), (35, .isub, 0, 0, 0), (36, .istore_n 2, 0, 0, 0), (37, .iload_n 2, 0, 0, 0), (38, .ifCond .lt 73, 111, 0, 0), (41, .iconst 0, 0, 0, 0), (42, .istore_n 3, 0, 0, 0), (43, .iload_n 3, 0, 0, 0), (44, .iload_n 1, 0, 0, 0), (45, .if_icmp .ge 60, 105, 0, 0), (48, .aload_n 0, 0, 0, 0), (49, .iload_n 2, 0, 0, 0), (50, .iconst 1, 0, 1, 0), (51, .iadd, 0, 0, 0), (52, .iload_n 3, 0, 0, 0), (53, .invokevirtual 83, 0, 0, 0), (56, .istore 4, 0, 0, 0), (58, .iconst 0, 0, 0, 0), (59, .istore 5, 0, 0, 0), (61, .iload 5, 0, 0, 0), (63, .aload_n 0, 0, 0, 0), (64, .getfield 40, 7, 0, 0), (67, .if_icmp .ge 24, 91, 0, 0), (70, .iload 4, 0, 0, 0), (72, .aload_n 0, 0, 0, 0), (73, .iload_n 2, 0, 0, 0), (74, .iload 5, 0, 0, 0), (76, .iload_n 3, 0, 0, 0), (77, .invokevirtual 86, 0, 0, 0), (80, .invokestatic 90, 0, 0, 0), (83, .istore 4, 0, 0, 0), (85, .iinc 5 1, 0, 1, 0), (88, .goto (-27), 61, 0, 0), (91, .aload_n 0, 0, 0, 0), (92, .iload_n 2, 0, 0, 0), (93, .iload_n 3, 0, 0, 0), (94, .iload 4, 0, 0, 0), (96, .invokevirtual 79, 0, 0, 0), (99, .iinc 3 1, 0, 1, 0), (102, .goto (-59), 43, 0, 0), (105, .iinc 2 (-1), 0, (-1), 0), (108, .goto (-71), 37, 0, 0), (111, .return_, 0, 0, 0)]
set_option maxRecDepth 20000 in
theorem bk_Couples_weighAll : BK m_Couples_weighAll cd_Couples_weighAll := ⟨pl_X0, pk_X0, fun E hE => (show ∀ E ∈ cd_Couples_weighAll, decode cX0_weighAll E.1 = .ok (E.2.1, ilen E.2.1) ∧ exE pl_X0 E.1 E.2.1 E.2.2.1 E.2.2.2.1 E.2.2.2.2 = true by decide +kernel) E hE⟩
theorem nk_Couples_weighAll : NK m_Couples_weighAll 0 := ⟨tw1006, tw120, ⟨by decide +kernel, by decide +kernel⟩, by decide +kernel, Nat.le_of_ble_eq_true rfl⟩
def m_Couples_choose : Mth := (yX0_choose, cX0_choose, 4, some .int, RX0)
def cd_Couples_choose : List ME := [(0, .iconst 0, 0, 0, 0), (1, .istore_n 3, 0, 0, 0), (2, .iload_n 3, 0, 0, 0), (3, .aload_n 0, 0, 0, 0), (4, .getfield 40, 7, 0, 0), (7, .if_icmp .ge 27, 34, 0, 0), (10, .aload_n 0, 0, 0, 0), (11, .iload_n 1, 0, 0, 0), (12, .iload_n 3, 0, 0, 0), (13, .iload_n 2, 0, 0, 0), (14, .invokevirtual 86, 0, 0, 0), (17, .aload_n 0, 0, 0, 0), (18, .iload_n 1, 0, 0, 0), (19, .iload_n 2, 0, 0, 0), (20, .invokevirtual 83, 0, 0, 0), (23, .if_icmp .ne 5, 28, 0, 0), (26, .iload_n 3, 0, 0, 0), (27, .ireturn, 0, 0, 0), (28, .iinc 3 1, 0, 1, 0), (31, .goto (-29), 2, 0, 0), (34, .iconst (-1), 0, (-1), 0), (35, .ireturn, 0, 0, 0)]
set_option maxRecDepth 20000 in
theorem bk_Couples_choose : BK m_Couples_choose cd_Couples_choose := ⟨pl_X0, pk_X0, fun E hE => (show ∀ E ∈ cd_Couples_choose, decode cX0_choose E.1 = .ok (E.2.1, ilen E.2.1) ∧ exE pl_X0 E.1 E.2.1 E.2.2.1 E.2.2.2.1 E.2.2.2.2 = true by decide +kernel) E hE⟩
theorem nk_Couples_choose : NK m_Couples_choose 2 := ⟨tw1023, tw120, ⟨by decide +kernel, by decide +kernel⟩, by decide +kernel, Nat.le_of_ble_eq_true rfl⟩
def m_Couples_findMost : Mth := (yX0_findMost, cX0_findMost, 5, none, RX0)
def cd_Couples_findMost : List ME := [(0, .aload_n 0, 0, 0, 0), (1, .aload_n 1, 0, 0, 0), (2, .invokevirtual 58, 0, 0, 0), (5, .iconst 0, 0, 0, 0), (6, .istore_n 2, 0, 0, 0), (7, .iload_n 2, 0, 0, 0), (8, .aload_n 0, 0, 0, 0), (9, .getfield 36, 6, 0, 0), (12, .if_icmp .ge 88, 100, 0, 0), (15, .iconst 0, 0, 0, 0), (16, .istore_n 3, 0, 0, 0), (17, .iload_n 3, 0, 0, 0), (18, .aload_n 0, 0, 0, 0), (19, .getfield 40, 7, 0, 0), (22, .if_icmp .ge 72, 94, 0, 0), (25, .aload_n 0, 0, 0, 0), (26, .getfield 9, 0, 0, 0), (29, .aload_n 1, 0, 0, 0), (30, .aload_n 0, 0, 0, 0), (31, .getfield 19, 4, 0, 0), (34, .iload_n 2, 0, 0, 0), (35, .iaload, 12, 0, 0), (36, .aload_n 0, 0, 0, 0), (37, .getfield 22, 5, 0, 0), (40, .iload_n 3, 0, 0, 0), (41, .iaload, 12, 0, 0), (42, .invokevirtual 62, 0, 0, 0), (45, .istore 4, 0, 0, 0), (47, .aload_n 0, 0, 0, 0), (48, .getfield 27, 8, 0, 0), (51, .iload_n 2, 0, 0, 0), (52, .aaload, 12, 0, 0), (53, .iload_n 3, 0, 0, 0), (54, .iload 4, 0, 0, 0), (56, .ifCond .eq 30, 86, 0, 0), (59, .sipush 10000, 0, 10000, 0), (62, .aload_n 0, 0, 0, 0), (63, .getfield 9, 0, 0, 0), (66, .aload_n 1, 0, 0, 0), (67, .aload_n 0, 0, 0, 0), (68, .getfield 19, 4, 0, 0), (71, .iload_n 2, 0, 0, 0), (72, .iaload, 12, 0, 0), (73, .aload_n 0, 0, 0, 0), (74, .getfield 22, 5, 0, 0), (77, .iload_n 3, 0, 0, 0), (78, .iaload, 12, 0, 0), (79, .invokevirtual 68, 0, 0, 0), (82, .isub, 0, 0, 0), (83, .goto 4, 87, 0, 0), (86, .iconst 0, 0, 0, 0), (87, .iastore, 12, 0, 0), (88, .iinc 3 1, 0, 1, 0), (91, .goto (-74), 17, 0, 0), (94, .iinc 2 1, 0, 1, 0), (97, .goto (-90), 7, 0, 0), (100, .aload_n 0, 0, 0, 0), (101, .invokevirtual 72, 0, 0, 0), (104, .iconst 0, 0, 0, 0), (105, .istore_n 2, 0, 0, 0), (106, .iconst 0, 0, 0, 0), (107, .istore_n 3, 0, 0, 0), (108, .iload_n 3, 0, 0, 0), (109, .aload_n 0, 0, 0, 0), (110, .getfield 36, 6, 0, 0), (113, .if_icmp .ge 88, 201, 0, 0), (116, .aload_n 0, 0, 0, 0), (117, .iload_n 3, 0, 0, 0), (118, .iload_n 2, 0, 0, 0), (119, .invokevirtual 75, 0, 0, 0), (122, .istore 4, 0, 0, 0), (124, .iload 4, 0, 0, 0), (126, .ifCond .lt 69, 195, 0, 0), (129, .iload 4, 0, 0, 0), (131, .aload_n 0, 0, 0, 0), (132, .getfield 40, 7, 0, 0), (135, .if_icmp .ge 60, 195, 0, 0), (138, .iload_n 2, 0, 0, 0), (139, .iconst 1, 0, 1, 0), (140, .iload 4, 0, 0, 0), (142, .ishl, 0, 0, 0), (143, .ior, 0, 0, 0), (144, .istore_n 2, 0, 0, 0), (145, .aload_n 0, 0, 0, 0), (146, .dup, 0, 0, 0), (147, .getfield 43, 2, 0, 0), (150, .iconst 1, 0, 1, 0), (151, .iadd, 0, 0, 0), (152, .putfield 43, 2, 0, 0), (155, .aload_n 0, 0, 0, 0), (156, .dup, 0, 0, 0), (157, .getfield 46, 3, 0, 0), (160, .sipush 10000, 0, 10000, 0), (163, .aload_n 0, 0, 0, 0), (164, .getfield 27, 8, 0, 0), (167, .iload_n 3, 0, 0, 0), (168, .aaload, 12, 0, 0), (169, .iload 4, 0, 0, 0), (171, .iaload, 12, 0, 0), (172, .isub, 0, 0, 0), (173, .iadd, 0, 0, 0), (174, .putfield 46, 3, 0, 0), (177, .aload_n 0, 0, 0, 0), (178, .getfield 15, 1, 0, 0), (181, .aload_n 0, 0, 0, 0), (182, .getfield 19, 4, 0, 0), (185, .iload_n 3, 0, 0, 0), (186, .iaload, 12, 0, 0), (187, .aload_n 0, 0, 0, 0), (188, .getfield 22, 5, 0, 0), (191, .iload 4, 0, 0, 0), (193, .iaload, 12, 0, 0), (194, .iastore, 12, 0, 0), (195, .iinc 3 1, 0, 1, 0), (198, .goto (-90), 108, 0, 0), (201, .return_, 0, 0, 0)]
set_option maxRecDepth 20000 in
theorem bk_Couples_findMost : BK m_Couples_findMost cd_Couples_findMost := ⟨pl_X0, pk_X0, fun E hE => (show ∀ E ∈ cd_Couples_findMost, decode cX0_findMost E.1 = .ok (E.2.1, ilen E.2.1) ∧ exE pl_X0 E.1 E.2.1 E.2.2.1 E.2.2.2.1 E.2.2.2.2 = true by decide +kernel) E hE⟩
theorem nk_Couples_findMost : NK m_Couples_findMost 1 := ⟨tw995, tw120, ⟨by decide +kernel, by decide +kernel⟩, by decide +kernel, Nat.le_of_ble_eq_true rfl⟩
def m_Pz_most : Mth := (yX11_most, cX11_most, 3, some .int, RX11)
def cd_Pz_most : List ME := [(0, .aload_n 0, 0, 0, 0), (1, .getfield 12, 640, 0, 0), (4, .iload_n 1, 0, 0, 0), (5, .invokevirtual 127, 0, 0, 0), (8, .ifCond .eq 19, 27, 0, 0), (11, .aload_n 0, 0, 0, 0), (12, .getfield 12, 640, 0, 0), (15, .getfield 118, 194, 0, 0), (18, .iload_n 1, 0, 0, 0), (19, .iaload, 12, 0, 0), (20, .ifCond .ne 7, 27, 0, 0), (23, .iconst 1, 0, 1, 0), (24, .goto 4, 28, 0, 0), (27, .iconst 0, 0, 0, 0), (28, .istore_n 2, 0, 0, 0), (29, .iload_n 1, 0, 0, 0), (30, .bipush 20, 0, 20, 0), (32, .if_icmp .eq 15, 47, 0, 0), (35, .iload_n 1, 0, 0, 0), (36, .bipush 21, 0, 21, 0), (38, .if_icmp .eq 9, 47, 0, 0), (41, .iload_n 2, 0, 0, 0), (42, .ifCond .ne 5, 47, 0, 0), (45, .iconst (-1), 0, (-1), 0), (46, .ireturn, 0, 0, 0), (47, .aload_n 0, 0, 0, 0), (48, .getfield 82, 651, 0, 0), (51, .aload_n 0, 0, 0, 0), (52, .getfield 12, 640, 0, 0), (55, .invokevirtual 257, 0, 0, 0), (58, .iload_n 1, 0, 0, 0), (59, .bipush 20, 0, 20, 0), (61, .if_icmp .ne 11, 72, 0, 0), (64, .aload_n 0, 0, 0, 0), (65, .getfield 82, 651, 0, 0), (68, .getfield 260, 2, 0, 0), (71, .ireturn, 0, 0, 0), (72, .iload_n 1, 0, 0, 0), (73, .bipush 21, 0, 21, 0), (75, .if_icmp .ne 11, 86, 0, 0), (78, .aload_n 0, 0, 0, 0), (79, .getfield 82, 651, 0, 0), (82, .getfield 263, 3, 0, 0), (85, .ireturn, 0, 0, 0), (86, .iload_n 2, 0, 0, 0), (87, .ifCond .eq 15, 102, 0, 0), (90, .aload_n 0, 0, 0, 0), (91, .getfield 82, 651, 0, 0), (94, .getfield 266, 1, 0, 0), (97, .iload_n 1, 0, 0, 0), (98, .iaload, 12, 0, 0), (99, .goto 4, 103, 0, 0), (102, .iconst (-1), 0, (-1), 0), (103, .ireturn, 0, 0, 0)]
set_option maxRecDepth 20000 in
theorem bk_Pz_most : BK m_Pz_most cd_Pz_most := ⟨pl_X11, pk_X11, fun E hE => (show ∀ E ∈ cd_Pz_most, decode cX11_most E.1 = .ok (E.2.1, ilen E.2.1) ∧ exE pl_X11 E.1 E.2.1 E.2.2.1 E.2.2.2.1 E.2.2.2.2 = true by decide +kernel) E hE⟩
theorem nk_Pz_most : NK m_Pz_most 1 := ⟨tw991, tw111, ⟨by decide +kernel, by decide +kernel⟩, by decide +kernel, Nat.le_of_ble_eq_true rfl⟩
def m_Couples_prefers : Mth := (yX0_prefers, cX0_prefers, 4, some .boolean, RX0)
def cd_Couples_prefers : List ME := [(0, .aload_n 0, 0, 0, 0), (1, .getfield 27, 8, 0, 0), (4, .iload_n 1, 0, 0, 0), (5, .aaload, 12, 0, 0), (6, .iload_n 2, 0, 0, 0), (7, .iaload, 12, 0, 0), (8, .ifCond .eq 7, 15, 0, 0), (11, .iload_n 3, 0, 0, 0), (12, .ifCond .ge 20, 32, 0, 0), (15, .aload_n 0, 0, 0, 0), (16, .getfield 27, 8, 0, 0), (19, .iload_n 1, 0, 0, 0), (20, .aaload, 12, 0, 0), (21, .iload_n 2, 0, 0, 0), (22, .iaload, 12, 0, 0), (23, .ifCond .le 7, 30, 0, 0), (26, .iconst 1, 0, 1, 0), (27, .goto 4, 31, 0, 0), (30, .iconst 0, 0, 0, 0), (31, .ireturn, 0, 0, 0), (32, .aload_n 0, 0, 0, 0), (33, .getfield 27, 8, 0, 0), (36, .iload_n 1, 0, 0, 0), (37, .aaload, 12, 0, 0), (38, .iload_n 2, 0, 0, 0), (39, .iaload, 12, 0, 0), (40, .aload_n 0, 0, 0, 0), (41, .getfield 27, 8, 0, 0), (44, .iload_n 1, 0, 0, 0), (45, .aaload, 12, 0, 0), (46, .iload_n 3, 0, 0, 0), (47, .iaload, 12, 0, 0), (48, .if_icmp .gt 27, 75, 0, 0), (51, .aload_n 0, 0, 0, 0), (52, .getfield 27, 8, 0, 0), (55, .iload_n 1, 0, 0, 0), (56, .aaload, 12, 0, 0), (57, .iload_n 2, 0, 0, 0), (58, .iaload, 12, 0, 0), (59, .aload_n 0, 0, 0, 0), (60, .getfield 27, 8, 0, 0), (63, .iload_n 1, 0, 0, 0), (64, .aaload, 12, 0, 0), (65, .iload_n 3, 0, 0, 0), (66, .iaload, 12, 0, 0), (67, .if_icmp .ne 12, 79, 0, 0), (70, .iload_n 2, 0, 0, 0), (71, .iload_n 3, 0, 0, 0), (72, .if_icmp .ge 7, 79, 0, 0), (75, .iconst 1, 0, 1, 0), (76, .goto 4, 80, 0, 0), (79, .iconst 0, 0, 0, 0), (80, .ireturn, 0, 0, 0)]
set_option maxRecDepth 20000 in
theorem bk_Couples_prefers : BK m_Couples_prefers cd_Couples_prefers := ⟨pl_X0, pk_X0, fun E hE => (show ∀ E ∈ cd_Couples_prefers, decode cX0_prefers E.1 = .ok (E.2.1, ilen E.2.1) ∧ exE pl_X0 E.1 E.2.1 E.2.2.1 E.2.2.2.1 E.2.2.2.2 = true by decide +kernel) E hE⟩
theorem nk_Couples_prefers : NK m_Couples_prefers 3 := ⟨tw1040, tw120, ⟨by decide +kernel, by decide +kernel⟩, by decide +kernel, Nat.le_of_ble_eq_true rfl⟩
def m_Couples_askNext : Mth := (yX0_askNext, cX0_askNext, 6, some .boolean, RX0)
def cd_Couples_askNext : List ME := [(0, .iconst (-1), 0, (-1), 0), (1, .istore_n 2, 0, 0, 0), (2, .iconst 0, 0, 0, 0), (3, .istore_n 3, 0, 0, 0), (4, .iload_n 3, 0, 0, 0), (5, .aload_n 0, 0, 0, 0), (6, .getfield 40, 7, 0, 0), (9, .if_icmp .ge 82, 91, 0, 0), (12, .aload_n 0, 0, 0, 0), (13, .getfield 22, 5, 0, 0), (16, .iload_n 3, 0, 0, 0), (17, .iaload, 12, 0, 0), (18, .istore 4, 0, 0, 0), (20, .aload_n 0, 0, 0, 0), (21, .getfield 33, 10, 0, 0), (24, .iload_n 1, 0, 0, 0), (25, .iaload, 12, 0, 0), (26, .iload 4, 0, 0, 0), (28, .ishr, 0, 0, 0), (29, .iconst 1, 0, 1, 0), (30, .iand, 0, 0, 0), (31, .ifCond .ne 19, 50, 0, 0), (34, .aload_n 0, 0, 0, 0), (35, .getfield 27, 8, 0, 0), (38, .iload_n 1, 0, 0, 0), (39, .aaload, 12, 0, 0), (40, .iload 4, 0, 0, 0), (42, .iaload, 12, 0, 0), (43, .ifCond .le 7, 50, 0, 0), (46, .iconst 1, 0, 1, 0), (47, .goto 4, 51, 0, 0), (50, .iconst 0, 0, 0, 0), (51, .istore 5, 0, 0, 0), (53, .iload 5, 0, 0, 0), (55, .ifCond .eq 30, 85, 0, 0), (58, .iload_n 2, 0, 0, 0), (59, .ifCond .lt 23, 82, 0, 0), (62, .aload_n 0, 0, 0, 0), (63, .getfield 27, 8, 0, 0), (66, .iload_n 1, 0, 0, 0), (67, .aaload, 12, 0, 0), (68, .iload 4, 0, 0, 0), (70, .iaload, 12, 0, 0), (71, .aload_n 0, 0, 0, 0), (72, .getfield 27, 8, 0, 0), (75, .iload_n 1, 0, 0, 0), (76, .aaload, 12, 0, 0), (77, .iload_n 2, 0, 0, 0), (78, .iaload, 12, 0, 0), (79, .if_icmp .le 6, 85, 0, 0), (82, .iload 4, 0, 0, 0), (84, .istore_n 2, 0, 0, 0), (85, .iinc 3 1, 0, 1, 0), (88, .goto (-84), 4, 0, 0), (91, .iload_n 2, 0, 0, 0), (92, .ifCond .ge 5, 97, 0, 0), (95, .iconst 0, 0, 0, 0), (96, .ireturn, 0, 0, 0), (97, .aload_n 0, 0, 0, 0), (98, .getfield 33, 10, 0, 0), (101, .iload_n 1, 0, 0, 0), (102, .dup2, 0, 0, 0), (103, .iaload, 12, 0, 0), (104, .iconst 1, 0, 1, 0), (105, .iload_n 2, 0, 0, 0), (106, .ishl, 0, 0, 0), (107, .ior, 0, 0, 0), (108, .iastore, 12, 0, 0), (109, .aload_n 0, 0, 0, 0), (110, .getfield 15, 1, 0, 0), (113, .iload_n 2, 0, 0, 0), (114, .iaload, 12, 0, 0), (115, .istore_n 3, 0, 0, 0), (116, .aload_n 0, 0, 0, 0), (117, .iload_n 2, 0, 0, 0), (118, .iload_n 1, 0, 0, 0), (119, .iload_n 3, 0, 0, 0), (120, .invokevirtual 101, 0, 0, 0), (123, .ifCond .eq 29, 152, 0, 0), (126, .aload_n 0, 0, 0, 0), (127, .getfield 15, 1, 0, 0), (130, .iload_n 2, 0, 0, 0), (131, .iload_n 1, 0, 0, 0), (132, .iastore, 12, 0, 0), (133, .aload_n 0, 0, 0, 0), (134, .getfield 15, 1, 0, 0), (137, .iload_n 1, 0, 0, 0), (138, .iload_n 2, 0, 0, 0), (139, .iastore, 12, 0, 0), (140, .iload_n 3, 0, 0, 0), (141, .ifCond .lt 11, 152, 0, 0), (144, .aload_n 0, 0, 0, 0), (145, .getfield 15, 1, 0, 0), (148, .iload_n 3, 0, 0, 0), (149, .bipush (-2), 0, (-2), 0), (151, .iastore, 12, 0, 0), (152, .iconst 1, 0, 1, 0), (153, .ireturn, 0, 0, 0)]
set_option maxRecDepth 20000 in
theorem bk_Couples_askNext : BK m_Couples_askNext cd_Couples_askNext := ⟨pl_X0, pk_X0, fun E hE => (show ∀ E ∈ cd_Couples_askNext, decode cX0_askNext E.1 = .ok (E.2.1, ilen E.2.1) ∧ exE pl_X0 E.1 E.2.1 E.2.2.1 E.2.2.2.1 E.2.2.2.2 = true by decide +kernel) E hE⟩
theorem nk_Couples_askNext : NK m_Couples_askNext 1 := ⟨tw1036, tw120, ⟨by decide +kernel, by decide +kernel⟩, by decide +kernel, Nat.le_of_ble_eq_true rfl⟩
def m_Couples_findStable : Mth := (yX0_findStable, cX0_findStable, 7, none, RX0)
def cd_Couples_findStable : List ME := [(0, .aload_n 0, 0, 0, 0), (1, .aload_n 1, 0, 0, 0), (2, .invokevirtual 58, 0, 0, 0), (5, .iconst 0, 0, 0, 0), (6, .istore_n 2, 0, 0, 0), (7, .iload_n 2, 0, 0, 0), (8, .aload_n 0, 0, 0, 0), (9, .getfield 36, 6, 0, 0), (12, .if_icmp .ge 117, 129, 0, 0), (15, .iconst 0, 0, 0, 0), (16, .istore_n 3, 0, 0, 0), (17, .iload_n 3, 0, 0, 0), (18, .aload_n 0, 0, 0, 0), (19, .getfield 40, 7, 0, 0), (22, .if_icmp .ge 101, 123, 0, 0), (25, .aload_n 0, 0, 0, 0), (26, .getfield 19, 4, 0, 0), (29, .iload_n 2, 0, 0, 0), (30, .iaload, 12, 0, 0), (31, .istore 4, 0, 0, 0), (33, .aload_n 0, 0, 0, 0), (34, .getfield 22, 5, 0, 0), (37, .iload_n 3, 0, 0, 0), (38, .iaload, 12, 0, 0), (39, .istore 5, 0, 0, 0), (41, .aload_n 0, 0, 0, 0), (42, .getfield 9, 0, 0, 0), (45, .aload_n 1, 0, 0, 0), (46, .iload 4, 0, 0, 0), (48, .iload 5, 0, 0, 0), (50, .invokevirtual 62, 0, 0, 0), (53, .istore 6, 0, 0, 0), (55, .aload_n 0, 0, 0, 0), (56, .getfield 27, 8, 0, 0), (59, .iload 4, 0, 0, 0), (61, .aaload, 12, 0, 0), (62, .iload 5, 0, 0, 0), (64, .iload 6, 0, 0, 0), (66, .ifCond .eq 18, 84, 0, 0), (69, .aload_n 0, 0, 0, 0), (70, .getfield 9, 0, 0, 0), (73, .aload_n 1, 0, 0, 0), (74, .iload 4, 0, 0, 0), (76, .iload 5, 0, 0, 0), (78, .invokevirtual 95, 0, 0, 0), (81, .goto 4, 85, 0, 0), (84, .iconst 0, 0, 0, 0), (85, .iastore, 12, 0, 0), (86, .aload_n 0, 0, 0, 0), (87, .getfield 27, 8, 0, 0), (90, .iload 5, 0, 0, 0), (92, .aaload, 12, 0, 0), (93, .iload 4, 0, 0, 0), (95, .iload 6, 0, 0, 0), (97, .ifCond .eq 18, 115, 0, 0), (100, .aload_n 0, 0, 0, 0), (101, .getfield 9, 0, 0, 0), (104, .aload_n 1, 0, 0, 0), (105, .iload 5, 0, 0, 0), (107, .iload 4, 0, 0, 0), (109, .invokevirtual 95, 0, 0, 0), (112, .goto 4, 116, 0, 0), (115, .iconst 0, 0, 0, 0), (116, .iastore, 12, 0, 0), (117, .iinc 3 1, 0, 1, 0), (120, .goto (-103), 17, 0, 0), (123, .iinc 2 1, 0, 1, 0), (126, .goto (-119), 7, 0, 0), (129, .iconst 1, 0, 1, 0), (130, .istore_n 2, 0, 0, 0), (131, .iconst 0, 0, 0, 0), (132, .istore_n 3, 0, 0, 0), (133, .iload_n 2, 0, 0, 0), (134, .ifCond .eq 69, 203, 0, 0), (137, .iload_n 3, 0, 0, 0), (138, .sipush 144, 0, 144, 0), (141, .if_icmp .gt 62, 203, 0, 0), (144, .iconst 0, 0, 0, 0), (145, .istore_n 2, 0, 0, 0), (146, .iconst 0, 0, 0, 0), (147, .istore 4, 0, 0, 0), (149, .iload 4, 0, 0, 0), (151, .aload_n 0, 0, 0, 0), (152, .getfield 36, 6, 0, 0), (155, .if_icmp .ge 42, 197, 0, 0), (158, .aload_n 0, 0, 0, 0), (159, .getfield 15, 1, 0, 0), (162, .aload_n 0, 0, 0, 0), (163, .getfield 19, 4, 0, 0), (166, .iload 4, 0, 0, 0), (168, .iaload, 12, 0, 0), (169, .iaload, 12, 0, 0), (170, .bipush (-2), 0, (-2), 0), (172, .if_icmp .ne 19, 191, 0, 0), (175, .aload_n 0, 0, 0, 0), (176, .aload_n 0, 0, 0, 0), (177, .getfield 19, 4, 0, 0), (180, .iload 4, 0, 0, 0), (182, .iaload, 12, 0, 0), (183, .invokevirtual 98, 0, 0, 0), (186, .ifCond .eq 5, 191, 0, 0), (189, .iconst 1, 0, 1, 0), (190, .istore_n 2, 0, 0, 0), (191, .iinc 4 1, 0, 1, 0), (194, .goto (-45), 149, 0, 0), (197, .iinc 3 1, 0, 1, 0), (200, .goto (-67), 133, 0, 0), (203, .iconst 0, 0, 0, 0), (204, .istore_n 3, 0, 0, 0), (205, .iload_n 3, 0, 0, 0), (206, .aload_n 0, 0, 0, 0), (207, .getfield 36, 6, 0, 0), (210, .if_icmp .ge 39, 249, 0, 0), (213, .aload_n 0, 0, 0, 0), (214, .dup, 0, 0, 0), (215, .getfield 43, 2, 0, 0), (218, .aload_n 0, 0, 0, 0), (219, .getfield 15, 1, 0, 0), (222, .aload_n 0, 0, 0, 0), (223, .getfield 19, 4, 0, 0), (226, .iload_n 3, 0, 0, 0), (227, .iaload, 12, 0, 0), (228, .iaload, 12, 0, 0), (229, .bipush (-2), 0, (-2), 0), (231, .if_icmp .ne 7, 238, 0, 0), (234, .iconst 0, 0, 0, 0), (235, .goto 4, 239, 0, 0), (238, .iconst 1, 0, 1, 0), (239, .iadd, 0, 0, 0), (240, .putfield 43, 2, 0, 0), (243, .iinc 3 1, 0, 1, 0), (246, .goto (-41), 205, 0, 0), (249, .return_, 0, 0, 0)]
set_option maxRecDepth 20000 in
theorem bk_Couples_findStable : BK m_Couples_findStable cd_Couples_findStable := ⟨pl_X0, pk_X0, fun E hE => (show ∀ E ∈ cd_Couples_findStable, decode cX0_findStable E.1 = .ok (E.2.1, ilen E.2.1) ∧ exE pl_X0 E.1 E.2.1 E.2.2.1 E.2.2.2.1 E.2.2.2.2 = true by decide +kernel) E hE⟩
theorem nk_Couples_findStable : NK m_Couples_findStable 1 := ⟨tw1031, tw120, ⟨by decide +kernel, by decide +kernel⟩, by decide +kernel, Nat.le_of_ble_eq_true rfl⟩
def m_Pz_stable : Mth := (yX11_stable, cX11_stable, 3, some .int, RX11)
def cd_Pz_stable : List ME := [(0, .aload_n 0, 0, 0, 0), (1, .getfield 12, 640, 0, 0), (4, .iload_n 1, 0, 0, 0), (5, .invokevirtual 127, 0, 0, 0), (8, .istore_n 2, 0, 0, 0), (9, .iload_n 1, 0, 0, 0), (10, .bipush 20, 0, 20, 0), (12, .if_icmp .eq 9, 21, 0, 0), (15, .iload_n 2, 0, 0, 0), (16, .ifCond .ne 5, 21, 0, 0), (19, .iconst (-1), 0, (-1), 0), (20, .ireturn, 0, 0, 0), (21, .aload_n 0, 0, 0, 0), (22, .getfield 82, 651, 0, 0), (25, .aload_n 0, 0, 0, 0), (26, .getfield 12, 640, 0, 0), (29, .invokevirtual 269, 0, 0, 0), (32, .iload_n 2, 0, 0, 0), (33, .ifCond .eq 15, 48, 0, 0), (36, .aload_n 0, 0, 0, 0), (37, .getfield 82, 651, 0, 0), (40, .getfield 266, 1, 0, 0), (43, .iload_n 1, 0, 0, 0), (44, .iaload, 12, 0, 0), (45, .goto 10, 55, 0, 0), (48, .aload_n 0, 0, 0, 0), (49, .getfield 82, 651, 0, 0), (52, .getfield 260, 2, 0, 0), (55, .ireturn, 0, 0, 0)]
set_option maxRecDepth 20000 in
theorem bk_Pz_stable : BK m_Pz_stable cd_Pz_stable := ⟨pl_X11, pk_X11, fun E hE => (show ∀ E ∈ cd_Pz_stable, decode cX11_stable E.1 = .ok (E.2.1, ilen E.2.1) ∧ exE pl_X11 E.1 E.2.1 E.2.2.1 E.2.2.2.1 E.2.2.2.2 = true by decide +kernel) E hE⟩
theorem nk_Pz_stable : NK m_Pz_stable 1 := ⟨tw1027, tw111, ⟨by decide +kernel, by decide +kernel⟩, by decide +kernel, Nat.le_of_ble_eq_true rfl⟩
def m_Pz_likingNow : Mth := (yX11_likingNow, cX11_likingNow, 3, some .int, RX11)
def cd_Pz_likingNow : List ME := [(0, .iload_n 1, 0, 0, 0), (1, .invokestatic 104, 0, 0, 0), (4, .ifCond .eq 15, 19, 0, 0), (7, .aload_n 0, 0, 0, 0), (8, .getfield 12, 640, 0, 0), (11, .getfield 207, 196, 0, 0), (14, .iload_n 1, 0, 0, 0), (15, .iaload, 12, 0, 0), (16, .goto 5, 21, 0, 0), (19, .bipush (-2), 0, (-2), 0), (21, .istore_n 2, 0, 0, 0), (22, .aload_n 0, 0, 0, 0), (23, .getfield 12, 640, 0, 0), (26, .iload_n 2, 0, 0, 0), (27, .invokevirtual 127, 0, 0, 0), (30, .ifCond .eq 19, 49, 0, 0), (33, .aload_n 0, 0, 0, 0), (34, .getfield 66, 649, 0, 0), (37, .aload_n 0, 0, 0, 0), (38, .getfield 12, 640, 0, 0), (41, .iload_n 1, 0, 0, 0), (42, .iload_n 2, 0, 0, 0), (43, .invokevirtual 243, 0, 0, 0), (46, .goto 4, 50, 0, 0), (49, .iconst 0, 0, 0, 0), (50, .ireturn, 0, 0, 0)]
set_option maxRecDepth 20000 in
theorem bk_Pz_likingNow : BK m_Pz_likingNow cd_Pz_likingNow := ⟨pl_X11, pk_X11, fun E hE => (show ∀ E ∈ cd_Pz_likingNow, decode cX11_likingNow E.1 = .ok (E.2.1, ilen E.2.1) ∧ exE pl_X11 E.1 E.2.1 E.2.2.1 E.2.2.2.1 E.2.2.2.2 = true by decide +kernel) E hE⟩
theorem nk_Pz_likingNow : NK m_Pz_likingNow 1 := ⟨tw1052, tw111, ⟨by decide +kernel, by decide +kernel⟩, by decide +kernel, Nat.le_of_ble_eq_true rfl⟩
def m_Pz_wouldLeave : Mth := (yX11_wouldLeave, cX11_wouldLeave, 3, some .boolean, RX11)
def cd_Pz_wouldLeave : List ME := [(0, .aload_n 0, 0, 0, 0), (1, .getfield 12, 640, 0, 0), (4, .iload_n 1, 0, 0, 0), (5, .invokevirtual 127, 0, 0, 0), (8, .ifCond .eq 39, 47, 0, 0), (11, .aload_n 0, 0, 0, 0), (12, .getfield 12, 640, 0, 0), (15, .iload_n 2, 0, 0, 0), (16, .invokevirtual 127, 0, 0, 0), (19, .ifCond .eq 28, 47, 0, 0), (22, .aload_n 0, 0, 0, 0), (23, .getfield 12, 640, 0, 0), (26, .getfield 118, 194, 0, 0), (29, .iload_n 1, 0, 0, 0), (30, .iaload, 12, 0, 0), (31, .ifCond .ne 16, 47, 0, 0), (34, .aload_n 0, 0, 0, 0), (35, .getfield 12, 640, 0, 0), (38, .getfield 118, 194, 0, 0), (41, .iload_n 2, 0, 0, 0), (42, .iaload, 12, 0, 0), (43, .iconst 1, 0, 1, 0), (44, .if_icmp .eq 5, 49, 0, 0), (47, .iconst 0, 0, 0, 0), (48, .ireturn, 0, 0, 0), (49, .aload_n 0, 0, 0, 0), (50, .getfield 12, 640, 0, 0), (53, .getfield 207, 196, 0, 0), (56, .iload_n 1, 0, 0, 0), (57, .iaload, 12, 0, 0), (58, .iload_n 2, 0, 0, 0), (59, .if_icmp .eq 65, 124, 0, 0), (62, .aload_n 0, 0, 0, 0), (63, .getfield 66, 649, 0, 0), (66, .aload_n 0, 0, 0, 0), (67, .getfield 12, 640, 0, 0), (70, .iload_n 1, 0, 0, 0), (71, .iload_n 2, 0, 0, 0), (72, .invokevirtual 232, 0, 0, 0), (75, .ifCond .eq 49, 124, 0, 0), (78, .aload_n 0, 0, 0, 0), (79, .getfield 66, 649, 0, 0), (82, .aload_n 0, 0, 0, 0), (83, .getfield 12, 640, 0, 0), (86, .iload_n 1, 0, 0, 0), (87, .iload_n 2, 0, 0, 0), (88, .invokevirtual 243, 0, 0, 0), (91, .aload_n 0, 0, 0, 0), (92, .iload_n 1, 0, 0, 0), (93, .invokevirtual 276, 0, 0, 0), (96, .if_icmp .le 28, 124, 0, 0), (99, .aload_n 0, 0, 0, 0), (100, .getfield 66, 649, 0, 0), (103, .aload_n 0, 0, 0, 0), (104, .getfield 12, 640, 0, 0), (107, .iload_n 2, 0, 0, 0), (108, .iload_n 1, 0, 0, 0), (109, .invokevirtual 243, 0, 0, 0), (112, .aload_n 0, 0, 0, 0), (113, .iload_n 2, 0, 0, 0), (114, .invokevirtual 276, 0, 0, 0), (117, .if_icmp .le 7, 124, 0, 0), (120, .iconst 1, 0, 1, 0), (121, .goto 4, 125, 0, 0), (124, .iconst 0, 0, 0, 0), (125, .ireturn, 0, 0, 0)]
set_option maxRecDepth 20000 in
theorem bk_Pz_wouldLeave : BK m_Pz_wouldLeave cd_Pz_wouldLeave := ⟨pl_X11, pk_X11, fun E hE => (show ∀ E ∈ cd_Pz_wouldLeave, decode cX11_wouldLeave E.1 = .ok (E.2.1, ilen E.2.1) ∧ exE pl_X11 E.1 E.2.1 E.2.2.1 E.2.2.2.1 E.2.2.2.2 = true by decide +kernel) E hE⟩
theorem nk_Pz_wouldLeave : NK m_Pz_wouldLeave 2 := ⟨tw1048, tw111, ⟨by decide +kernel, by decide +kernel⟩, by decide +kernel, Nat.le_of_ble_eq_true rfl⟩
def m_Pz_unrest : Mth := (yX11_unrest, cX11_unrest, 6, some .int, RX11)
def cd_Pz_unrest : List ME := [(0, .iload_n 1, 0, 0, 0), (1, .ifCond .lt 8, 9, 0, 0), (4, .iload_n 1, 0, 0, 0), (5, .iconst 2, 0, 2, 0), (6, .if_icmp .le 5, 11, 0, 0), (9, .iconst (-1), 0, (-1), 0), (10, .ireturn, 0, 0, 0), (11, .iconst 0, 0, 0, 0), (12, .istore_n 2, 0, 0, 0), (13, .bipush (-2), 0, (-2), 0), (15, .istore_n 3, 0, 0, 0), (16, .iconst 0, 0, 0, 0), (17, .istore 4, 0, 0, 0), (19, .iload 4, 0, 0, 0), (21, .bipush 12, 0, 12, 0), (23, .if_icmp .ge 56, 79, 0, 0), (26, .iconst 0, 0, 0, 0), (27, .istore 5, 0, 0, 0), (29, .iload 5, 0, 0, 0), (31, .bipush 12, 0, 12, 0), (33, .if_icmp .ge 40, 73, 0, 0), (36, .aload_n 0, 0, 0, 0), (37, .iload 4, 0, 0, 0), (39, .iload 5, 0, 0, 0), (41, .invokevirtual 272, 0, 0, 0), (44, .ifCond .eq 23, 67, 0, 0), (47, .iload_n 2, 0, 0, 0), (48, .ifCond .ne 16, 64, 0, 0), (51, .iload_n 1, 0, 0, 0), (52, .iconst 1, 0, 1, 0), (53, .if_icmp .ne 8, 61, 0, 0), (56, .iload 4, 0, 0, 0), (58, .goto 5, 63, 0, 0), (61, .iload 5, 0, 0, 0), (63, .istore_n 3, 0, 0, 0), (64, .iinc 2 1, 0, 1, 0), (67, .iinc 5 1, 0, 1, 0), (70, .goto (-41), 29, 0, 0), (73, .iinc 4 1, 0, 1, 0), (76, .goto (-57), 19, 0, 0), (79, .iload_n 1, 0, 0, 0), (80, .ifCond .ne 7, 87, 0, 0), (83, .iload_n 2, 0, 0, 0), (84, .goto 4, 88, 0, 0), (87, .iload_n 3, 0, 0, 0), (88, .ireturn, 0, 0, 0)]
set_option maxRecDepth 20000 in
theorem bk_Pz_unrest : BK m_Pz_unrest cd_Pz_unrest := ⟨pl_X11, pk_X11, fun E hE => (show ∀ E ∈ cd_Pz_unrest, decode cX11_unrest E.1 = .ok (E.2.1, ilen E.2.1) ∧ exE pl_X11 E.1 E.2.1 E.2.2.1 E.2.2.2.1 E.2.2.2.2 = true by decide +kernel) E hE⟩
theorem nk_Pz_unrest : NK m_Pz_unrest 1 := ⟨tw1044, tw111, ⟨by decide +kernel, by decide +kernel⟩, by decide +kernel, Nat.le_of_ble_eq_true rfl⟩
def m_Search_accept : Mth := (yX9_accept, cX9_accept, 5, some .boolean, RX9)
def cd_Search_accept : List ME := [(0, .aload_n 0, 0, 0, 0), (1, .iconst 0, 0, 0, 0), (2, .bipush 6, 0, 6, 0), (4, .iload_n 1, 0, 0, 0), (5, .invokestatic 30, 0, 0, 0), (8, .invokestatic 36, 0, 0, 0), (11, .putfield 39, 513, 0, 0), (14, .aload_n 0, 0, 0, 0), (15, .iconst 0, 0, 0, 0), (16, .putfield 43, 519, 0, 0), (19, .iconst 1, 0, 1, 0), (20, .istore_n 2, 0, 0, 0), (21, .iconst 0, 0, 0, 0), (22, .istore_n 3, 0, 0, 0), (23, .iload_n 3, 0, 0, 0), (24, .aload_n 0, 0, 0, 0), (25, .getfield 39, 513, 0, 0), (28, .if_icmp .ge 152, 180, 0, 0), (31, .aload_n 0, 0, 0, 0), (32, .getfield 15, 514, 0, 0), (35, .iload_n 3, 0, 0, 0), (36, .aload_n 0, 0, 0, 0), (37, .getfield 9, 512, 0, 0), (40, .getfield 46, 576, 0, 0), (43, .iload_n 3, 0, 0, 0), (44, .iaload, 260, 0, 0), (45, .iastore, 6, 0, 0), (46, .aload_n 0, 0, 0, 0), (47, .dup, 0, 0, 0), (48, .getfield 43, 519, 0, 0), (51, .aload_n 0, 0, 0, 0), (52, .getfield 15, 514, 0, 0), (55, .iload_n 3, 0, 0, 0), (56, .iaload, 6, 0, 0), (57, .iadd, 0, 0, 0), (58, .putfield 43, 519, 0, 0), (61, .iload_n 2, 0, 0, 0), (62, .ifCond .eq 18, 80, 0, 0), (65, .aload_n 0, 0, 0, 0), (66, .getfield 15, 514, 0, 0), (69, .iload_n 3, 0, 0, 0), (70, .iaload, 6, 0, 0), (71, .bipush 99, 0, 99, 0), (73, .if_icmp .gt 7, 80, 0, 0), (76, .iconst 1, 0, 1, 0), (77, .goto 4, 81, 0, 0), (80, .iconst 0, 0, 0, 0), (81, .istore_n 2, 0, 0, 0), (82, .iconst 0, 0, 0, 0), (83, .istore 4, 0, 0, 0), (85, .iload 4, 0, 0, 0), (87, .aload_n 0, 0, 0, 0), (88, .getfield 39, 513, 0, 0), (91, .if_icmp .ge 83, 174, 0, 0), (94, .aload_n 0, 0, 0, 0), (95, .getfield 21, 515, 0, 0), (98, .iload_n 3, 0, 0, 0), (99, .aaload, 6, 0, 0), (100, .iload 4, 0, 0, 0), (102, .aload_n 0, 0, 0, 0), (103, .getfield 9, 512, 0, 0), (106, .getfield 46, 576, 0, 0), (109, .aload_n 0, 0, 0, 0), (110, .getfield 39, 513, 0, 0), (113, .iload_n 3, 0, 0, 0), (114, .aload_n 0, 0, 0, 0), (115, .getfield 39, 513, 0, 0), (118, .imul, 0, 0, 0), (119, .iadd, 0, 0, 0), (120, .iload 4, 0, 0, 0), (122, .iadd, 0, 0, 0), (123, .iaload, 260, 0, 0), (124, .iastore, 6, 0, 0), (125, .iload_n 2, 0, 0, 0), (126, .ifCond .eq 40, 166, 0, 0), (129, .iload_n 3, 0, 0, 0), (130, .iload 4, 0, 0, 0), (132, .if_icmp .eq 30, 162, 0, 0), (135, .aload_n 0, 0, 0, 0), (136, .getfield 21, 515, 0, 0), (139, .iload_n 3, 0, 0, 0), (140, .aaload, 6, 0, 0), (141, .iload 4, 0, 0, 0), (143, .iaload, 6, 0, 0), (144, .iconst 1, 0, 1, 0), (145, .if_icmp .lt 21, 166, 0, 0), (148, .aload_n 0, 0, 0, 0), (149, .getfield 21, 515, 0, 0), (152, .iload_n 3, 0, 0, 0), (153, .aaload, 6, 0, 0), (154, .iload 4, 0, 0, 0), (156, .iaload, 6, 0, 0), (157, .bipush 20, 0, 20, 0), (159, .if_icmp .gt 7, 166, 0, 0), (162, .iconst 1, 0, 1, 0), (163, .goto 4, 167, 0, 0), (166, .iconst 0, 0, 0, 0), (167, .istore_n 2, 0, 0, 0), (168, .iinc 4 1, 0, 1, 0), (171, .goto (-86), 85, 0, 0), (174, .iinc 3 1, 0, 1, 0), (177, .goto (-154), 23, 0, 0), (180, .iload_n 2, 0, 0, 0), (181, .ifCond .eq 14, 195, 0, 0), (184, .aload_n 0, 0, 0, 0), (185, .getfield 43, 519, 0, 0), (188, .ifCond .le 7, 195, 0, 0), (191, .iconst 1, 0, 1, 0), (192, .goto 4, 196, 0, 0), (195, .iconst 0, 0, 0, 0), (196, .ireturn, 0, 0, 0)]
set_option maxRecDepth 20000 in
theorem bk_Search_accept : BK m_Search_accept cd_Search_accept := ⟨pl_X9, pk_X9, fun E hE => (show ∀ E ∈ cd_Search_accept, decode cX9_accept E.1 = .ok (E.2.1, ilen E.2.1) ∧ exE pl_X9 E.1 E.2.1 E.2.2.1 E.2.2.2.1 E.2.2.2.2 = true by decide +kernel) E hE⟩
theorem nk_Search_accept : NK m_Search_accept 1 := ⟨tw1060, tw121, ⟨by decide +kernel, by decide +kernel⟩, by decide +kernel, Nat.le_of_ble_eq_true rfl⟩
def m_Search_weigh : Mth := (yX9_weigh, cX9_weigh, 4, none, RX9)
def cd_Search_weigh : List ME := [(0, .iconst 0, 0, 0, 0), (1, .istore_n 1, 0, 0, 0), (2, .iconst 0, 0, 0, 0), (3, .istore_n 2, 0, 0, 0), (4, .iconst 1, 0, 1, 0), (5, .istore_n 3, 0, 0, 0), (6, .iload_n 3, 0, 0, 0), (7, .aload_n 0, 0, 0, 0), (8, .getfield 39, 513, 0, 0), (11, .if_icmp .ge 48, 59, 0, 0), (14, .iload_n 1, 0, 0, 0), (15, .aload_n 0, 0, 0, 0), (16, .getfield 21, 515, 0, 0), (19, .aload_n 0, 0, 0, 0), (20, .getfield 24, 516, 0, 0), (23, .iload_n 3, 0, 0, 0), (24, .iconst 1, 0, 1, 0), (25, .isub, 0, 0, 0), (26, .iaload, 6, 0, 0), (27, .aaload, 6, 0, 0), (28, .aload_n 0, 0, 0, 0), (29, .getfield 24, 516, 0, 0), (32, .iload_n 3, 0, 0, 0), (33, .iaload, 6, 0, 0), (34, .iaload, 6, 0, 0), (35, .iadd, 0, 0, 0), (36, .istore_n 1, 0, 0, 0), (37, .iload_n 2, 0, 0, 0), (38, .aload_n 0, 0, 0, 0), (39, .getfield 15, 514, 0, 0), (42, .aload_n 0, 0, 0, 0), (43, .getfield 24, 516, 0, 0), (46, .iload_n 3, 0, 0, 0), (47, .iaload, 6, 0, 0), (48, .iaload, 6, 0, 0), (49, .iload_n 1, 0, 0, 0), (50, .imul, 0, 0, 0), (51, .iadd, 0, 0, 0), (52, .istore_n 2, 0, 0, 0), (53, .iinc 3 1, 0, 1, 0), (56, .goto (-50), 6, 0, 0), (59, .aload_n 0, 0, 0, 0), (60, .getfield 51, 518, 0, 0), (63, .ifCond .lt 11, 74, 0, 0), (66, .iload_n 2, 0, 0, 0), (67, .aload_n 0, 0, 0, 0), (68, .getfield 51, 518, 0, 0), (71, .if_icmp .ge 23, 94, 0, 0), (74, .aload_n 0, 0, 0, 0), (75, .iload_n 2, 0, 0, 0), (76, .putfield 51, 518, 0, 0), (79, .aload_n 0, 0, 0, 0), (80, .getfield 24, 516, 0, 0), (83, .iconst 0, 0, 0, 0), (84, .aload_n 0, 0, 0, 0), (85, .getfield 27, 517, 0, 0), (88, .iconst 0, 0, 0, 0), (89, .bipush 6, 0, 6, 0), (91, .invokestatic 61, 0, 0, 0), (94, .return_, 0, 0, 0)]
set_option maxRecDepth 20000 in
theorem bk_Search_weigh : BK m_Search_weigh cd_Search_weigh := ⟨pl_X9, pk_X9, fun E hE => (show ∀ E ∈ cd_Search_weigh, decode cX9_weigh E.1 = .ok (E.2.1, ilen E.2.1) ∧ exE pl_X9 E.1 E.2.1 E.2.2.1 E.2.2.2.1 E.2.2.2.2 = true by decide +kernel) E hE⟩
theorem nk_Search_weigh : NK m_Search_weigh 0 := ⟨tw1070, tw121, ⟨by decide +kernel, by decide +kernel⟩, by decide +kernel, Nat.le_of_ble_eq_true rfl⟩
def m_Search_swap : Mth := (yX9_swap, cX9_swap, 4, none, RX9)
def cd_Search_swap : List ME := [(0, .iload_n 1, 0, 0, 0), (1, .ifCond .lt 45, 46, 0, 0), (4, .iload_n 1, 0, 0, 0), (5, .bipush 6, 0, 6, 0), (7, .if_icmp .ge 39, 46, 0, 0), (10, .iload_n 2, 0, 0, 0), (11, .ifCond .lt 35, 46, 0, 0), (14, .iload_n 2, 0, 0, 0), (15, .bipush 6, 0, 6, 0), (17, .if_icmp .ge 29, 46, 0, 0), (20, .aload_n 0, 0, 0, 0), (21, .getfield 24, 516, 0, 0), (24, .iload_n 1, 0, 0, 0), (25, .iaload, 6, 0, 0), (26, .istore_n 3, 0, 0, 0), (27, .aload_n 0, 0, 0, 0), (28, .getfield 24, 516, 0, 0), (31, .iload_n 1, 0, 0, 0), (32, .aload_n 0, 0, 0, 0), (33, .getfield 24, 516, 0, 0), (36, .iload_n 2, 0, 0, 0), (37, .iaload, 6, 0, 0), (38, .iastore, 6, 0, 0), (39, .aload_n 0, 0, 0, 0), (40, .getfield 24, 516, 0, 0), (43, .iload_n 2, 0, 0, 0), (44, .iload_n 3, 0, 0, 0), (45, .iastore, 6, 0, 0), (46, .return_, 0, 0, 0)]
set_option maxRecDepth 20000 in
theorem bk_Search_swap : BK m_Search_swap cd_Search_swap := ⟨pl_X9, pk_X9, fun E hE => (show ∀ E ∈ cd_Search_swap, decode cX9_swap E.1 = .ok (E.2.1, ilen E.2.1) ∧ exE pl_X9 E.1 E.2.1 E.2.2.1 E.2.2.2.1 E.2.2.2.2 = true by decide +kernel) E hE⟩
theorem nk_Search_swap : NK m_Search_swap 2 := ⟨tw1079, tw121, ⟨by decide +kernel, by decide +kernel⟩, by decide +kernel, Nat.le_of_ble_eq_true rfl⟩
def m_Search_nextOrder : Mth := (yX9_nextOrder, cX9_nextOrder, 5, some .boolean, RX9)
def cd_Search_nextOrder : List ME := [(0, .iconst 0, 0, 0, 0), (1, .istore_n 1, 0, 0, 0), (2, .iconst 1, 0, 1, 0), (3, .istore_n 2, 0, 0, 0), (4, .iload_n 2, 0, 0, 0), (5, .iconst 1, 0, 1, 0), (6, .iadd, 0, 0, 0), (7, .aload_n 0, 0, 0, 0), (8, .getfield 39, 513, 0, 0), (11, .if_icmp .ge 32, 43, 0, 0), (14, .aload_n 0, 0, 0, 0), (15, .getfield 24, 516, 0, 0), (18, .iload_n 2, 0, 0, 0), (19, .iaload, 6, 0, 0), (20, .aload_n 0, 0, 0, 0), (21, .getfield 24, 516, 0, 0), (24, .iload_n 2, 0, 0, 0), (25, .iconst 1, 0, 1, 0), (26, .iadd, 0, 0, 0), (27, .iaload, 6, 0, 0), (28, .if_icmp .ge 7, 35, 0, 0), (31, .iload_n 2, 0, 0, 0), (32, .goto 4, 36, 0, 0), (35, .iload_n 1, 0, 0, 0), (36, .istore_n 1, 0, 0, 0), (37, .iinc 2 1, 0, 1, 0), (40, .goto (-36), 4, 0, 0), (43, .iload_n 1, 0, 0, 0), (44, .ifCond .ne 5, 49, 0, 0), (47, .iconst 0, 0, 0, 0), (48, .ireturn, 0, 0, 0), (49, .iload_n 1, 0, 0, 0), (50, .istore_n 2, 0, 0, 0), (51, .iload_n 1, 0, 0, 0), (52, .iconst 1, 0, 1, 0), (53, .iadd, 0, 0, 0), (54, .istore_n 3, 0, 0, 0), (55, .iload_n 3, 0, 0, 0), (56, .aload_n 0, 0, 0, 0), (57, .getfield 39, 513, 0, 0), (60, .if_icmp .ge 30, 90, 0, 0), (63, .aload_n 0, 0, 0, 0), (64, .getfield 24, 516, 0, 0), (67, .iload_n 3, 0, 0, 0), (68, .iaload, 6, 0, 0), (69, .aload_n 0, 0, 0, 0), (70, .getfield 24, 516, 0, 0), (73, .iload_n 1, 0, 0, 0), (74, .iaload, 6, 0, 0), (75, .if_icmp .le 7, 82, 0, 0), (78, .iload_n 3, 0, 0, 0), (79, .goto 4, 83, 0, 0), (82, .iload_n 2, 0, 0, 0), (83, .istore_n 2, 0, 0, 0), (84, .iinc 3 1, 0, 1, 0), (87, .goto (-32), 55, 0, 0), (90, .aload_n 0, 0, 0, 0), (91, .iload_n 1, 0, 0, 0), (92, .iload_n 2, 0, 0, 0), (93, .invokevirtual 67, 0, 0, 0), (96, .aload_n 0, 0, 0, 0), (97, .getfield 39, 513, 0, 0), (100, .iconst 1, 0, 1, 0), (101, .isub, 0, 0, 0), (102, .istore_n 3, 0, 0, 0), (103, .iload_n 1, 0, 0, 0), (104, .iconst 1, 0, 1, 0), (105, .iadd, 0, 0, 0), (106, .istore 4, 0, 0, 0), (108, .iload 4, 0, 0, 0), (110, .iload_n 3, 0, 0, 0), (111, .if_icmp .ge 19, 130, 0, 0), (114, .aload_n 0, 0, 0, 0), (115, .iload 4, 0, 0, 0), (117, .iload_n 3, 0, 0, 0), (118, .invokevirtual 67, 0, 0, 0), (121, .iinc 3 (-1), 0, (-1), 0), (124, .iinc 4 1, 0, 1, 0), (127, .goto (-19), 108, 0, 0), (130, .iconst 1, 0, 1, 0), (131, .ireturn, 0, 0, 0)]
set_option maxRecDepth 20000 in
theorem bk_Search_nextOrder : BK m_Search_nextOrder cd_Search_nextOrder := ⟨pl_X9, pk_X9, fun E hE => (show ∀ E ∈ cd_Search_nextOrder, decode cX9_nextOrder E.1 = .ok (E.2.1, ilen E.2.1) ∧ exE pl_X9 E.1 E.2.1 E.2.2.1 E.2.2.2.1 E.2.2.2.2 = true by decide +kernel) E hE⟩
theorem nk_Search_nextOrder : NK m_Search_nextOrder 0 := ⟨tw1075, tw121, ⟨by decide +kernel, by decide +kernel⟩, by decide +kernel, Nat.le_of_ble_eq_true rfl⟩
def m_Search_find : Mth := (yX9_find, cX9_find, 3, none, RX9)
def cd_Search_find : List ME := [(0, .iconst 0, 0, 0, 0), (1, .istore_n 1, 0, 0, 0), (2, .iload_n 1, 0, 0, 0), (3, .bipush 6, 0, 6, 0), (5, .if_icmp .ge 16, 21, 0, 0), (8, .aload_n 0, 0, 0, 0), (9, .getfield 24, 516, 0, 0), (12, .iload_n 1, 0, 0, 0), (13, .iload_n 1, 0, 0, 0), (14, .iastore, 6, 0, 0), (15, .iinc 1 1, 0, 1, 0), (18, .goto (-16), 2, 0, 0), (21, .aload_n 0, 0, 0, 0), (22, .iconst (-1), 0, (-1), 0), (23, .putfield 51, 518, 0, 0), (26, .iconst 1, 0, 1, 0), (27, .istore_n 1, 0, 0, 0), (28, .iconst 0, 0, 0, 0), (29, .istore_n 2, 0, 0, 0), (30, .iload_n 1, 0, 0, 0), (31, .ifCond .eq 24, 55, 0, 0), (34, .iload_n 2, 0, 0, 0), (35, .bipush 120, 0, 120, 0), (37, .if_icmp .ge 18, 55, 0, 0), (40, .aload_n 0, 0, 0, 0), (41, .invokevirtual 54, 0, 0, 0), (44, .aload_n 0, 0, 0, 0), (45, .invokevirtual 57, 0, 0, 0), (48, .istore_n 1, 0, 0, 0), (49, .iinc 2 1, 0, 1, 0), (52, .goto (-22), 30, 0, 0), (55, .return_, 0, 0, 0)]
set_option maxRecDepth 20000 in
theorem bk_Search_find : BK m_Search_find cd_Search_find := ⟨pl_X9, pk_X9, fun E hE => (show ∀ E ∈ cd_Search_find, decode cX9_find E.1 = .ok (E.2.1, ilen E.2.1) ∧ exE pl_X9 E.1 E.2.1 E.2.2.1 E.2.2.2.1 E.2.2.2.2 = true by decide +kernel) E hE⟩
theorem nk_Search_find : NK m_Search_find 0 := ⟨tw1066, tw121, ⟨by decide +kernel, by decide +kernel⟩, by decide +kernel, Nat.le_of_ble_eq_true rfl⟩
def m_Search_commonDivisor : Mth := (yX9_commonDivisor, cX9_commonDivisor, 5, some .int, RX9)
def cd_Search_commonDivisor : List ME := [(0, .aload_n 0, 0, 0, 0), (1, .getfield 51, 518, 0, 0), (4, .istore_n 1, 0, 0, 0), (5, .aload_n 0, 0, 0, 0), (6, .getfield 43, 519, 0, 0), (9, .istore_n 2, 0, 0, 0), (10, .iconst 0, 0, 0, 0), (11, .istore_n 3, 0, 0, 0), (12, .iload_n 3, 0, 0, 0), (13, .bipush 64, 0, 64, 0), (15, .if_icmp .ge 23, 38, 0, 0), (18, .iload_n 2, 0, 0, 0), (19, .ifCond .le 19, 38, 0, 0), (22, .iload_n 1, 0, 0, 0), (23, .iload_n 2, 0, 0, 0), (24, .irem, 0, 0, 0), (25, .istore 4, 0, 0, 0), (27, .iload_n 2, 0, 0, 0), (28, .istore_n 1, 0, 0, 0), (29, .iload 4, 0, 0, 0), (31, .istore_n 2, 0, 0, 0), (32, .iinc 3 1, 0, 1, 0), (35, .goto (-23), 12, 0, 0), (38, .iload_n 1, 0, 0, 0), (39, .ireturn, 0, 0, 0)]
set_option maxRecDepth 20000 in
theorem bk_Search_commonDivisor : BK m_Search_commonDivisor cd_Search_commonDivisor := ⟨pl_X9, pk_X9, fun E hE => (show ∀ E ∈ cd_Search_commonDivisor, decode cX9_commonDivisor E.1 = .ok (E.2.1, ilen E.2.1) ∧ exE pl_X9 E.1 E.2.1 E.2.2.1 E.2.2.2.1 E.2.2.2.2 = true by decide +kernel) E hE⟩
theorem nk_Search_commonDivisor : NK m_Search_commonDivisor 0 := ⟨tw1087, tw121, ⟨by decide +kernel, by decide +kernel⟩, by decide +kernel, Nat.le_of_ble_eq_true rfl⟩
def m_Search_above : Mth := (yX9_above, cX9_above, 2, some .int, RX9)
def cd_Search_above : List ME := [(0, .aload_n 0, 0, 0, 0), (1, .invokevirtual 71, 0, 0, 0), (4, .istore_n 1, 0, 0, 0), (5, .iload_n 1, 0, 0, 0), (6, .ifCond .le 12, 18, 0, 0), (9, .aload_n 0, 0, 0, 0), (10, .getfield 51, 518, 0, 0), (13, .iload_n 1, 0, 0, 0), (14, .idiv, 0, 0, 0), (15, .goto 7, 22, 0, 0), (18, .aload_n 0, 0, 0, 0), (19, .getfield 51, 518, 0, 0), (22, .ireturn, 0, 0, 0)]
set_option maxRecDepth 20000 in
theorem bk_Search_above : BK m_Search_above cd_Search_above := ⟨pl_X9, pk_X9, fun E hE => (show ∀ E ∈ cd_Search_above, decode cX9_above E.1 = .ok (E.2.1, ilen E.2.1) ∧ exE pl_X9 E.1 E.2.1 E.2.2.1 E.2.2.2.1 E.2.2.2.2 = true by decide +kernel) E hE⟩
theorem nk_Search_above : NK m_Search_above 0 := ⟨tw1083, tw121, ⟨by decide +kernel, by decide +kernel⟩, by decide +kernel, Nat.le_of_ble_eq_true rfl⟩
def m_Search_below : Mth := (yX9_below, cX9_below, 2, some .int, RX9)
def cd_Search_below : List ME := [(0, .aload_n 0, 0, 0, 0), (1, .invokevirtual 71, 0, 0, 0), (4, .istore_n 1, 0, 0, 0), (5, .iload_n 1, 0, 0, 0), (6, .ifCond .le 12, 18, 0, 0), (9, .aload_n 0, 0, 0, 0), (10, .getfield 43, 519, 0, 0), (13, .iload_n 1, 0, 0, 0), (14, .idiv, 0, 0, 0), (15, .goto 7, 22, 0, 0), (18, .aload_n 0, 0, 0, 0), (19, .getfield 43, 519, 0, 0), (22, .ireturn, 0, 0, 0)]
set_option maxRecDepth 20000 in
theorem bk_Search_below : BK m_Search_below cd_Search_below := ⟨pl_X9, pk_X9, fun E hE => (show ∀ E ∈ cd_Search_below, decode cX9_below E.1 = .ok (E.2.1, ilen E.2.1) ∧ exE pl_X9 E.1 E.2.1 E.2.2.1 E.2.2.2.1 E.2.2.2.2 = true by decide +kernel) E hE⟩
theorem nk_Search_below : NK m_Search_below 0 := ⟨tw1091, tw121, ⟨by decide +kernel, by decide +kernel⟩, by decide +kernel, Nat.le_of_ble_eq_true rfl⟩
def m_Pz_search : Mth := (yX11_search, cX11_search, 5, some .int, RX11)
def cd_Pz_search : List ME := [(0, .iload_n 1, 0, 0, 0), (1, .iconst 2, 0, 2, 0), (2, .if_icmp .lt 24, 26, 0, 0), (5, .iload_n 1, 0, 0, 0), (6, .bipush 6, 0, 6, 0), (8, .if_icmp .gt 18, 26, 0, 0), (11, .iload_n 1, 0, 0, 0), (12, .iload_n 1, 0, 0, 0), (13, .iload_n 1, 0, 0, 0), (14, .imul, 0, 0, 0), (15, .iadd, 0, 0, 0), (16, .aload_n 0, 0, 0, 0), (17, .getfield 29, 644, 0, 0), (20, .getfield 141, 577, 0, 0), (23, .if_icmp .le 5, 28, 0, 0), (26, .iconst (-1), 0, (-1), 0), (27, .ireturn, 0, 0, 0), (28, .aload_n 0, 0, 0, 0), (29, .getfield 89, 652, 0, 0), (32, .iload_n 1, 0, 0, 0), (33, .invokevirtual 279, 0, 0, 0), (36, .istore_n 3, 0, 0, 0), (37, .aload_n 0, 0, 0, 0), (38, .getfield 29, 644, 0, 0), (41, .iconst 0, 0, 0, 0), (42, .putfield 141, 577, 0, 0), (45, .iload_n 3, 0, 0, 0), (46, .ifCond .ne 6, 52, 0, 0), (49, .bipush (-2), 0, (-2), 0), (51, .ireturn, 0, 0, 0), (52, .iload_n 2, 0, 0, 0), (53, .ifCond .lt 12, 65, 0, 0), (56, .iload_n 2, 0, 0, 0), (57, .iload_n 1, 0, 0, 0), (58, .if_icmp .ge 7, 65, 0, 0), (61, .iconst 1, 0, 1, 0), (62, .goto 4, 66, 0, 0), (65, .iconst 0, 0, 0, 0), (66, .istore 4, 0, 0, 0), (68, .iload_n 2, 0, 0, 0), (69, .bipush 20, 0, 20, 0), (71, .if_icmp .eq 17, 88, 0, 0), (74, .iload_n 2, 0, 0, 0), (75, .bipush 21, 0, 21, 0), (77, .if_icmp .eq 11, 88, 0, 0), (80, .iload 4, 0, 0, 0), (82, .ifCond .ne 6, 88, 0, 0), (85, .bipush (-3), 0, (-3), 0), (87, .ireturn, 0, 0, 0), (88, .aload_n 0, 0, 0, 0), (89, .getfield 89, 652, 0, 0), (92, .invokevirtual 282, 0, 0, 0), (95, .iload 4, 0, 0, 0), (97, .ifCond .eq 13, 110, 0, 0), (100, .aload_n 0, 0, 0, 0), (101, .getfield 89, 652, 0, 0), (104, .getfield 285, 517, 0, 0), (107, .iload_n 2, 0, 0, 0), (108, .iaload, 6, 0, 0), (109, .ireturn, 0, 0, 0), (110, .iload_n 2, 0, 0, 0), (111, .bipush 20, 0, 20, 0), (113, .if_icmp .ne 13, 126, 0, 0), (116, .aload_n 0, 0, 0, 0), (117, .getfield 89, 652, 0, 0), (120, .invokevirtual 288, 0, 0, 0), (123, .goto 10, 133, 0, 0), (126, .aload_n 0, 0, 0, 0), (127, .getfield 89, 652, 0, 0), (130, .invokevirtual 291, 0, 0, 0), (133, .ireturn, 0, 0, 0)]
set_option maxRecDepth 20000 in
theorem bk_Pz_search : BK m_Pz_search cd_Pz_search := ⟨pl_X11, pk_X11, fun E hE => (show ∀ E ∈ cd_Pz_search, decode cX11_search E.1 = .ok (E.2.1, ilen E.2.1) ∧ exE pl_X11 E.1 E.2.1 E.2.2.1 E.2.2.2.1 E.2.2.2.2 = true by decide +kernel) E hE⟩
theorem nk_Pz_search : NK m_Pz_search 2 := ⟨tw1056, tw111, ⟨by decide +kernel, by decide +kernel⟩, by decide +kernel, Nat.le_of_ble_eq_true rfl⟩
def m_Pz_canSand : Mth := (yX11_canSand, cX11_canSand, 4, some .boolean, RX11)
def cd_Pz_canSand : List ME := [(0, .iload_n 1, 0, 0, 0), (1, .invokestatic 104, 0, 0, 0), (4, .ifCond .eq 25, 29, 0, 0), (7, .iload_n 2, 0, 0, 0), (8, .invokestatic 104, 0, 0, 0), (11, .ifCond .eq 18, 29, 0, 0), (14, .iload_n 1, 0, 0, 0), (15, .iload_n 2, 0, 0, 0), (16, .if_icmp .eq 13, 29, 0, 0), (19, .iload_n 3, 0, 0, 0), (20, .ifCond .lt 9, 29, 0, 0), (23, .iload_n 3, 0, 0, 0), (24, .bipush 60, 0, 60, 0), (26, .if_icmp .le 5, 31, 0, 0), (29, .iconst 0, 0, 0, 0), (30, .ireturn, 0, 0, 0), (31, .iload_n 3, 0, 0, 0), (32, .aload_n 0, 0, 0, 0), (33, .getfield 12, 640, 0, 0), (36, .getfield 124, 200, 0, 0), (39, .iload_n 1, 0, 0, 0), (40, .iaload, 12, 0, 0), (41, .iadd, 0, 0, 0), (42, .aload_n 0, 0, 0, 0), (43, .getfield 12, 640, 0, 0), (46, .getfield 124, 200, 0, 0), (49, .iload_n 2, 0, 0, 0), (50, .iaload, 12, 0, 0), (51, .iadd, 0, 0, 0), (52, .bipush 60, 0, 60, 0), (54, .if_icmp .gt 7, 61, 0, 0), (57, .iconst 1, 0, 1, 0), (58, .goto 4, 62, 0, 0), (61, .iconst 0, 0, 0, 0), (62, .ireturn, 0, 0, 0)]
set_option maxRecDepth 20000 in
theorem bk_Pz_canSand : BK m_Pz_canSand cd_Pz_canSand := ⟨pl_X11, pk_X11, fun E hE => (show ∀ E ∈ cd_Pz_canSand, decode cX11_canSand E.1 = .ok (E.2.1, ilen E.2.1) ∧ exE pl_X11 E.1 E.2.1 E.2.2.1 E.2.2.2.1 E.2.2.2.2 = true by decide +kernel) E hE⟩
theorem nk_Pz_canSand : NK m_Pz_canSand 3 := ⟨tw1099, tw111, ⟨by decide +kernel, by decide +kernel⟩, by decide +kernel, Nat.le_of_ble_eq_true rfl⟩
def m_Arrays_fill_ll : Mth := (yJ7_fill_d0a16, cJ7_fill_d0a16, 5, none, RJ7)
def cd_Arrays_fill_ll : List ME := [(0, .iconst 0, 0, 0, 0), (1, .istore_n 3, 0, 0, 0), (2, .aload_n 0, 0, 0, 0), (3, .arraylength, 3721, 3721, 0), (4, .istore 4, 0, 0, 0), (6, .iload_n 3, 0, 0, 0), (7, .iload 4, 0, 0, 0), (9, .if_icmp .ge 13, 22, 0, 0), (12, .aload_n 0, 0, 0, 0), (13, .iload_n 3, 0, 0, 0), (14, .lload_n 1, 0, 0, 0), (15, .lastore, 3721, 0, 0), (16, .iinc 3 1, 0, 1, 0), (19, .goto (-13), 6, 0, 0), (22, .return_, 0, 0, 0)]
set_option maxRecDepth 20000 in
theorem bk_Arrays_fill_ll : BK m_Arrays_fill_ll cd_Arrays_fill_ll := ⟨pl_J7, pk_J7, fun E hE => (show ∀ E ∈ cd_Arrays_fill_ll, decode cJ7_fill_d0a16 E.1 = .ok (E.2.1, ilen E.2.1) ∧ exE pl_J7 E.1 E.2.1 E.2.2.1 E.2.2.2.1 E.2.2.2.2 = true by decide +kernel) E hE⟩
theorem nk_Arrays_fill_ll : NK m_Arrays_fill_ll 2 := ⟨tw1108, tw131, ⟨by decide +kernel, by decide +kernel⟩, by decide +kernel, Nat.le_of_ble_eq_true rfl⟩
def m_Sander_weigh : Mth := (yX8_weigh, cX8_weigh, 8, none, RX8)
def cd_Sander_weigh : List ME := [(0, .aload_n 0, 0, 0, 0), (1, .bipush 9, 0, 9, 0), (3, .iload_n 1, 0, 0, 0), (4, .iload_n 2, 0, 0, 0), (5, .iload_n 3, 0, 0, 0), (6, .invokestatic 28, 0, 0, 0), (9, .invokestatic 28, 0, 0, 0), (12, .iadd, 0, 0, 0), (13, .putfield 63, 457, 0, 0), (16, .aload_n 0, 0, 0, 0), (17, .bipush 9, 0, 9, 0), (19, .iload_n 1, 0, 0, 0), (20, .iload_n 2, 0, 0, 0), (21, .iload_n 3, 0, 0, 0), (22, .invokestatic 34, 0, 0, 0), (25, .invokestatic 34, 0, 0, 0), (28, .iadd, 0, 0, 0), (29, .putfield 67, 458, 0, 0), (32, .iconst 0, 0, 0, 0), (33, .istore 6, 0, 0, 0), (35, .iload 6, 0, 0, 0), (37, .bipush 19, 0, 19, 0), (39, .if_icmp .ge 70, 109, 0, 0), (42, .iload 6, 0, 0, 0), (44, .bipush 9, 0, 9, 0), (46, .isub, 0, 0, 0), (47, .istore 7, 0, 0, 0), (49, .aload_n 0, 0, 0, 0), (50, .getfield 15, 454, 0, 0), (53, .iload 6, 0, 0, 0), (55, .iload 7, 0, 0, 0), (57, .iload_n 1, 0, 0, 0), (58, .isub, 0, 0, 0), (59, .invokestatic 70, 0, 0, 0), (62, .i2l, 0, 0, 0), (63, .ldc2_w 74, 0, 0, 16983563041), (66, .lmul, 0, 0, 0), (67, .iload 6, 0, 0, 0), (69, .i2l, 0, 0, 0), (70, .lload 4, 0, 0, 0), (72, .lmul, 0, 0, 0), (73, .ladd, 0, 0, 0), (74, .lastore, 19, 0, 0), (75, .aload_n 0, 0, 0, 0), (76, .getfield 19, 455, 0, 0), (79, .iload 6, 0, 0, 0), (81, .iload 7, 0, 0, 0), (83, .iload_n 2, 0, 0, 0), (84, .isub, 0, 0, 0), (85, .invokestatic 70, 0, 0, 0), (88, .iastore, 19, 0, 0), (89, .aload_n 0, 0, 0, 0), (90, .getfield 22, 456, 0, 0), (93, .iload 6, 0, 0, 0), (95, .iload 7, 0, 0, 0), (97, .iload_n 3, 0, 0, 0), (98, .isub, 0, 0, 0), (99, .invokestatic 70, 0, 0, 0), (102, .iastore, 19, 0, 0), (103, .iinc 6 1, 0, 1, 0), (106, .goto (-71), 35, 0, 0), (109, .return_, 0, 0, 0)]
set_option maxRecDepth 20000 in
theorem bk_Sander_weigh : BK m_Sander_weigh cd_Sander_weigh := ⟨pl_X8, pk_X8, fun E hE => (show ∀ E ∈ cd_Sander_weigh, decode cX8_weigh E.1 = .ok (E.2.1, ilen E.2.1) ∧ exE pl_X8 E.1 E.2.1 E.2.2.1 E.2.2.2.1 E.2.2.2.2 = true by decide +kernel) E hE⟩
theorem nk_Sander_weigh : NK m_Sander_weigh 4 := ⟨tw1112, tw122, ⟨by decide +kernel, by decide +kernel⟩, by decide +kernel, Nat.le_of_ble_eq_true rfl⟩
def m_Sander_leastOf : Mth := (yX8_leastOf, cX8_leastOf, 3, some .long, RX8)
def cd_Sander_leastOf : List ME := [(0, .iload_n 1, 0, 0, 0), (1, .ifCond .lt 19, 20, 0, 0), (4, .iload_n 2, 0, 0, 0), (5, .ifCond .lt 15, 20, 0, 0), (8, .iload_n 1, 0, 0, 0), (9, .bipush 61, 0, 61, 0), (11, .if_icmp .ge 9, 20, 0, 0), (14, .iload_n 2, 0, 0, 0), (15, .bipush 61, 0, 61, 0), (17, .if_icmp .lt 9, 26, 0, 0), (20, .ldc2_w 76, 0, 0, 4611686018427387904), (23, .goto 14, 37, 0, 0), (26, .aload_n 0, 0, 0, 0), (27, .getfield 25, 453, 0, 0), (30, .iload_n 1, 0, 0, 0), (31, .bipush 61, 0, 61, 0), (33, .imul, 0, 0, 0), (34, .iload_n 2, 0, 0, 0), (35, .iadd, 0, 0, 0), (36, .laload, 3721, 0, 0), (37, .lreturn, 0, 0, 0)]
set_option maxRecDepth 20000 in
theorem bk_Sander_leastOf : BK m_Sander_leastOf cd_Sander_leastOf := ⟨pl_X8, pk_X8, fun E hE => (show ∀ E ∈ cd_Sander_leastOf, decode cX8_leastOf E.1 = .ok (E.2.1, ilen E.2.1) ∧ exE pl_X8 E.1 E.2.1 E.2.2.1 E.2.2.2.1 E.2.2.2.2 = true by decide +kernel) E hE⟩
theorem nk_Sander_leastOf : NK m_Sander_leastOf 2 := ⟨tw1124, tw122, ⟨by decide +kernel, by decide +kernel⟩, by decide +kernel, Nat.le_of_ble_eq_true rfl⟩
def m_Sander_bestHere : Mth := (yX8_bestHere, cX8_bestHere, 8, some .long, RX8)
def cd_Sander_bestHere : List ME := [(0, .ldc2_w 76, 0, 0, 4611686018427387904), (3, .lstore_n 3, 0, 0, 0), (4, .iconst 0, 0, 0, 0), (5, .aload_n 0, 0, 0, 0), (6, .getfield 63, 457, 0, 0), (9, .invokestatic 34, 0, 0, 0), (12, .istore 5, 0, 0, 0), (14, .iload 5, 0, 0, 0), (16, .aload_n 0, 0, 0, 0), (17, .getfield 67, 458, 0, 0), (20, .if_icmp .gt 64, 84, 0, 0), (23, .iload 5, 0, 0, 0), (25, .bipush 19, 0, 19, 0), (27, .if_icmp .ge 57, 84, 0, 0), (30, .aload_n 0, 0, 0, 0), (31, .iload_n 1, 0, 0, 0), (32, .aload_n 0, 0, 0, 0), (33, .getfield 19, 455, 0, 0), (36, .iload 5, 0, 0, 0), (38, .iaload, 19, 0, 0), (39, .isub, 0, 0, 0), (40, .iload_n 2, 0, 0, 0), (41, .aload_n 0, 0, 0, 0), (42, .getfield 22, 456, 0, 0), (45, .iload 5, 0, 0, 0), (47, .iaload, 19, 0, 0), (48, .isub, 0, 0, 0), (49, .invokevirtual 56, 0, 0, 0), (52, .lstore 6, 0, 0, 0), (54, .lload 6, 0, 0, 0), (56, .ldc2_w 76, 0, 0, 4611686018427387904), (59, .lcmp, 0, 0, 0), (60, .ifCond .eq 18, 78, 0, 0), (63, .lload_n 3, 0, 0, 0), (64, .lload 6, 0, 0, 0), (66, .aload_n 0, 0, 0, 0), (67, .getfield 15, 454, 0, 0), (70, .iload 5, 0, 0, 0), (72, .laload, 19, 0, 0), (73, .ladd, 0, 0, 0), (74, .invokestatic 78, 0, 0, 0), (77, .lstore_n 3, 0, 0, 0), (78, .iinc 5 1, 0, 1, 0), (81, .goto (-67), 14, 0, 0), (84, .lload_n 3, 0, 0, 0), (85, .lreturn, 0, 0, 0)]
set_option maxRecDepth 20000 in
theorem bk_Sander_bestHere : BK m_Sander_bestHere cd_Sander_bestHere := ⟨pl_X8, pk_X8, fun E hE => (show ∀ E ∈ cd_Sander_bestHere, decode cX8_bestHere E.1 = .ok (E.2.1, ilen E.2.1) ∧ exE pl_X8 E.1 E.2.1 E.2.2.1 E.2.2.2.1 E.2.2.2.2 = true by decide +kernel) E hE⟩
theorem nk_Sander_bestHere : NK m_Sander_bestHere 2 := ⟨tw1119, tw122, ⟨by decide +kernel, by decide +kernel⟩, by decide +kernel, Nat.le_of_ble_eq_true rfl⟩
def m_Sander_read : Mth := (yX8_read, cX8_read, 6, none, RX8)
def cd_Sander_read : List ME := [(0, .aload_n 0, 0, 0, 0), (1, .lload_n 1, 0, 0, 0), (2, .ldc2_w 76, 0, 0, 4611686018427387904), (5, .lcmp, 0, 0, 0), (6, .ifCond .eq 7, 13, 0, 0), (9, .iconst 1, 0, 1, 0), (10, .goto 4, 14, 0, 0), (13, .iconst 0, 0, 0, 0), (14, .putfield 81, 449, 0, 0), (17, .aload_n 0, 0, 0, 0), (18, .getfield 81, 449, 0, 0), (21, .ifCond .eq 7, 28, 0, 0), (24, .lload_n 1, 0, 0, 0), (25, .goto 4, 29, 0, 0), (28, .lconst 0, 0, 0, 0), (29, .lstore_n 3, 0, 0, 0), (30, .bipush 7, 0, 7, 0), (32, .istore 5, 0, 0, 0), (34, .iload 5, 0, 0, 0), (36, .ifCond .lt 31, 67, 0, 0), (39, .aload_n 0, 0, 0, 0), (40, .getfield 9, 448, 0, 0), (43, .iload 5, 0, 0, 0), (45, .lload_n 3, 0, 0, 0), (46, .ldc2_w 54, 0, 0, 19), (49, .lrem, 0, 0, 0), (50, .l2i, 0, 0, 0), (51, .bipush 9, 0, 9, 0), (53, .isub, 0, 0, 0), (54, .iastore, 8, 0, 0), (55, .lload_n 3, 0, 0, 0), (56, .ldc2_w 54, 0, 0, 19), (59, .ldiv, 0, 0, 0), (60, .lstore_n 3, 0, 0, 0), (61, .iinc 5 (-1), 0, (-1), 0), (64, .goto (-30), 34, 0, 0), (67, .aload_n 0, 0, 0, 0), (68, .lload_n 3, 0, 0, 0), (69, .l2i, 0, 0, 0), (70, .putfield 85, 450, 0, 0), (73, .return_, 0, 0, 0)]
set_option maxRecDepth 20000 in
theorem bk_Sander_read : BK m_Sander_read cd_Sander_read := ⟨pl_X8, pk_X8, fun E hE => (show ∀ E ∈ cd_Sander_read, decode cX8_read E.1 = .ok (E.2.1, ilen E.2.1) ∧ exE pl_X8 E.1 E.2.1 E.2.2.1 E.2.2.2.1 E.2.2.2.2 = true by decide +kernel) E hE⟩
theorem nk_Sander_read : NK m_Sander_read 1 := ⟨tw1132, tw122, ⟨by decide +kernel, by decide +kernel⟩, by decide +kernel, Nat.le_of_ble_eq_true rfl⟩
def m_Sander_sand : Mth := (yX8_sand, cX8_sand, 14, none, RX8)
def cd_Sander_sand : List ME := [(0, .iconst 0, 0, 0, 0), (1, .bipush 60, 0, 60, 0), (3, .iload_n 3, 0, 0, 0), (4, .invokestatic 28, 0, 0, 0), (7, .invokestatic 34, 0, 0, 0), (10, .istore 6, 0, 0, 0), (12, .iconst 0, 0, 0, 0), (13, .bipush 60, 0, 60, 0), (15, .iload 5, 0, 0, 0), (17, .invokestatic 28, 0, 0, 0), (20, .invokestatic 34, 0, 0, 0), (23, .istore 7, 0, 0, 0), (25, .aload_n 0, 0, 0, 0), (26, .getfield 25, 453, 0, 0), (29, .lconst 0, 0, 0, 0), (30, .invokestatic 37, 0, 0, 0), (33, .lconst 1, 0, 0, 1), (34, .lstore 8, 0, 0, 0), (36, .bipush 7, 0, 7, 0), (38, .istore 10, 0, 0, 0), (40, .iload 10, 0, 0, 0), (42, .ifCond .lt 122, 164, 0, 0), (45, .bipush 7, 0, 7, 0), (47, .iload 10, 0, 0, 0), (49, .isub, 0, 0, 0), (50, .istore 11, 0, 0, 0), (52, .aload_n 0, 0, 0, 0), (53, .aload_n 1, 0, 0, 0), (54, .iload 10, 0, 0, 0), (56, .iaload, 8, 0, 0), (57, .aload_n 2, 0, 0, 0), (58, .iload 11, 0, 0, 0), (60, .iaload, 8, 0, 0), (61, .ineg, 0, 0, 0), (62, .aload 4, 0, 0, 0), (64, .ifnonnull 11, 75, 0, 0), (75, .aload 4, 0, 0, 0), (77, .iload 11, 0, 0, 0), (79, .iaload, 8, 0, 0), (80, .ineg, 0, 0, 0), (81, .lload 8, 0, 0, 0), (83, .invokevirtual 43, 0, 0, 0), (86, .aload 4, 0, 0, 0), (88, .ifnonnull 11, 99, 0, 0), (99, .iload 6, 0, 0, 0), (101, .istore 12, 0, 0, 0), (103, .iload 12, 0, 0, 0), (105, .ifCond .lt 45, 150, 0, 0), (108, .iload 7, 0, 0, 0), (110, .istore 13, 0, 0, 0), (112, .iload 13, 0, 0, 0), (114, .ifCond .lt 30, 144, 0, 0), (117, .aload_n 0, 0, 0, 0), (118, .getfield 25, 453, 0, 0), (121, .iload 12, 0, 0, 0), (123, .bipush 61, 0, 61, 0), (125, .imul, 0, 0, 0), (126, .iload 13, 0, 0, 0), (128, .iadd, 0, 0, 0), (129, .aload_n 0, 0, 0, 0), (130, .iload 12, 0, 0, 0), (132, .iload 13, 0, 0, 0), (134, .invokevirtual 50, 0, 0, 0), (137, .lastore, 3721, 0, 0), (138, .iinc 13 (-1), 0, (-1), 0), (141, .goto (-29), 112, 0, 0), (144, .iinc 12 (-1), 0, (-1), 0), (147, .goto (-44), 103, 0, 0), (150, .lload 8, 0, 0, 0), (152, .ldc2_w 54, 0, 0, 19), (155, .lmul, 0, 0, 0), (156, .lstore 8, 0, 0, 0), (158, .iinc 10 (-1), 0, (-1), 0), (161, .goto (-121), 40, 0, 0), (164, .aload_n 0, 0, 0, 0), (165, .aload_n 0, 0, 0, 0), (166, .iload 6, 0, 0, 0), (168, .iload 7, 0, 0, 0), (170, .invokevirtual 56, 0, 0, 0), (173, .invokevirtual 59, 0, 0, 0), (176, .return_, 0, 0, 0)]
set_option maxRecDepth 20000 in
theorem bk_Sander_sand : BK m_Sander_sand cd_Sander_sand := ⟨pl_X8, pk_X8, fun E hE => (show ∀ E ∈ cd_Sander_sand, decode cX8_sand E.1 = .ok (E.2.1, ilen E.2.1) ∧ exE pl_X8 E.1 E.2.1 E.2.2.1 E.2.2.2.1 E.2.2.2.2 = true by decide +kernel) E hE⟩
theorem nk_Sander_sand : NK m_Sander_sand 5 := ⟨tw1103, tw122, ⟨by decide +kernel, by decide +kernel⟩, by decide +kernel, Nat.le_of_ble_eq_true rfl⟩
def m_Pz_fitOthers : Mth := (yX11_fitOthers, cX11_fitOthers, 7, some .int, RX11)
def cd_Pz_fitOthers : List ME := [(0, .iconst 0, 0, 0, 0), (1, .istore 4, 0, 0, 0), (3, .iconst 0, 0, 0, 0), (4, .istore 5, 0, 0, 0), (6, .iload 5, 0, 0, 0), (8, .bipush 12, 0, 12, 0), (10, .if_icmp .ge 80, 90, 0, 0), (13, .iload 5, 0, 0, 0), (15, .iload_n 1, 0, 0, 0), (16, .if_icmp .eq 68, 84, 0, 0), (19, .aload_n 0, 0, 0, 0), (20, .getfield 12, 640, 0, 0), (23, .iload 5, 0, 0, 0), (25, .invokevirtual 108, 0, 0, 0), (28, .ifCond .eq 56, 84, 0, 0), (31, .aload_n 2, 0, 0, 0), (32, .aload_n 0, 0, 0, 0), (33, .getfield 12, 640, 0, 0), (36, .getfield 163, 201, 0, 0), (39, .iload 5, 0, 0, 0), (41, .aaload, 12, 0, 0), (42, .invokestatic 315, 0, 0, 0), (45, .aload_n 0, 0, 0, 0), (46, .getfield 12, 640, 0, 0), (49, .getfield 124, 200, 0, 0), (52, .iload_n 1, 0, 0, 0), (53, .iaload, 12, 0, 0), (54, .isub, 0, 0, 0), (55, .aload_n 0, 0, 0, 0), (56, .getfield 12, 640, 0, 0), (59, .getfield 124, 200, 0, 0), (62, .iload 5, 0, 0, 0), (64, .iaload, 12, 0, 0), (65, .isub, 0, 0, 0), (66, .istore 6, 0, 0, 0), (68, .iload 4, 0, 0, 0), (70, .iload 6, 0, 0, 0), (72, .iload_n 3, 0, 0, 0), (73, .if_icmp .gt 7, 80, 0, 0), (76, .iconst 1, 0, 1, 0), (77, .goto 4, 81, 0, 0), (80, .iconst 0, 0, 0, 0), (81, .iadd, 0, 0, 0), (82, .istore 4, 0, 0, 0), (84, .iinc 5 1, 0, 1, 0), (87, .goto (-81), 6, 0, 0), (90, .iload 4, 0, 0, 0), (92, .ireturn, 0, 0, 0)]
set_option maxRecDepth 20000 in
theorem bk_Pz_fitOthers : BK m_Pz_fitOthers cd_Pz_fitOthers := ⟨pl_X11, pk_X11, fun E hE => (show ∀ E ∈ cd_Pz_fitOthers, decode cX11_fitOthers E.1 = .ok (E.2.1, ilen E.2.1) ∧ exE pl_X11 E.1 E.2.1 E.2.2.1 E.2.2.2.1 E.2.2.2.2 = true by decide +kernel) E hE⟩
theorem nk_Pz_fitOthers : NK m_Pz_fitOthers 3 := ⟨tw1136, tw111, ⟨by decide +kernel, by decide +kernel⟩, by decide +kernel, Nat.le_of_ble_eq_true rfl⟩
def m_Arrays_fill_ii_2 : Mth := (yJ7_fill_53178, cJ7_fill_53178, 4, none, RJ7)
def cd_Arrays_fill_ii_2 : List ME := [(0, .iconst 0, 0, 0, 0), (1, .istore_n 2, 0, 0, 0), (2, .aload_n 0, 0, 0, 0), (3, .arraylength, 19, 19, 0), (4, .istore_n 3, 0, 0, 0), (5, .iload_n 2, 0, 0, 0), (6, .iload_n 3, 0, 0, 0), (7, .if_icmp .ge 13, 20, 0, 0), (10, .aload_n 0, 0, 0, 0), (11, .iload_n 2, 0, 0, 0), (12, .iload_n 1, 0, 0, 0), (13, .iastore, 19, 0, 0), (14, .iinc 2 1, 0, 1, 0), (17, .goto (-12), 5, 0, 0), (20, .return_, 0, 0, 0)]
set_option maxRecDepth 20000 in
theorem bk_Arrays_fill_ii_2 : BK m_Arrays_fill_ii_2 cd_Arrays_fill_ii_2 := ⟨pl_J7, pk_J7, fun E hE => (show ∀ E ∈ cd_Arrays_fill_ii_2, decode cJ7_fill_53178 E.1 = .ok (E.2.1, ilen E.2.1) ∧ exE pl_J7 E.1 E.2.1 E.2.2.1 E.2.2.2.1 E.2.2.2.2 = true by decide +kernel) E hE⟩
theorem nk_Arrays_fill_ii_2 : NK m_Arrays_fill_ii_2 2 := ⟨tw895, tw131, ⟨by decide +kernel, by decide +kernel⟩, by decide +kernel, Nat.le_of_ble_eq_true rfl⟩
def m_Sander_sand_n : Mth := (yX8_sand, cX8_sand, 14, none, RX8)
def cd_Sander_sand_n : List ME := [(0, .iconst 0, 0, 0, 0), (1, .bipush 60, 0, 60, 0), (3, .iload_n 3, 0, 0, 0), (4, .invokestatic 28, 0, 0, 0), (7, .invokestatic 34, 0, 0, 0), (10, .istore 6, 0, 0, 0), (12, .iconst 0, 0, 0, 0), (13, .bipush 60, 0, 60, 0), (15, .iload 5, 0, 0, 0), (17, .invokestatic 28, 0, 0, 0), (20, .invokestatic 34, 0, 0, 0), (23, .istore 7, 0, 0, 0), (25, .aload_n 0, 0, 0, 0), (26, .getfield 25, 453, 0, 0), (29, .lconst 0, 0, 0, 0), (30, .invokestatic 37, 0, 0, 0), (33, .lconst 1, 0, 0, 1), (34, .lstore 8, 0, 0, 0), (36, .bipush 7, 0, 7, 0), (38, .istore 10, 0, 0, 0), (40, .iload 10, 0, 0, 0), (42, .ifCond .lt 122, 164, 0, 0), (45, .bipush 7, 0, 7, 0), (47, .iload 10, 0, 0, 0), (49, .isub, 0, 0, 0), (50, .istore 11, 0, 0, 0), (52, .aload_n 0, 0, 0, 0), (53, .aload_n 1, 0, 0, 0), (54, .iload 10, 0, 0, 0), (56, .iaload, 8, 0, 0), (57, .aload_n 2, 0, 0, 0), (58, .iload 11, 0, 0, 0), (60, .iaload, 8, 0, 0), (61, .ineg, 0, 0, 0), (62, .aload 4, 0, 0, 0), (64, .ifnonnull 11, 75, 0, 0), (67, .aload_n 2, 0, 0, 0), (68, .iload 11, 0, 0, 0), (70, .iaload, 8, 0, 0), (71, .ineg, 0, 0, 0), (72, .goto 9, 81, 0, 0), (81, .lload 8, 0, 0, 0), (83, .invokevirtual 43, 0, 0, 0), (86, .aload 4, 0, 0, 0), (88, .ifnonnull 11, 99, 0, 0), (91, .aload_n 0, 0, 0, 0), (92, .getfield 22, 456, 0, 0), (95, .iconst 0, 0, 0, 0), (96, .invokestatic 47, 0, 0, 0), (99, .iload 6, 0, 0, 0), (101, .istore 12, 0, 0, 0), (103, .iload 12, 0, 0, 0), (105, .ifCond .lt 45, 150, 0, 0), (108, .iload 7, 0, 0, 0), (110, .istore 13, 0, 0, 0), (112, .iload 13, 0, 0, 0), (114, .ifCond .lt 30, 144, 0, 0), (117, .aload_n 0, 0, 0, 0), (118, .getfield 25, 453, 0, 0), (121, .iload 12, 0, 0, 0), (123, .bipush 61, 0, 61, 0), (125, .imul, 0, 0, 0), (126, .iload 13, 0, 0, 0), (128, .iadd, 0, 0, 0), (129, .aload_n 0, 0, 0, 0), (130, .iload 12, 0, 0, 0), (132, .iload 13, 0, 0, 0), (134, .invokevirtual 50, 0, 0, 0), (137, .lastore, 3721, 0, 0), (138, .iinc 13 (-1), 0, (-1), 0), (141, .goto (-29), 112, 0, 0), (144, .iinc 12 (-1), 0, (-1), 0), (147, .goto (-44), 103, 0, 0), (150, .lload 8, 0, 0, 0), (152, .ldc2_w 54, 0, 0, 19), (155, .lmul, 0, 0, 0), (156, .lstore 8, 0, 0, 0), (158, .iinc 10 (-1), 0, (-1), 0), (161, .goto (-121), 40, 0, 0), (164, .aload_n 0, 0, 0, 0), (165, .aload_n 0, 0, 0, 0), (166, .iload 6, 0, 0, 0), (168, .iload 7, 0, 0, 0), (170, .invokevirtual 56, 0, 0, 0), (173, .invokevirtual 59, 0, 0, 0), (176, .return_, 0, 0, 0)]
set_option maxRecDepth 20000 in
theorem bk_Sander_sand_n : BK m_Sander_sand_n cd_Sander_sand_n := ⟨pl_X8, pk_X8, fun E hE => (show ∀ E ∈ cd_Sander_sand_n, decode cX8_sand E.1 = .ok (E.2.1, ilen E.2.1) ∧ exE pl_X8 E.1 E.2.1 E.2.2.1 E.2.2.2.1 E.2.2.2.2 = true by decide +kernel) E hE⟩
theorem nk_Sander_sand_n : NK m_Sander_sand_n 5 := ⟨tw1103, tw122, ⟨by decide +kernel, by decide +kernel⟩, by decide +kernel, Nat.le_of_ble_eq_true rfl⟩
def m_Pz_sanding : Mth := (yX11_sanding, cX11_sanding, 11, some .int, RX11)
def cd_Pz_sanding : List ME := [(0, .iload 6, 0, 0, 0), (2, .ifCond .lt 10, 12, 0, 0), (5, .iload 6, 0, 0, 0), (7, .bipush 8, 0, 8, 0), (9, .if_icmp .lt 17, 26, 0, 0), (12, .iload 6, 0, 0, 0), (14, .bipush 10, 0, 10, 0), (16, .if_icmp .eq 10, 26, 0, 0), (19, .iload 6, 0, 0, 0), (21, .bipush 11, 0, 11, 0), (23, .if_icmp .ne 7, 30, 0, 0), (26, .iconst 1, 0, 1, 0), (27, .goto 4, 31, 0, 0), (30, .iconst 0, 0, 0, 0), (31, .istore 8, 0, 0, 0), (33, .iload 8, 0, 0, 0), (35, .ifCond .eq 25, 60, 0, 0), (38, .iload 7, 0, 0, 0), (40, .ifCond .lt 20, 60, 0, 0), (43, .iload 7, 0, 0, 0), (45, .bipush 99, 0, 99, 0), (47, .if_icmp .gt 13, 60, 0, 0), (50, .aload_n 0, 0, 0, 0), (51, .iload_n 1, 0, 0, 0), (52, .iload_n 2, 0, 0, 0), (53, .iload_n 3, 0, 0, 0), (54, .invokevirtual 294, 0, 0, 0), (57, .ifCond .ne 5, 62, 0, 0), (60, .iconst (-1), 0, (-1), 0), (61, .ireturn, 0, 0, 0), (62, .iload 4, 0, 0, 0), (64, .iconst (-1), 0, (-1), 0), (65, .if_icmp .eq 23, 88, 0, 0), (68, .iload 4, 0, 0, 0), (70, .iload_n 2, 0, 0, 0), (71, .if_icmp .eq 15, 86, 0, 0), (74, .aload_n 0, 0, 0, 0), (75, .iload_n 1, 0, 0, 0), (76, .iload 4, 0, 0, 0), (78, .iload 5, 0, 0, 0), (80, .invokevirtual 294, 0, 0, 0), (83, .ifCond .ne 5, 88, 0, 0), (86, .iconst (-1), 0, (-1), 0), (87, .ireturn, 0, 0, 0), (88, .iload_n 3, 0, 0, 0), (89, .aload_n 0, 0, 0, 0), (90, .getfield 12, 640, 0, 0), (93, .getfield 124, 200, 0, 0), (96, .iload_n 1, 0, 0, 0), (97, .iaload, 12, 0, 0), (98, .iadd, 0, 0, 0), (99, .aload_n 0, 0, 0, 0), (100, .getfield 12, 640, 0, 0), (103, .getfield 124, 200, 0, 0), (106, .iload_n 2, 0, 0, 0), (107, .iaload, 12, 0, 0), (108, .iadd, 0, 0, 0), (109, .istore 9, 0, 0, 0), (111, .iload 4, 0, 0, 0), (113, .invokestatic 104, 0, 0, 0), (116, .ifCond .eq 70, 186, 0, 0), (119, .iload 5, 0, 0, 0), (121, .aload_n 0, 0, 0, 0), (122, .getfield 12, 640, 0, 0), (125, .getfield 124, 200, 0, 0), (128, .iload_n 1, 0, 0, 0), (129, .iaload, 12, 0, 0), (130, .iadd, 0, 0, 0), (131, .aload_n 0, 0, 0, 0), (132, .getfield 12, 640, 0, 0), (135, .getfield 124, 200, 0, 0), (138, .iload 4, 0, 0, 0), (140, .iaload, 12, 0, 0), (141, .iadd, 0, 0, 0), (142, .istore 10, 0, 0, 0), (144, .aload_n 0, 0, 0, 0), (145, .getfield 96, 653, 0, 0), (148, .aload_n 0, 0, 0, 0), (149, .getfield 12, 640, 0, 0), (152, .getfield 163, 201, 0, 0), (155, .iload_n 1, 0, 0, 0), (156, .aaload, 12, 0, 0), (157, .aload_n 0, 0, 0, 0), (158, .getfield 12, 640, 0, 0), (161, .getfield 163, 201, 0, 0), (164, .iload_n 2, 0, 0, 0), (165, .aaload, 12, 0, 0), (166, .iload 9, 0, 0, 0), (168, .aload_n 0, 0, 0, 0), (169, .getfield 12, 640, 0, 0), (172, .getfield 163, 201, 0, 0), (175, .iload 4, 0, 0, 0), (177, .aaload, 12, 0, 0), (178, .iload 10, 0, 0, 0), (180, .invokevirtual 298, 0, 0, 0), (183, .goto 32, 215, 0, 0), (186, .aload_n 0, 0, 0, 0), (187, .getfield 96, 653, 0, 0), (190, .aload_n 0, 0, 0, 0), (191, .getfield 12, 640, 0, 0), (194, .getfield 163, 201, 0, 0), (197, .iload_n 1, 0, 0, 0), (198, .aaload, 12, 0, 0), (199, .aload_n 0, 0, 0, 0), (200, .getfield 12, 640, 0, 0), (203, .getfield 163, 201, 0, 0), (206, .iload_n 2, 0, 0, 0), (207, .aaload, 12, 0, 0), (208, .iload 9, 0, 0, 0), (210, .aconst_null, 0, 0, 0), (211, .iconst 0, 0, 0, 0), (212, .invokevirtual 298, 0, 0, 0), (215, .aload_n 0, 0, 0, 0), (216, .getfield 96, 653, 0, 0), (219, .getfield 302, 449, 0, 0), (222, .ifCond .ne 6, 228, 0, 0), (225, .bipush (-2), 0, (-2), 0), (227, .ireturn, 0, 0, 0), (228, .iload 6, 0, 0, 0), (230, .bipush 10, 0, 10, 0), (232, .if_icmp .ne 11, 243, 0, 0), (235, .aload_n 0, 0, 0, 0), (236, .getfield 96, 653, 0, 0), (239, .getfield 305, 450, 0, 0), (242, .ireturn, 0, 0, 0), (243, .iload 6, 0, 0, 0), (245, .bipush 11, 0, 11, 0), (247, .if_icmp .ne 20, 267, 0, 0), (250, .aload_n 0, 0, 0, 0), (251, .iload_n 1, 0, 0, 0), (252, .aload_n 0, 0, 0, 0), (253, .getfield 96, 653, 0, 0), (256, .getfield 308, 448, 0, 0), (259, .iload 7, 0, 0, 0), (261, .invokevirtual 311, 0, 0, 0), (264, .goto 16, 280, 0, 0), (267, .aload_n 0, 0, 0, 0), (268, .getfield 96, 653, 0, 0), (271, .getfield 308, 448, 0, 0), (274, .iload 6, 0, 0, 0), (276, .iaload, 8, 0, 0), (277, .bipush 10, 0, 10, 0), (279, .iadd, 0, 0, 0), (280, .ireturn, 0, 0, 0)]
set_option maxRecDepth 20000 in
theorem bk_Pz_sanding : BK m_Pz_sanding cd_Pz_sanding := ⟨pl_X11, pk_X11, fun E hE => (show ∀ E ∈ cd_Pz_sanding, decode cX11_sanding E.1 = .ok (E.2.1, ilen E.2.1) ∧ exE pl_X11 E.1 E.2.1 E.2.2.1 E.2.2.2.1 E.2.2.2.2 = true by decide +kernel) E hE⟩
theorem nk_Pz_sanding : NK m_Pz_sanding 7 := ⟨tw1095, tw111, ⟨by decide +kernel, by decide +kernel⟩, by decide +kernel, Nat.le_of_ble_eq_true rfl⟩
def m_Sander_steam : Mth := (yX8_steam, cX8_steam, 9, none, RX8)
def cd_Sander_steam : List ME := [(0, .aload_n 0, 0, 0, 0), (1, .iconst 0, 0, 0, 0), (2, .putfield 81, 449, 0, 0), (5, .iconst 0, 0, 0, 0), (6, .istore 4, 0, 0, 0), (8, .iload 4, 0, 0, 0), (10, .bipush 8, 0, 8, 0), (12, .if_icmp .ge 140, 152, 0, 0), (15, .bipush (-9), 0, (-9), 0), (17, .istore 5, 0, 0, 0), (19, .iload 5, 0, 0, 0), (21, .bipush 9, 0, 9, 0), (23, .if_icmp .gt 123, 146, 0, 0), (26, .iload 4, 0, 0, 0), (28, .iload 5, 0, 0, 0), (30, .invokestatic 70, 0, 0, 0), (33, .iadd, 0, 0, 0), (34, .istore 6, 0, 0, 0), (36, .aload_n 0, 0, 0, 0), (37, .getfield 81, 449, 0, 0), (40, .ifCond .eq 15, 55, 0, 0), (43, .iload 6, 0, 0, 0), (45, .aload_n 0, 0, 0, 0), (46, .getfield 85, 450, 0, 0), (49, .if_icmp .lt 6, 55, 0, 0), (52, .goto 88, 140, 0, 0), (55, .iconst 0, 0, 0, 0), (56, .istore 7, 0, 0, 0), (58, .iload 7, 0, 0, 0), (60, .bipush 8, 0, 8, 0), (62, .if_icmp .ge 43, 105, 0, 0), (65, .aload_n 1, 0, 0, 0), (66, .iload 7, 0, 0, 0), (68, .iload 4, 0, 0, 0), (70, .iadd, 0, 0, 0), (71, .bipush 7, 0, 7, 0), (73, .iand, 0, 0, 0), (74, .iaload, 8, 0, 0), (75, .iload 5, 0, 0, 0), (77, .iadd, 0, 0, 0), (78, .istore 8, 0, 0, 0), (80, .aload_n 0, 0, 0, 0), (81, .getfield 9, 448, 0, 0), (84, .iload 7, 0, 0, 0), (86, .bipush (-9), 0, (-9), 0), (88, .bipush 9, 0, 9, 0), (90, .iload 8, 0, 0, 0), (92, .invokestatic 28, 0, 0, 0), (95, .invokestatic 34, 0, 0, 0), (98, .iastore, 8, 0, 0), (99, .iinc 7 1, 0, 1, 0), (102, .goto (-44), 58, 0, 0), (105, .aload_n 0, 0, 0, 0), (106, .getfield 9, 448, 0, 0), (109, .aload_n 2, 0, 0, 0), (110, .invokestatic 88, 0, 0, 0), (113, .iload_n 3, 0, 0, 0), (114, .if_icmp .gt 26, 140, 0, 0), (117, .aload_n 0, 0, 0, 0), (118, .iconst 1, 0, 1, 0), (119, .putfield 81, 449, 0, 0), (122, .aload_n 0, 0, 0, 0), (123, .iload 6, 0, 0, 0), (125, .putfield 85, 450, 0, 0), (128, .aload_n 0, 0, 0, 0), (129, .iload 4, 0, 0, 0), (131, .putfield 94, 451, 0, 0), (134, .aload_n 0, 0, 0, 0), (135, .iload 5, 0, 0, 0), (137, .putfield 97, 452, 0, 0), (140, .iinc 5 1, 0, 1, 0), (143, .goto (-124), 19, 0, 0), (146, .iinc 4 1, 0, 1, 0), (149, .goto (-141), 8, 0, 0), (152, .return_, 0, 0, 0)]
set_option maxRecDepth 20000 in
theorem bk_Sander_steam : BK m_Sander_steam cd_Sander_steam := ⟨pl_X8, pk_X8, fun E hE => (show ∀ E ∈ cd_Sander_steam, decode cX8_steam E.1 = .ok (E.2.1, ilen E.2.1) ∧ exE pl_X8 E.1 E.2.1 E.2.2.1 E.2.2.2.1 E.2.2.2.2 = true by decide +kernel) E hE⟩
theorem nk_Sander_steam : NK m_Sander_steam 3 := ⟨tw1145, tw122, ⟨by decide +kernel, by decide +kernel⟩, by decide +kernel, Nat.le_of_ble_eq_true rfl⟩
def m_Pz_steaming : Mth := (yX11_steaming, cX11_steaming, 5, some .int, RX11)
def cd_Pz_steaming : List ME := [(0, .iload_n 1, 0, 0, 0), (1, .invokestatic 104, 0, 0, 0), (4, .ifCond .eq 25, 29, 0, 0), (7, .iload_n 2, 0, 0, 0), (8, .invokestatic 104, 0, 0, 0), (11, .ifCond .eq 18, 29, 0, 0), (14, .iload_n 1, 0, 0, 0), (15, .iload_n 2, 0, 0, 0), (16, .if_icmp .eq 13, 29, 0, 0), (19, .iload_n 3, 0, 0, 0), (20, .ifCond .lt 9, 29, 0, 0), (23, .iload_n 3, 0, 0, 0), (24, .bipush 99, 0, 99, 0), (26, .if_icmp .le 5, 31, 0, 0), (29, .iconst (-1), 0, (-1), 0), (30, .ireturn, 0, 0, 0), (31, .iload 4, 0, 0, 0), (33, .ifCond .lt 9, 42, 0, 0), (36, .iload 4, 0, 0, 0), (38, .iconst 2, 0, 2, 0), (39, .if_icmp .le 5, 44, 0, 0), (42, .iconst (-1), 0, (-1), 0), (43, .ireturn, 0, 0, 0), (44, .aload_n 0, 0, 0, 0), (45, .getfield 96, 653, 0, 0), (48, .aload_n 0, 0, 0, 0), (49, .getfield 12, 640, 0, 0), (52, .getfield 163, 201, 0, 0), (55, .iload_n 1, 0, 0, 0), (56, .aaload, 12, 0, 0), (57, .aload_n 0, 0, 0, 0), (58, .getfield 12, 640, 0, 0), (61, .getfield 163, 201, 0, 0), (64, .iload_n 2, 0, 0, 0), (65, .aaload, 12, 0, 0), (66, .iload_n 3, 0, 0, 0), (67, .aload_n 0, 0, 0, 0), (68, .getfield 12, 640, 0, 0), (71, .getfield 124, 200, 0, 0), (74, .iload_n 1, 0, 0, 0), (75, .iaload, 12, 0, 0), (76, .iadd, 0, 0, 0), (77, .aload_n 0, 0, 0, 0), (78, .getfield 12, 640, 0, 0), (81, .getfield 124, 200, 0, 0), (84, .iload_n 2, 0, 0, 0), (85, .iaload, 12, 0, 0), (86, .iadd, 0, 0, 0), (87, .invokevirtual 319, 0, 0, 0), (90, .aload_n 0, 0, 0, 0), (91, .getfield 96, 653, 0, 0), (94, .getfield 302, 449, 0, 0), (97, .ifCond .ne 6, 103, 0, 0), (100, .bipush (-2), 0, (-2), 0), (102, .ireturn, 0, 0, 0), (103, .iload 4, 0, 0, 0), (105, .ifCond .ne 11, 116, 0, 0), (108, .aload_n 0, 0, 0, 0), (109, .getfield 96, 653, 0, 0), (112, .getfield 305, 450, 0, 0), (115, .ireturn, 0, 0, 0), (116, .iload 4, 0, 0, 0), (118, .iconst 1, 0, 1, 0), (119, .if_icmp .ne 13, 132, 0, 0), (122, .aload_n 0, 0, 0, 0), (123, .getfield 96, 653, 0, 0), (126, .getfield 323, 451, 0, 0), (129, .goto 13, 142, 0, 0), (132, .aload_n 0, 0, 0, 0), (133, .getfield 96, 653, 0, 0), (136, .getfield 326, 452, 0, 0), (139, .bipush 10, 0, 10, 0), (141, .iadd, 0, 0, 0), (142, .ireturn, 0, 0, 0)]
set_option maxRecDepth 20000 in
theorem bk_Pz_steaming : BK m_Pz_steaming cd_Pz_steaming := ⟨pl_X11, pk_X11, fun E hE => (show ∀ E ∈ cd_Pz_steaming, decode cX11_steaming E.1 = .ok (E.2.1, ilen E.2.1) ∧ exE pl_X11 E.1 E.2.1 E.2.2.1 E.2.2.2.1 E.2.2.2.2 = true by decide +kernel) E hE⟩
theorem nk_Pz_steaming : NK m_Pz_steaming 4 := ⟨tw1141, tw111, ⟨by decide +kernel, by decide +kernel⟩, by decide +kernel, Nat.le_of_ble_eq_true rfl⟩
def m_Pz_worn : Mth := (yX11_worn, cX11_worn, 7, some .int, RX11)
def cd_Pz_worn : List ME := [(0, .aload_n 0, 0, 0, 0), (1, .getfield 12, 640, 0, 0), (4, .iload_n 1, 0, 0, 0), (5, .invokevirtual 127, 0, 0, 0), (8, .ifCond .eq 35, 43, 0, 0), (11, .aload_n 0, 0, 0, 0), (12, .getfield 12, 640, 0, 0), (15, .iload_n 2, 0, 0, 0), (16, .invokevirtual 127, 0, 0, 0), (19, .ifCond .eq 24, 43, 0, 0), (22, .aload_n 0, 0, 0, 0), (23, .getfield 12, 640, 0, 0), (26, .getfield 118, 194, 0, 0), (29, .iload_n 1, 0, 0, 0), (30, .iaload, 12, 0, 0), (31, .aload_n 0, 0, 0, 0), (32, .getfield 12, 640, 0, 0), (35, .getfield 118, 194, 0, 0), (38, .iload_n 2, 0, 0, 0), (39, .iaload, 12, 0, 0), (40, .if_icmp .ne 5, 45, 0, 0), (43, .iconst (-1), 0, (-1), 0), (44, .ireturn, 0, 0, 0), (45, .aload_n 0, 0, 0, 0), (46, .getfield 66, 649, 0, 0), (49, .aload_n 0, 0, 0, 0), (50, .getfield 12, 640, 0, 0), (53, .iload_n 1, 0, 0, 0), (54, .iload_n 2, 0, 0, 0), (55, .invokevirtual 329, 0, 0, 0), (58, .istore_n 3, 0, 0, 0), (59, .aload_n 0, 0, 0, 0), (60, .getfield 66, 649, 0, 0), (63, .aload_n 0, 0, 0, 0), (64, .getfield 12, 640, 0, 0), (67, .iload_n 1, 0, 0, 0), (68, .iload_n 2, 0, 0, 0), (69, .invokevirtual 332, 0, 0, 0), (72, .istore 4, 0, 0, 0), (74, .aload_n 0, 0, 0, 0), (75, .getfield 19, 642, 0, 0), (78, .aload_n 0, 0, 0, 0), (79, .getfield 12, 640, 0, 0), (82, .invokevirtual 204, 0, 0, 0), (85, .iconst 0, 0, 0, 0), (86, .istore 5, 0, 0, 0), (88, .iload 5, 0, 0, 0), (90, .bipush 99, 0, 99, 0), (92, .if_icmp .gt 58, 150, 0, 0), (95, .aload_n 0, 0, 0, 0), (96, .getfield 66, 649, 0, 0), (99, .aload_n 0, 0, 0, 0), (100, .getfield 19, 642, 0, 0), (103, .iload_n 1, 0, 0, 0), (104, .iload_n 2, 0, 0, 0), (105, .invokevirtual 239, 0, 0, 0), (108, .istore 6, 0, 0, 0), (110, .iload 6, 0, 0, 0), (112, .ifCond .lt 12, 124, 0, 0), (115, .iload 6, 0, 0, 0), (117, .iload_n 3, 0, 0, 0), (118, .if_icmp .gt 6, 124, 0, 0), (121, .iload 5, 0, 0, 0), (123, .ireturn, 0, 0, 0), (124, .aload_n 0, 0, 0, 0), (125, .getfield 19, 642, 0, 0), (128, .iload_n 1, 0, 0, 0), (129, .iload 4, 0, 0, 0), (131, .invokevirtual 335, 0, 0, 0), (134, .aload_n 0, 0, 0, 0), (135, .getfield 19, 642, 0, 0), (138, .iload_n 2, 0, 0, 0), (139, .iload 4, 0, 0, 0), (141, .invokevirtual 335, 0, 0, 0), (144, .iinc 5 1, 0, 1, 0), (147, .goto (-59), 88, 0, 0), (150, .bipush (-2), 0, (-2), 0), (152, .ireturn, 0, 0, 0)]
set_option maxRecDepth 20000 in
theorem bk_Pz_worn : BK m_Pz_worn cd_Pz_worn := ⟨pl_X11, pk_X11, fun E hE => (show ∀ E ∈ cd_Pz_worn, decode cX11_worn E.1 = .ok (E.2.1, ilen E.2.1) ∧ exE pl_X11 E.1 E.2.1 E.2.2.1 E.2.2.2.1 E.2.2.2.2 = true by decide +kernel) E hE⟩
theorem nk_Pz_worn : NK m_Pz_worn 2 := ⟨tw1150, tw111, ⟨by decide +kernel, by decide +kernel⟩, by decide +kernel, Nat.le_of_ble_eq_true rfl⟩
def m_Pz_cut : Mth := (yX11_cut, cX11_cut, 7, none, RX11)
def cd_Pz_cut : List ME := [(0, .iload_n 1, 0, 0, 0), (1, .bipush 14, 0, 14, 0), (3, .idiv, 0, 0, 0), (4, .istore_n 3, 0, 0, 0), (5, .iload_n 1, 0, 0, 0), (6, .bipush 14, 0, 14, 0), (8, .irem, 0, 0, 0), (9, .bipush 7, 0, 7, 0), (11, .idiv, 0, 0, 0), (12, .istore 4, 0, 0, 0), (14, .iload_n 1, 0, 0, 0), (15, .bipush 7, 0, 7, 0), (17, .irem, 0, 0, 0), (18, .iconst 3, 0, 3, 0), (19, .isub, 0, 0, 0), (20, .istore 5, 0, 0, 0), (22, .iconst 0, 0, 0, 0), (23, .istore 6, 0, 0, 0), (25, .iload 6, 0, 0, 0), (27, .bipush 8, 0, 8, 0), (29, .if_icmp .ge 41, 70, 0, 0), (32, .aload_n 0, 0, 0, 0), (33, .getfield 100, 654, 0, 0), (36, .iload 6, 0, 0, 0), (38, .iload_n 3, 0, 0, 0), (39, .iadd, 0, 0, 0), (40, .bipush 7, 0, 7, 0), (42, .iand, 0, 0, 0), (43, .iload 4, 0, 0, 0), (45, .ifCond .ne 10, 55, 0, 0), (48, .aload_n 2, 0, 0, 0), (49, .iload 6, 0, 0, 0), (51, .iaload, 8, 0, 0), (52, .goto 8, 60, 0, 0), (55, .aload_n 2, 0, 0, 0), (56, .iload 6, 0, 0, 0), (58, .iaload, 8, 0, 0), (59, .ineg, 0, 0, 0), (60, .iload 5, 0, 0, 0), (62, .iadd, 0, 0, 0), (63, .iastore, 8, 0, 0), (64, .iinc 6 1, 0, 1, 0), (67, .goto (-42), 25, 0, 0), (70, .return_, 0, 0, 0)]
set_option maxRecDepth 20000 in
theorem bk_Pz_cut : BK m_Pz_cut cd_Pz_cut := ⟨pl_X11, pk_X11, fun E hE => (show ∀ E ∈ cd_Pz_cut, decode cX11_cut E.1 = .ok (E.2.1, ilen E.2.1) ∧ exE pl_X11 E.1 E.2.1 E.2.2.1 E.2.2.2.1 E.2.2.2.2 = true by decide +kernel) E hE⟩
theorem nk_Pz_cut : NK m_Pz_cut 2 := ⟨tw1165, tw111, ⟨by decide +kernel, by decide +kernel⟩, by decide +kernel, Nat.le_of_ble_eq_true rfl⟩
def m_Pz_sameRow : Mth := (yX11_sameRow, cX11_sameRow, 3, some .boolean, RX11)
def cd_Pz_sameRow : List ME := [(0, .iconst 0, 0, 0, 0), (1, .istore_n 2, 0, 0, 0), (2, .iload_n 2, 0, 0, 0), (3, .bipush 8, 0, 8, 0), (5, .if_icmp .ge 20, 25, 0, 0), (8, .aload_n 0, 0, 0, 0), (9, .iload_n 2, 0, 0, 0), (10, .iaload, 8, 0, 0), (11, .aload_n 1, 0, 0, 0), (12, .iload_n 2, 0, 0, 0), (13, .iaload, 8, 0, 0), (14, .if_icmp .eq 5, 19, 0, 0), (17, .iconst 0, 0, 0, 0), (18, .ireturn, 0, 0, 0), (19, .iinc 2 1, 0, 1, 0), (22, .goto (-20), 2, 0, 0), (25, .iconst 1, 0, 1, 0), (26, .ireturn, 0, 0, 0)]
set_option maxRecDepth 20000 in
theorem bk_Pz_sameRow : BK m_Pz_sameRow cd_Pz_sameRow := ⟨pl_X11, pk_X11, fun E hE => (show ∀ E ∈ cd_Pz_sameRow, decode cX11_sameRow E.1 = .ok (E.2.1, ilen E.2.1) ∧ exE pl_X11 E.1 E.2.1 E.2.2.1 E.2.2.2.1 E.2.2.2.2 = true by decide +kernel) E hE⟩
theorem nk_Pz_sameRow : NK m_Pz_sameRow 2 := ⟨tw1168, tw111, ⟨by decide +kernel, by decide +kernel⟩, by decide +kernel, Nat.le_of_ble_eq_true rfl⟩
def m_Pz_rulesAll : Mth := (yX11_rulesAll, cX11_rulesAll, 6, some .boolean, RX11)
def cd_Pz_rulesAll : List ME := [(0, .iconst 0, 0, 0, 0), (1, .istore_n 3, 0, 0, 0), (2, .iload_n 3, 0, 0, 0), (3, .iload_n 2, 0, 0, 0), (4, .if_icmp .ge 92, 96, 0, 0), (7, .aload_n 0, 0, 0, 0), (8, .getfield 29, 644, 0, 0), (11, .getfield 338, 576, 0, 0), (14, .iconst 2, 0, 2, 0), (15, .iload_n 3, 0, 0, 0), (16, .imul, 0, 0, 0), (17, .iaload, 260, 0, 0), (18, .istore 4, 0, 0, 0), (20, .aload_n 0, 0, 0, 0), (21, .getfield 29, 644, 0, 0), (24, .getfield 338, 576, 0, 0), (27, .iconst 2, 0, 2, 0), (28, .iload_n 3, 0, 0, 0), (29, .imul, 0, 0, 0), (30, .iconst 1, 0, 1, 0), (31, .iadd, 0, 0, 0), (32, .iaload, 260, 0, 0), (33, .istore 5, 0, 0, 0), (35, .iload 4, 0, 0, 0), (37, .invokestatic 104, 0, 0, 0), (40, .ifCond .eq 11, 51, 0, 0), (43, .iload 5, 0, 0, 0), (45, .invokestatic 104, 0, 0, 0), (48, .ifCond .ne 5, 53, 0, 0), (51, .iconst 0, 0, 0, 0), (52, .ireturn, 0, 0, 0), (53, .aload_n 0, 0, 0, 0), (54, .iload_n 1, 0, 0, 0), (55, .aload_n 0, 0, 0, 0), (56, .getfield 12, 640, 0, 0), (59, .getfield 163, 201, 0, 0), (62, .iload 4, 0, 0, 0), (64, .aaload, 12, 0, 0), (65, .invokevirtual 348, 0, 0, 0), (68, .aload_n 0, 0, 0, 0), (69, .getfield 100, 654, 0, 0), (72, .aload_n 0, 0, 0, 0), (73, .getfield 12, 640, 0, 0), (76, .getfield 163, 201, 0, 0), (79, .iload 5, 0, 0, 0), (81, .aaload, 12, 0, 0), (82, .invokestatic 352, 0, 0, 0), (85, .ifCond .ne 5, 90, 0, 0), (88, .iconst 0, 0, 0, 0), (89, .ireturn, 0, 0, 0), (90, .iinc 3 1, 0, 1, 0), (93, .goto (-91), 2, 0, 0), (96, .iconst 1, 0, 1, 0), (97, .ireturn, 0, 0, 0)]
set_option maxRecDepth 20000 in
theorem bk_Pz_rulesAll : BK m_Pz_rulesAll cd_Pz_rulesAll := ⟨pl_X11, pk_X11, fun E hE => (show ∀ E ∈ cd_Pz_rulesAll, decode cX11_rulesAll E.1 = .ok (E.2.1, ilen E.2.1) ∧ exE pl_X11 E.1 E.2.1 E.2.2.1 E.2.2.2.1 E.2.2.2.2 = true by decide +kernel) E hE⟩
theorem nk_Pz_rulesAll : NK m_Pz_rulesAll 2 := ⟨tw1161, tw111, ⟨by decide +kernel, by decide +kernel⟩, by decide +kernel, Nat.le_of_ble_eq_true rfl⟩
def m_Pz_madeBy : Mth := (yX11_madeBy, cX11_madeBy, 4, some .int, RX11)
def cd_Pz_madeBy : List ME := [(0, .iload_n 2, 0, 0, 0), (1, .invokestatic 104, 0, 0, 0), (4, .ifCond .ne 6, 10, 0, 0), (7, .bipush (-2), 0, (-2), 0), (9, .ireturn, 0, 0, 0), (10, .aload_n 0, 0, 0, 0), (11, .iload_n 1, 0, 0, 0), (12, .aload_n 0, 0, 0, 0), (13, .getfield 12, 640, 0, 0), (16, .getfield 163, 201, 0, 0), (19, .iload_n 2, 0, 0, 0), (20, .aaload, 12, 0, 0), (21, .invokevirtual 348, 0, 0, 0), (24, .iconst 0, 0, 0, 0), (25, .istore_n 3, 0, 0, 0), (26, .iload_n 3, 0, 0, 0), (27, .bipush 12, 0, 12, 0), (29, .if_icmp .ge 30, 59, 0, 0), (32, .aload_n 0, 0, 0, 0), (33, .getfield 100, 654, 0, 0), (36, .aload_n 0, 0, 0, 0), (37, .getfield 12, 640, 0, 0), (40, .getfield 163, 201, 0, 0), (43, .iload_n 3, 0, 0, 0), (44, .aaload, 12, 0, 0), (45, .invokestatic 352, 0, 0, 0), (48, .ifCond .eq 5, 53, 0, 0), (51, .iload_n 3, 0, 0, 0), (52, .ireturn, 0, 0, 0), (53, .iinc 3 1, 0, 1, 0), (56, .goto (-30), 26, 0, 0), (59, .bipush (-2), 0, (-2), 0), (61, .ireturn, 0, 0, 0)]
set_option maxRecDepth 20000 in
theorem bk_Pz_madeBy : BK m_Pz_madeBy cd_Pz_madeBy := ⟨pl_X11, pk_X11, fun E hE => (show ∀ E ∈ cd_Pz_madeBy, decode cX11_madeBy E.1 = .ok (E.2.1, ilen E.2.1) ∧ exE pl_X11 E.1 E.2.1 E.2.2.1 E.2.2.2.1 E.2.2.2.2 = true by decide +kernel) E hE⟩
theorem nk_Pz_madeBy : NK m_Pz_madeBy 2 := ⟨tw1172, tw111, ⟨by decide +kernel, by decide +kernel⟩, by decide +kernel, Nat.le_of_ble_eq_true rfl⟩
def m_Pz_cutter : Mth := (yX11_cutter, cX11_cutter, 7, some .int, RX11)
def cd_Pz_cutter : List ME := [(0, .iload_n 2, 0, 0, 0), (1, .bipush 10, 0, 10, 0), (3, .if_icmp .lt 13, 16, 0, 0), (6, .iload_n 2, 0, 0, 0), (7, .bipush 22, 0, 22, 0), (9, .if_icmp .ge 7, 16, 0, 0), (12, .iconst 1, 0, 1, 0), (13, .goto 4, 17, 0, 0), (16, .iconst 0, 0, 0, 0), (17, .istore_n 3, 0, 0, 0), (18, .iload_n 1, 0, 0, 0), (19, .iconst 1, 0, 1, 0), (20, .if_icmp .lt 34, 54, 0, 0), (23, .iload_n 1, 0, 0, 0), (24, .iconst 5, 0, 5, 0), (25, .if_icmp .gt 29, 54, 0, 0), (28, .iconst 2, 0, 2, 0), (29, .iload_n 1, 0, 0, 0), (30, .imul, 0, 0, 0), (31, .aload_n 0, 0, 0, 0), (32, .getfield 29, 644, 0, 0), (35, .getfield 141, 577, 0, 0), (38, .if_icmp .gt 16, 54, 0, 0), (41, .iload_n 2, 0, 0, 0), (42, .ifCond .eq 14, 56, 0, 0), (45, .iload_n 2, 0, 0, 0), (46, .iconst 1, 0, 1, 0), (47, .if_icmp .eq 9, 56, 0, 0), (50, .iload_n 3, 0, 0, 0), (51, .ifCond .ne 5, 56, 0, 0), (54, .iconst (-1), 0, (-1), 0), (55, .ireturn, 0, 0, 0), (56, .aload_n 0, 0, 0, 0), (57, .getfield 29, 644, 0, 0), (60, .iconst 0, 0, 0, 0), (61, .putfield 141, 577, 0, 0), (64, .iconst 0, 0, 0, 0), (65, .istore 4, 0, 0, 0), (67, .iload 4, 0, 0, 0), (69, .iload_n 1, 0, 0, 0), (70, .if_icmp .ge 77, 147, 0, 0), (73, .aload_n 0, 0, 0, 0), (74, .getfield 29, 644, 0, 0), (77, .getfield 338, 576, 0, 0), (80, .iconst 2, 0, 2, 0), (81, .iload 4, 0, 0, 0), (83, .imul, 0, 0, 0), (84, .iaload, 260, 0, 0), (85, .bipush 12, 0, 12, 0), (87, .if_icmp .ge 51, 138, 0, 0), (90, .aload_n 0, 0, 0, 0), (91, .getfield 29, 644, 0, 0), (94, .getfield 338, 576, 0, 0), (97, .iconst 2, 0, 2, 0), (98, .iload 4, 0, 0, 0), (100, .imul, 0, 0, 0), (101, .iconst 1, 0, 1, 0), (102, .iadd, 0, 0, 0), (103, .iaload, 260, 0, 0), (104, .bipush 12, 0, 12, 0), (106, .if_icmp .ge 32, 138, 0, 0), (109, .aload_n 0, 0, 0, 0), (110, .getfield 29, 644, 0, 0), (113, .getfield 338, 576, 0, 0), (116, .iconst 2, 0, 2, 0), (117, .iload 4, 0, 0, 0), (119, .imul, 0, 0, 0), (120, .iaload, 260, 0, 0), (121, .aload_n 0, 0, 0, 0), (122, .getfield 29, 644, 0, 0), (125, .getfield 338, 576, 0, 0), (128, .iconst 2, 0, 2, 0), (129, .iload 4, 0, 0, 0), (131, .imul, 0, 0, 0), (132, .iconst 1, 0, 1, 0), (133, .iadd, 0, 0, 0), (134, .iaload, 260, 0, 0), (135, .if_icmp .ne 6, 141, 0, 0), (138, .bipush (-3), 0, (-3), 0), (140, .ireturn, 0, 0, 0), (141, .iinc 4 1, 0, 1, 0), (144, .goto (-77), 67, 0, 0), (147, .iconst 0, 0, 0, 0), (148, .istore 4, 0, 0, 0), (150, .bipush (-2), 0, (-2), 0), (152, .istore 5, 0, 0, 0), (154, .iconst 0, 0, 0, 0), (155, .istore 6, 0, 0, 0), (157, .iload 6, 0, 0, 0), (159, .bipush 112, 0, 112, 0), (161, .if_icmp .ge 36, 197, 0, 0), (164, .aload_n 0, 0, 0, 0), (165, .iload 6, 0, 0, 0), (167, .iload_n 1, 0, 0, 0), (168, .invokevirtual 341, 0, 0, 0), (171, .ifCond .eq 20, 191, 0, 0), (174, .iload 4, 0, 0, 0), (176, .ifCond .ne 8, 184, 0, 0), (179, .iload 6, 0, 0, 0), (181, .goto 5, 186, 0, 0), (184, .iload 5, 0, 0, 0), (186, .istore 5, 0, 0, 0), (188, .iinc 4 1, 0, 1, 0), (191, .iinc 6 1, 0, 1, 0), (194, .goto (-37), 157, 0, 0), (197, .iload_n 2, 0, 0, 0), (198, .ifCond .ne 6, 204, 0, 0), (201, .iload 4, 0, 0, 0), (203, .ireturn, 0, 0, 0), (204, .iload_n 3, 0, 0, 0), (205, .ifCond .eq 21, 226, 0, 0), (208, .iload 5, 0, 0, 0), (210, .ifCond .lt 16, 226, 0, 0), (213, .aload_n 0, 0, 0, 0), (214, .iload 5, 0, 0, 0), (216, .iload_n 2, 0, 0, 0), (217, .bipush 10, 0, 10, 0), (219, .isub, 0, 0, 0), (220, .invokevirtual 344, 0, 0, 0), (223, .goto 14, 237, 0, 0), (226, .iload_n 3, 0, 0, 0), (227, .ifCond .eq 8, 235, 0, 0), (230, .bipush (-2), 0, (-2), 0), (232, .goto 5, 237, 0, 0), (235, .iload 5, 0, 0, 0), (237, .ireturn, 0, 0, 0)]
set_option maxRecDepth 20000 in
theorem bk_Pz_cutter : BK m_Pz_cutter cd_Pz_cutter := ⟨pl_X11, pk_X11, fun E hE => (show ∀ E ∈ cd_Pz_cutter, decode cX11_cutter E.1 = .ok (E.2.1, ilen E.2.1) ∧ exE pl_X11 E.1 E.2.1 E.2.2.1 E.2.2.2.1 E.2.2.2.2 = true by decide +kernel) E hE⟩
theorem nk_Pz_cutter : NK m_Pz_cutter 2 := ⟨tw1157, tw111, ⟨by decide +kernel, by decide +kernel⟩, by decide +kernel, Nat.le_of_ble_eq_true rfl⟩
def m_Pz_copies : Mth := (yX11_copies, cX11_copies, 7, some .int, RX11)
def cd_Pz_copies : List ME := [(0, .iload_n 1, 0, 0, 0), (1, .ifCond .lt 8, 9, 0, 0), (4, .iload_n 1, 0, 0, 0), (5, .iconst 3, 0, 3, 0), (6, .if_icmp .le 5, 11, 0, 0), (9, .iconst (-1), 0, (-1), 0), (10, .ireturn, 0, 0, 0), (11, .iconst 0, 0, 0, 0), (12, .istore_n 2, 0, 0, 0), (13, .bipush (-2), 0, (-2), 0), (15, .istore_n 3, 0, 0, 0), (16, .iconst 0, 0, 0, 0), (17, .istore 4, 0, 0, 0), (19, .iload 4, 0, 0, 0), (21, .bipush 12, 0, 12, 0), (23, .if_icmp .ge 140, 163, 0, 0), (26, .iload 4, 0, 0, 0), (28, .iconst 1, 0, 1, 0), (29, .iadd, 0, 0, 0), (30, .istore 5, 0, 0, 0), (32, .iload 5, 0, 0, 0), (34, .bipush 12, 0, 12, 0), (36, .if_icmp .ge 121, 157, 0, 0), (39, .aload_n 0, 0, 0, 0), (40, .getfield 12, 640, 0, 0), (43, .iload 4, 0, 0, 0), (45, .invokevirtual 108, 0, 0, 0), (48, .ifCond .eq 103, 151, 0, 0), (51, .aload_n 0, 0, 0, 0), (52, .getfield 12, 640, 0, 0), (55, .iload 5, 0, 0, 0), (57, .invokevirtual 108, 0, 0, 0), (60, .ifCond .eq 91, 151, 0, 0), (63, .aload_n 0, 0, 0, 0), (64, .getfield 12, 640, 0, 0), (67, .getfield 163, 201, 0, 0), (70, .iload 4, 0, 0, 0), (72, .aaload, 12, 0, 0), (73, .aload_n 0, 0, 0, 0), (74, .getfield 12, 640, 0, 0), (77, .getfield 163, 201, 0, 0), (80, .iload 5, 0, 0, 0), (82, .aaload, 12, 0, 0), (83, .invokestatic 352, 0, 0, 0), (86, .ifCond .eq 65, 151, 0, 0), (89, .iload_n 2, 0, 0, 0), (90, .ifCond .ne 58, 148, 0, 0), (93, .aload_n 0, 0, 0, 0), (94, .getfield 12, 640, 0, 0), (97, .getfield 124, 200, 0, 0), (100, .iload 4, 0, 0, 0), (102, .iaload, 12, 0, 0), (103, .aload_n 0, 0, 0, 0), (104, .getfield 12, 640, 0, 0), (107, .getfield 124, 200, 0, 0), (110, .iload 5, 0, 0, 0), (112, .iaload, 12, 0, 0), (113, .if_icmp .ge 8, 121, 0, 0), (116, .iload 4, 0, 0, 0), (118, .goto 5, 123, 0, 0), (121, .iload 5, 0, 0, 0), (123, .istore 6, 0, 0, 0), (125, .iload_n 1, 0, 0, 0), (126, .iconst 1, 0, 1, 0), (127, .if_icmp .ne 8, 135, 0, 0), (130, .iload 4, 0, 0, 0), (132, .goto 15, 147, 0, 0), (135, .iload_n 1, 0, 0, 0), (136, .iconst 2, 0, 2, 0), (137, .if_icmp .ne 8, 145, 0, 0), (140, .iload 5, 0, 0, 0), (142, .goto 5, 147, 0, 0), (145, .iload 6, 0, 0, 0), (147, .istore_n 3, 0, 0, 0), (148, .iinc 2 1, 0, 1, 0), (151, .iinc 5 1, 0, 1, 0), (154, .goto (-122), 32, 0, 0), (157, .iinc 4 1, 0, 1, 0), (160, .goto (-141), 19, 0, 0), (163, .iload_n 1, 0, 0, 0), (164, .ifCond .ne 7, 171, 0, 0), (167, .iload_n 2, 0, 0, 0), (168, .goto 4, 172, 0, 0), (171, .iload_n 3, 0, 0, 0), (172, .ireturn, 0, 0, 0)]
set_option maxRecDepth 20000 in
theorem bk_Pz_copies : BK m_Pz_copies cd_Pz_copies := ⟨pl_X11, pk_X11, fun E hE => (show ∀ E ∈ cd_Pz_copies, decode cX11_copies E.1 = .ok (E.2.1, ilen E.2.1) ∧ exE pl_X11 E.1 E.2.1 E.2.2.1 E.2.2.2.1 E.2.2.2.2 = true by decide +kernel) E hE⟩
theorem nk_Pz_copies : NK m_Pz_copies 1 := ⟨tw1176, tw111, ⟨by decide +kernel, by decide +kernel⟩, by decide +kernel, Nat.le_of_ble_eq_true rfl⟩
def m_Pz_mate : Mth := (yX11_mate, cX11_mate, 3, some .int, RX11)
def cd_Pz_mate : List ME := [(0, .iload_n 1, 0, 0, 0), (1, .invokestatic 104, 0, 0, 0), (4, .ifCond .eq 13, 17, 0, 0), (7, .iload_n 2, 0, 0, 0), (8, .ifCond .lt 9, 17, 0, 0), (11, .iload_n 2, 0, 0, 0), (12, .bipush 8, 0, 8, 0), (14, .if_icmp .lt 5, 19, 0, 0), (17, .iconst (-1), 0, (-1), 0), (18, .ireturn, 0, 0, 0), (19, .bipush 10, 0, 10, 0), (21, .aload_n 0, 0, 0, 0), (22, .getfield 12, 640, 0, 0), (25, .getfield 163, 201, 0, 0), (28, .iload_n 1, 0, 0, 0), (29, .aaload, 12, 0, 0), (30, .bipush 7, 0, 7, 0), (32, .iload_n 2, 0, 0, 0), (33, .isub, 0, 0, 0), (34, .iaload, 8, 0, 0), (35, .isub, 0, 0, 0), (36, .ireturn, 0, 0, 0)]
set_option maxRecDepth 20000 in
theorem bk_Pz_mate : BK m_Pz_mate cd_Pz_mate := ⟨pl_X11, pk_X11, fun E hE => (show ∀ E ∈ cd_Pz_mate, decode cX11_mate E.1 = .ok (E.2.1, ilen E.2.1) ∧ exE pl_X11 E.1 E.2.1 E.2.2.1 E.2.2.2.1 E.2.2.2.2 = true by decide +kernel) E hE⟩
theorem nk_Pz_mate : NK m_Pz_mate 2 := ⟨tw1180, tw111, ⟨by decide +kernel, by decide +kernel⟩, by decide +kernel, Nat.le_of_ble_eq_true rfl⟩
def m_Pz_seed : Mth := (yX11_seed, cX11_seed, 2, some .boolean, RX11)
def cd_Pz_seed : List ME := [(0, .iload_n 1, 0, 0, 0), (1, .ifCond .lt 10, 11, 0, 0), (4, .iload_n 1, 0, 0, 0), (5, .ldc_w 356, 0, 65535, 0), (8, .if_icmp .le 5, 13, 0, 0), (11, .iconst 0, 0, 0, 0), (12, .ireturn, 0, 0, 0), (13, .aload_n 0, 0, 0, 0), (14, .getfield 12, 640, 0, 0), (17, .iload_n 1, 0, 0, 0), (18, .putfield 357, 206, 0, 0), (21, .iconst 1, 0, 1, 0), (22, .ireturn, 0, 0, 0)]
set_option maxRecDepth 20000 in
theorem bk_Pz_seed : BK m_Pz_seed cd_Pz_seed := ⟨pl_X11, pk_X11, fun E hE => (show ∀ E ∈ cd_Pz_seed, decode cX11_seed E.1 = .ok (E.2.1, ilen E.2.1) ∧ exE pl_X11 E.1 E.2.1 E.2.2.1 E.2.2.2.1 E.2.2.2.2 = true by decide +kernel) E hE⟩
theorem nk_Pz_seed : NK m_Pz_seed 1 := ⟨tw1184, tw111, ⟨by decide +kernel, by decide +kernel⟩, by decide +kernel, Nat.le_of_ble_eq_true rfl⟩
def m_Pz_keep : Mth := (yX11_keep, cX11_keep, 1, some .int, RX11)
def cd_Pz_keep : List ME := [(0, .aload_n 0, 0, 0, 0), (1, .getfield 16, 641, 0, 0), (4, .aload_n 0, 0, 0, 0), (5, .getfield 12, 640, 0, 0), (8, .invokevirtual 204, 0, 0, 0), (11, .aload_n 0, 0, 0, 0), (12, .iconst 1, 0, 1, 0), (13, .putfield 22, 643, 0, 0), (16, .aload_n 0, 0, 0, 0), (17, .getfield 12, 640, 0, 0), (20, .invokevirtual 216, 0, 0, 0), (23, .ireturn, 0, 0, 0)]
set_option maxRecDepth 20000 in
theorem bk_Pz_keep : BK m_Pz_keep cd_Pz_keep := ⟨pl_X11, pk_X11, fun E hE => (show ∀ E ∈ cd_Pz_keep, decode cX11_keep E.1 = .ok (E.2.1, ilen E.2.1) ∧ exE pl_X11 E.1 E.2.1 E.2.2.1 E.2.2.2.1 E.2.2.2.2 = true by decide +kernel) E hE⟩
theorem nk_Pz_keep : NK m_Pz_keep 0 := ⟨tw1189, tw111, ⟨by decide +kernel, by decide +kernel⟩, by decide +kernel, Nat.le_of_ble_eq_true rfl⟩
def m_Pz_undo : Mth := (yX11_undo, cX11_undo, 1, some .boolean, RX11)
def cd_Pz_undo : List ME := [(0, .aload_n 0, 0, 0, 0), (1, .getfield 22, 643, 0, 0), (4, .ifCond .ne 5, 9, 0, 0), (7, .iconst 0, 0, 0, 0), (8, .ireturn, 0, 0, 0), (9, .aload_n 0, 0, 0, 0), (10, .getfield 12, 640, 0, 0), (13, .aload_n 0, 0, 0, 0), (14, .getfield 16, 641, 0, 0), (17, .invokevirtual 204, 0, 0, 0), (20, .iconst 1, 0, 1, 0), (21, .ireturn, 0, 0, 0)]
set_option maxRecDepth 20000 in
theorem bk_Pz_undo : BK m_Pz_undo cd_Pz_undo := ⟨pl_X11, pk_X11, fun E hE => (show ∀ E ∈ cd_Pz_undo, decode cX11_undo E.1 = .ok (E.2.1, ilen E.2.1) ∧ exE pl_X11 E.1 E.2.1 E.2.2.1 E.2.2.2.1 E.2.2.2.2 = true by decide +kernel) E hE⟩
theorem nk_Pz_undo : NK m_Pz_undo 0 := ⟨tw1193, tw111, ⟨by decide +kernel, by decide +kernel⟩, by decide +kernel, Nat.le_of_ble_eq_true rfl⟩
def m_Pz_check : Mth := (yX11_check, cX11_check, 4, some .int, RX11)
def cd_Pz_check : List ME := [(0, .iload_n 1, 0, 0, 0), (1, .invokestatic 104, 0, 0, 0), (4, .ifCond .eq 24, 28, 0, 0), (7, .iload_n 2, 0, 0, 0), (8, .ifCond .lt 20, 28, 0, 0), (11, .iload_n 2, 0, 0, 0), (12, .bipush 8, 0, 8, 0), (14, .if_icmp .gt 14, 28, 0, 0), (17, .iload_n 2, 0, 0, 0), (18, .aload_n 0, 0, 0, 0), (19, .getfield 29, 644, 0, 0), (22, .getfield 141, 577, 0, 0), (25, .if_icmp .le 6, 31, 0, 0), (28, .bipush (-2), 0, (-2), 0), (30, .ireturn, 0, 0, 0), (31, .aload_n 0, 0, 0, 0), (32, .getfield 29, 644, 0, 0), (35, .iconst 0, 0, 0, 0), (36, .putfield 141, 577, 0, 0), (39, .iconst 0, 0, 0, 0), (40, .istore_n 3, 0, 0, 0), (41, .iload_n 3, 0, 0, 0), (42, .iload_n 2, 0, 0, 0), (43, .if_icmp .ge 37, 80, 0, 0), (46, .aload_n 0, 0, 0, 0), (47, .getfield 29, 644, 0, 0), (50, .getfield 338, 576, 0, 0), (53, .iload_n 3, 0, 0, 0), (54, .iaload, 260, 0, 0), (55, .aload_n 0, 0, 0, 0), (56, .getfield 12, 640, 0, 0), (59, .getfield 163, 201, 0, 0), (62, .iload_n 1, 0, 0, 0), (63, .aaload, 12, 0, 0), (64, .iload_n 3, 0, 0, 0), (65, .iaload, 8, 0, 0), (66, .bipush 9, 0, 9, 0), (68, .iadd, 0, 0, 0), (69, .if_icmp .eq 5, 74, 0, 0), (72, .iload_n 3, 0, 0, 0), (73, .ireturn, 0, 0, 0), (74, .iinc 3 1, 0, 1, 0), (77, .goto (-36), 41, 0, 0), (80, .iconst (-1), 0, (-1), 0), (81, .ireturn, 0, 0, 0)]
set_option maxRecDepth 20000 in
theorem bk_Pz_check : BK m_Pz_check cd_Pz_check := ⟨pl_X11, pk_X11, fun E hE => (show ∀ E ∈ cd_Pz_check, decode cX11_check E.1 = .ok (E.2.1, ilen E.2.1) ∧ exE pl_X11 E.1 E.2.1 E.2.2.1 E.2.2.2.1 E.2.2.2.2 = true by decide +kernel) E hE⟩
theorem nk_Pz_check : NK m_Pz_check 2 := ⟨tw1197, tw111, ⟨by decide +kernel, by decide +kernel⟩, by decide +kernel, Nat.le_of_ble_eq_true rfl⟩
def m_Land_whoIsIn : Mth := (yX3_whoIsIn, cX3_whoIsIn, 4, some .int, RX3)
def cd_Land_whoIsIn : List ME := [(0, .iconst 0, 0, 0, 0), (1, .istore_n 2, 0, 0, 0), (2, .iconst 0, 0, 0, 0), (3, .istore_n 3, 0, 0, 0), (4, .iload_n 3, 0, 0, 0), (5, .bipush 12, 0, 12, 0), (7, .if_icmp .ge 33, 40, 0, 0), (10, .aload_n 0, 0, 0, 0), (11, .iload_n 3, 0, 0, 0), (12, .invokevirtual 61, 0, 0, 0), (15, .ifCond .eq 19, 34, 0, 0), (18, .aload_n 0, 0, 0, 0), (19, .getfield 15, 195, 0, 0), (22, .iload_n 3, 0, 0, 0), (23, .iaload, 12, 0, 0), (24, .iload_n 1, 0, 0, 0), (25, .if_icmp .ne 9, 34, 0, 0), (28, .iload_n 2, 0, 0, 0), (29, .iconst 1, 0, 1, 0), (30, .iload_n 3, 0, 0, 0), (31, .ishl, 0, 0, 0), (32, .ior, 0, 0, 0), (33, .istore_n 2, 0, 0, 0), (34, .iinc 3 1, 0, 1, 0), (37, .goto (-33), 4, 0, 0), (40, .iload_n 2, 0, 0, 0), (41, .ireturn, 0, 0, 0)]
set_option maxRecDepth 20000 in
theorem bk_Land_whoIsIn : BK m_Land_whoIsIn cd_Land_whoIsIn := ⟨pl_X3, pk_X3, fun E hE => (show ∀ E ∈ cd_Land_whoIsIn, decode cX3_whoIsIn E.1 = .ok (E.2.1, ilen E.2.1) ∧ exE pl_X3 E.1 E.2.1 E.2.2.1 E.2.2.2.1 E.2.2.2.2 = true by decide +kernel) E hE⟩
theorem nk_Land_whoIsIn : NK m_Land_whoIsIn 1 := ⟨tw1205, tw112, ⟨by decide +kernel, by decide +kernel⟩, by decide +kernel, Nat.le_of_ble_eq_true rfl⟩
def m_Pz_count : Mth := (yX11_count, cX11_count, 2, some .int, RX11)
def cd_Pz_count : List ME := [(0, .iload_n 1, 0, 0, 0), (44, .aload_n 0, 0, 0, 0), (45, .getfield 12, 640, 0, 0), (48, .getfield 360, 205, 0, 0), (51, .ireturn, 0, 0, 0), (52, .aload_n 0, 0, 0, 0), (53, .getfield 12, 640, 0, 0), (56, .getfield 111, 192, 0, 0), (59, .ireturn, 0, 0, 0), (60, .aload_n 0, 0, 0, 0), (61, .getfield 12, 640, 0, 0), (64, .getfield 115, 193, 0, 0), (67, .ireturn, 0, 0, 0), (68, .aload_n 0, 0, 0, 0), (69, .getfield 12, 640, 0, 0), (72, .invokevirtual 216, 0, 0, 0), (75, .ireturn, 0, 0, 0), (76, .aload_n 0, 0, 0, 0), (77, .getfield 36, 645, 0, 0), (80, .getfield 156, 262, 0, 0), (83, .ireturn, 0, 0, 0), (84, .aload_n 0, 0, 0, 0), (85, .getfield 29, 644, 0, 0), (88, .getfield 141, 577, 0, 0), (91, .ireturn, 0, 0, 0), (92, .aload_n 0, 0, 0, 0), (93, .getfield 12, 640, 0, 0), (96, .getfield 357, 206, 0, 0), (99, .ireturn, 0, 0, 0), (100, .iload_n 1, 0, 0, 0), (101, .bipush 10, 0, 10, 0), (103, .if_icmp .lt 23, 126, 0, 0), (106, .iload_n 1, 0, 0, 0), (107, .bipush 16, 0, 16, 0), (109, .if_icmp .ge 17, 126, 0, 0), (112, .aload_n 0, 0, 0, 0), (113, .getfield 12, 640, 0, 0), (116, .iload_n 1, 0, 0, 0), (117, .bipush 10, 0, 10, 0), (119, .isub, 0, 0, 0), (120, .invokevirtual 363, 0, 0, 0), (123, .goto 4, 127, 0, 0), (126, .iconst (-1), 0, (-1), 0), (127, .ireturn, 0, 0, 0)]
set_option maxRecDepth 20000 in
theorem bk_Pz_count : BK m_Pz_count cd_Pz_count := ⟨pl_X11, pk_X11, fun E hE => (show ∀ E ∈ cd_Pz_count, decode cX11_count E.1 = .ok (E.2.1, ilen E.2.1) ∧ exE pl_X11 E.1 E.2.1 E.2.2.1 E.2.2.2.1 E.2.2.2.2 = true by decide +kernel) E hE⟩
theorem nk_Pz_count : NK m_Pz_count 1 := ⟨tw1201, tw111, ⟨by decide +kernel, by decide +kernel⟩, by decide +kernel, Nat.le_of_ble_eq_true rfl⟩
def m_Md_isTwelve : Mth := (yX12_isTwelve, cX12_isTwelve, 1, some .boolean, RX12)
def cd_Md_isTwelve : List ME := [(0, .iload_n 0, 0, 0, 0), (1, .ifCond .lt 13, 14, 0, 0), (4, .iload_n 0, 0, 0, 0), (5, .bipush 12, 0, 12, 0), (7, .if_icmp .ge 7, 14, 0, 0), (10, .iconst 1, 0, 1, 0), (11, .goto 4, 15, 0, 0), (14, .iconst 0, 0, 0, 0), (15, .ireturn, 0, 0, 0)]
set_option maxRecDepth 20000 in
theorem bk_Md_isTwelve : BK m_Md_isTwelve cd_Md_isTwelve := ⟨pl_X12, pk_X12, fun E hE => (show ∀ E ∈ cd_Md_isTwelve, decode cX12_isTwelve E.1 = .ok (E.2.1, ilen E.2.1) ∧ exE pl_X12 E.1 E.2.1 E.2.2.1 E.2.2.2.1 E.2.2.2.2 = true by decide +kernel) E hE⟩
theorem nk_Md_isTwelve : NK m_Md_isTwelve 1 := ⟨tw1362, tw123, ⟨by decide +kernel, by decide +kernel⟩, by decide +kernel, Nat.le_of_ble_eq_true rfl⟩
def m_Md_has : Mth := (yX12_has, cX12_has, 2, some .boolean, RX12)
def cd_Md_has : List ME := [(0, .iload_n 0, 0, 0, 0), (1, .iload_n 1, 0, 0, 0), (2, .ishr, 0, 0, 0), (3, .iconst 1, 0, 1, 0), (4, .iand, 0, 0, 0), (5, .iconst 1, 0, 1, 0), (6, .if_icmp .ne 7, 13, 0, 0), (9, .iconst 1, 0, 1, 0), (10, .goto 4, 14, 0, 0), (13, .iconst 0, 0, 0, 0), (14, .ireturn, 0, 0, 0)]
set_option maxRecDepth 20000 in
theorem bk_Md_has : BK m_Md_has cd_Md_has := ⟨pl_X12, pk_X12, fun E hE => (show ∀ E ∈ cd_Md_has, decode cX12_has E.1 = .ok (E.2.1, ilen E.2.1) ∧ exE pl_X12 E.1 E.2.1 E.2.2.1 E.2.2.2.1 E.2.2.2.2 = true by decide +kernel) E hE⟩
theorem nk_Md_has : NK m_Md_has 2 := ⟨tw1369, tw123, ⟨by decide +kernel, by decide +kernel⟩, by decide +kernel, Nat.le_of_ble_eq_true rfl⟩
def m_Md_isPerson : Mth := (yX12_isPerson, cX12_isPerson, 2, some .boolean, RX12)
def cd_Md_isPerson : List ME := [(0, .iload_n 1, 0, 0, 0), (1, .invokestatic 97, 0, 0, 0), (4, .ifCond .eq 21, 25, 0, 0), (7, .aload_n 0, 0, 0, 0), (8, .getfield 7, 704, 0, 0), (11, .bipush 108, 0, 108, 0), (13, .iaload, 1936, 0, 0), (14, .iload_n 1, 0, 0, 0), (15, .invokestatic 101, 0, 0, 0), (18, .ifCond .eq 7, 25, 0, 0), (21, .iconst 1, 0, 1, 0), (22, .goto 4, 26, 0, 0), (25, .iconst 0, 0, 0, 0), (26, .ireturn, 0, 0, 0)]
set_option maxRecDepth 20000 in
theorem bk_Md_isPerson : BK m_Md_isPerson cd_Md_isPerson := ⟨pl_X12, pk_X12, fun E hE => (show ∀ E ∈ cd_Md_isPerson, decode cX12_isPerson E.1 = .ok (E.2.1, ilen E.2.1) ∧ exE pl_X12 E.1 E.2.1 E.2.2.1 E.2.2.2.1 E.2.2.2.2 = true by decide +kernel) E hE⟩
theorem nk_Md_isPerson : NK m_Md_isPerson 1 := ⟨tw1366, tw123, ⟨by decide +kernel, by decide +kernel⟩, by decide +kernel, Nat.le_of_ble_eq_true rfl⟩
def m_Md_in : Mth := (yX12_in, cX12_in, 3, some .boolean, RX12)
def cd_Md_in : List ME := [(0, .iload_n 0, 0, 0, 0), (1, .iload_n 1, 0, 0, 0), (2, .if_icmp .lt 12, 14, 0, 0), (5, .iload_n 0, 0, 0, 0), (6, .iload_n 2, 0, 0, 0), (7, .if_icmp .gt 7, 14, 0, 0), (10, .iconst 1, 0, 1, 0), (11, .goto 4, 15, 0, 0), (14, .iconst 0, 0, 0, 0), (15, .ireturn, 0, 0, 0)]
set_option maxRecDepth 20000 in
theorem bk_Md_in : BK m_Md_in cd_Md_in := ⟨pl_X12, pk_X12, fun E hE => (show ∀ E ∈ cd_Md_in, decode cX12_in E.1 = .ok (E.2.1, ilen E.2.1) ∧ exE pl_X12 E.1 E.2.1 E.2.2.1 E.2.2.2.1 E.2.2.2.2 = true by decide +kernel) E hE⟩
theorem nk_Md_in : NK m_Md_in 3 := ⟨tw1372, tw123, ⟨by decide +kernel, by decide +kernel⟩, by decide +kernel, Nat.le_of_ble_eq_true rfl⟩
def m_Md_person : Mth := (yX12_person, cX12_person, 4, some .boolean, RX12)
def cd_Md_person : List ME := [(0, .iload_n 1, 0, 0, 0), (1, .invokestatic 97, 0, 0, 0), (4, .ifCond .eq 29, 33, 0, 0), (7, .aload_n 0, 0, 0, 0), (8, .iload_n 1, 0, 0, 0), (9, .invokevirtual 105, 0, 0, 0), (12, .ifCond .ne 21, 33, 0, 0), (15, .iload_n 2, 0, 0, 0), (16, .iconst 0, 0, 0, 0), (17, .iconst 1, 0, 1, 0), (18, .invokestatic 111, 0, 0, 0), (21, .ifCond .eq 12, 33, 0, 0), (24, .iload_n 3, 0, 0, 0), (25, .iconst 0, 0, 0, 0), (26, .iconst 5, 0, 5, 0), (27, .invokestatic 111, 0, 0, 0), (30, .ifCond .ne 5, 35, 0, 0), (33, .iconst 0, 0, 0, 0), (34, .ireturn, 0, 0, 0), (35, .aload_n 0, 0, 0, 0), (36, .getfield 7, 704, 0, 0), (39, .bipush 108, 0, 108, 0), (41, .aload_n 0, 0, 0, 0), (42, .getfield 7, 704, 0, 0), (45, .bipush 108, 0, 108, 0), (47, .iaload, 1936, 0, 0), (48, .iconst 1, 0, 1, 0), (49, .iload_n 1, 0, 0, 0), (50, .ishl, 0, 0, 0), (51, .ior, 0, 0, 0), (52, .iastore, 1936, 0, 0), (53, .aload_n 0, 0, 0, 0), (54, .getfield 7, 704, 0, 0), (57, .bipush 109, 0, 109, 0), (59, .aload_n 0, 0, 0, 0), (60, .getfield 7, 704, 0, 0), (63, .bipush 109, 0, 109, 0), (65, .iaload, 1936, 0, 0), (66, .iconst 1, 0, 1, 0), (67, .iload_n 1, 0, 0, 0), (68, .ishl, 0, 0, 0), (69, .ior, 0, 0, 0), (70, .iastore, 1936, 0, 0), (71, .aload_n 0, 0, 0, 0), (72, .getfield 7, 704, 0, 0), (75, .iconst 0, 0, 0, 0), (76, .iload_n 1, 0, 0, 0), (77, .iadd, 0, 0, 0), (78, .iload_n 2, 0, 0, 0), (79, .iastore, 1936, 0, 0), (80, .aload_n 0, 0, 0, 0), (81, .getfield 7, 704, 0, 0), (84, .bipush 12, 0, 12, 0), (86, .iload_n 1, 0, 0, 0), (87, .iadd, 0, 0, 0), (88, .iload_n 3, 0, 0, 0), (89, .iastore, 1936, 0, 0), (90, .aload_n 0, 0, 0, 0), (91, .getfield 7, 704, 0, 0), (94, .bipush 48, 0, 48, 0), (96, .iload_n 1, 0, 0, 0), (97, .iadd, 0, 0, 0), (98, .iconst 1, 0, 1, 0), (99, .iload_n 1, 0, 0, 0), (100, .ishl, 0, 0, 0), (101, .iastore, 1936, 0, 0), (102, .iconst 1, 0, 1, 0), (103, .ireturn, 0, 0, 0)]
set_option maxRecDepth 20000 in
theorem bk_Md_person : BK m_Md_person cd_Md_person := ⟨pl_X12, pk_X12, fun E hE => (show ∀ E ∈ cd_Md_person, decode cX12_person E.1 = .ok (E.2.1, ilen E.2.1) ∧ exE pl_X12 E.1 E.2.1 E.2.2.1 E.2.2.2.1 E.2.2.2.2 = true by decide +kernel) E hE⟩
theorem nk_Md_person : NK m_Md_person 3 := ⟨tw1359, tw123, ⟨by decide +kernel, by decide +kernel⟩, by decide +kernel, Nat.le_of_ble_eq_true rfl⟩
def m_Md_wear : Mth := (yX12_wear, cX12_wear, 3, some .boolean, RX12)
def cd_Md_wear : List ME := [(0, .iload_n 1, 0, 0, 0), (1, .invokestatic 97, 0, 0, 0), (4, .ifCond .eq 13, 17, 0, 0), (7, .iload_n 2, 0, 0, 0), (8, .iconst 0, 0, 0, 0), (9, .bipush 99, 0, 99, 0), (11, .invokestatic 111, 0, 0, 0), (14, .ifCond .ne 5, 19, 0, 0), (17, .iconst 0, 0, 0, 0), (18, .ireturn, 0, 0, 0), (19, .aload_n 0, 0, 0, 0), (20, .getfield 7, 704, 0, 0), (23, .bipush 72, 0, 72, 0), (25, .iload_n 1, 0, 0, 0), (26, .iadd, 0, 0, 0), (27, .iload_n 2, 0, 0, 0), (28, .iastore, 1936, 0, 0), (29, .iconst 1, 0, 1, 0), (30, .ireturn, 0, 0, 0)]
set_option maxRecDepth 20000 in
theorem bk_Md_wear : BK m_Md_wear cd_Md_wear := ⟨pl_X12, pk_X12, fun E hE => (show ∀ E ∈ cd_Md_wear, decode cX12_wear E.1 = .ok (E.2.1, ilen E.2.1) ∧ exE pl_X12 E.1 E.2.1 E.2.2.1 E.2.2.2.1 E.2.2.2.2 = true by decide +kernel) E hE⟩
theorem nk_Md_wear : NK m_Md_wear 2 := ⟨tw1376, tw123, ⟨by decide +kernel, by decide +kernel⟩, by decide +kernel, Nat.le_of_ble_eq_true rfl⟩
def m_Md_lives : Mth := (yX12_lives, cX12_lives, 2, some .boolean, RX12)
def cd_Md_lives : List ME := [(0, .aload_n 0, 0, 0, 0), (1, .iload_n 1, 0, 0, 0), (2, .invokevirtual 105, 0, 0, 0), (5, .ifCond .eq 21, 26, 0, 0), (8, .aload_n 0, 0, 0, 0), (9, .getfield 7, 704, 0, 0), (12, .bipush 109, 0, 109, 0), (14, .iaload, 1936, 0, 0), (15, .iload_n 1, 0, 0, 0), (16, .invokestatic 101, 0, 0, 0), (19, .ifCond .eq 7, 26, 0, 0), (22, .iconst 1, 0, 1, 0), (23, .goto 4, 27, 0, 0), (26, .iconst 0, 0, 0, 0), (27, .ireturn, 0, 0, 0)]
set_option maxRecDepth 20000 in
theorem bk_Md_lives : BK m_Md_lives cd_Md_lives := ⟨pl_X12, pk_X12, fun E hE => (show ∀ E ∈ cd_Md_lives, decode cX12_lives E.1 = .ok (E.2.1, ilen E.2.1) ∧ exE pl_X12 E.1 E.2.1 E.2.2.1 E.2.2.2.1 E.2.2.2.2 = true by decide +kernel) E hE⟩
theorem nk_Md_lives : NK m_Md_lives 1 := ⟨tw1384, tw123, ⟨by decide +kernel, by decide +kernel⟩, by decide +kernel, Nat.le_of_ble_eq_true rfl⟩
def m_Md_parts : Mth := (yX12_parts, cX12_parts, 3, none, RX12)
def cd_Md_parts : List ME := [(0, .aload_n 0, 0, 0, 0), (1, .getfield 7, 704, 0, 0), (4, .bipush 24, 0, 24, 0), (6, .iload_n 1, 0, 0, 0), (7, .iadd, 0, 0, 0), (8, .iaload, 1936, 0, 0), (9, .istore_n 2, 0, 0, 0), (10, .aload_n 0, 0, 0, 0), (11, .getfield 7, 704, 0, 0), (14, .bipush 24, 0, 24, 0), (16, .iload_n 1, 0, 0, 0), (17, .iadd, 0, 0, 0), (18, .bipush (-2), 0, (-2), 0), (20, .iastore, 1936, 0, 0), (21, .aload_n 0, 0, 0, 0), (22, .getfield 7, 704, 0, 0), (25, .bipush 24, 0, 24, 0), (27, .iload_n 2, 0, 0, 0), (28, .iadd, 0, 0, 0), (29, .bipush (-2), 0, (-2), 0), (31, .iastore, 1936, 0, 0), (32, .return_, 0, 0, 0)]
set_option maxRecDepth 20000 in
theorem bk_Md_parts : BK m_Md_parts cd_Md_parts := ⟨pl_X12, pk_X12, fun E hE => (show ∀ E ∈ cd_Md_parts, decode cX12_parts E.1 = .ok (E.2.1, ilen E.2.1) ∧ exE pl_X12 E.1 E.2.1 E.2.2.1 E.2.2.2.1 E.2.2.2.2 = true by decide +kernel) E hE⟩
theorem nk_Md_parts : NK m_Md_parts 1 := ⟨tw1388, tw123, ⟨by decide +kernel, by decide +kernel⟩, by decide +kernel, Nat.le_of_ble_eq_true rfl⟩
def m_Md_dies : Mth := (yX12_dies, cX12_dies, 3, some .boolean, RX12)
def cd_Md_dies : List ME := [(0, .aload_n 0, 0, 0, 0), (1, .iload_n 1, 0, 0, 0), (2, .invokevirtual 108, 0, 0, 0), (5, .ifCond .ne 5, 10, 0, 0), (8, .iconst 0, 0, 0, 0), (9, .ireturn, 0, 0, 0), (10, .aload_n 0, 0, 0, 0), (11, .getfield 7, 704, 0, 0), (14, .bipush 24, 0, 24, 0), (16, .iload_n 1, 0, 0, 0), (17, .iadd, 0, 0, 0), (18, .iaload, 1936, 0, 0), (19, .istore_n 2, 0, 0, 0), (20, .iload_n 2, 0, 0, 0), (21, .bipush (-2), 0, (-2), 0), (23, .if_icmp .eq 36, 59, 0, 0), (26, .aload_n 0, 0, 0, 0), (27, .iload_n 1, 0, 0, 0), (28, .invokevirtual 115, 0, 0, 0), (31, .aload_n 0, 0, 0, 0), (32, .getfield 7, 704, 0, 0), (35, .bipush 48, 0, 48, 0), (37, .iload_n 2, 0, 0, 0), (38, .iadd, 0, 0, 0), (39, .aload_n 0, 0, 0, 0), (40, .getfield 7, 704, 0, 0), (43, .bipush 48, 0, 48, 0), (45, .iload_n 2, 0, 0, 0), (46, .iadd, 0, 0, 0), (47, .iaload, 1936, 0, 0), (48, .aload_n 0, 0, 0, 0), (49, .getfield 7, 704, 0, 0), (52, .bipush 48, 0, 48, 0), (54, .iload_n 1, 0, 0, 0), (55, .iadd, 0, 0, 0), (56, .iaload, 1936, 0, 0), (57, .ior, 0, 0, 0), (58, .iastore, 1936, 0, 0), (59, .aload_n 0, 0, 0, 0), (60, .getfield 7, 704, 0, 0), (63, .bipush 48, 0, 48, 0), (65, .iload_n 1, 0, 0, 0), (66, .iadd, 0, 0, 0), (67, .iconst 0, 0, 0, 0), (68, .iastore, 1936, 0, 0), (69, .aload_n 0, 0, 0, 0), (70, .getfield 7, 704, 0, 0), (73, .bipush 109, 0, 109, 0), (75, .aload_n 0, 0, 0, 0), (76, .getfield 7, 704, 0, 0), (79, .bipush 109, 0, 109, 0), (81, .iaload, 1936, 0, 0), (82, .iconst 1, 0, 1, 0), (83, .iload_n 1, 0, 0, 0), (84, .ishl, 0, 0, 0), (85, .iconst (-1), 0, (-1), 0), (86, .ixor, 0, 0, 0), (87, .iand, 0, 0, 0), (88, .iastore, 1936, 0, 0), (89, .iconst 1, 0, 1, 0), (90, .ireturn, 0, 0, 0)]
set_option maxRecDepth 20000 in
theorem bk_Md_dies : BK m_Md_dies cd_Md_dies := ⟨pl_X12, pk_X12, fun E hE => (show ∀ E ∈ cd_Md_dies, decode cX12_dies E.1 = .ok (E.2.1, ilen E.2.1) ∧ exE pl_X12 E.1 E.2.1 E.2.2.1 E.2.2.2.1 E.2.2.2.2 = true by decide +kernel) E hE⟩
theorem nk_Md_dies : NK m_Md_dies 1 := ⟨tw1380, tw123, ⟨by decide +kernel, by decide +kernel⟩, by decide +kernel, Nat.le_of_ble_eq_true rfl⟩
def m_Md_isFree : Mth := (yX12_isFree, cX12_isFree, 2, some .boolean, RX12)
def cd_Md_isFree : List ME := [(0, .aload_n 0, 0, 0, 0), (1, .iload_n 1, 0, 0, 0), (2, .invokevirtual 108, 0, 0, 0), (5, .ifCond .eq 21, 26, 0, 0), (8, .aload_n 0, 0, 0, 0), (9, .getfield 7, 704, 0, 0), (12, .bipush 24, 0, 24, 0), (14, .iload_n 1, 0, 0, 0), (15, .iadd, 0, 0, 0), (16, .iaload, 1936, 0, 0), (17, .bipush (-2), 0, (-2), 0), (19, .if_icmp .ne 7, 26, 0, 0), (22, .iconst 1, 0, 1, 0), (23, .goto 4, 27, 0, 0), (26, .iconst 0, 0, 0, 0), (27, .ireturn, 0, 0, 0)]
set_option maxRecDepth 20000 in
theorem bk_Md_isFree : BK m_Md_isFree cd_Md_isFree := ⟨pl_X12, pk_X12, fun E hE => (show ∀ E ∈ cd_Md_isFree, decode cX12_isFree E.1 = .ok (E.2.1, ilen E.2.1) ∧ exE pl_X12 E.1 E.2.1 E.2.2.1 E.2.2.2.1 E.2.2.2.2 = true by decide +kernel) E hE⟩
theorem nk_Md_isFree : NK m_Md_isFree 1 := ⟨tw1396, tw123, ⟨by decide +kernel, by decide +kernel⟩, by decide +kernel, Nat.le_of_ble_eq_true rfl⟩
def m_Md_wedsTwo : Mth := (yX12_wedsTwo, cX12_wedsTwo, 3, none, RX12)
def cd_Md_wedsTwo : List ME := [(0, .aload_n 0, 0, 0, 0), (1, .getfield 7, 704, 0, 0), (4, .bipush 24, 0, 24, 0), (6, .iload_n 1, 0, 0, 0), (7, .iadd, 0, 0, 0), (8, .iload_n 2, 0, 0, 0), (9, .iastore, 1936, 0, 0), (10, .aload_n 0, 0, 0, 0), (11, .getfield 7, 704, 0, 0), (14, .bipush 24, 0, 24, 0), (16, .iload_n 2, 0, 0, 0), (17, .iadd, 0, 0, 0), (18, .iload_n 1, 0, 0, 0), (19, .iastore, 1936, 0, 0), (20, .aload_n 0, 0, 0, 0), (21, .getfield 7, 704, 0, 0), (24, .bipush 36, 0, 36, 0), (26, .iload_n 1, 0, 0, 0), (27, .iadd, 0, 0, 0), (28, .iconst 0, 0, 0, 0), (29, .iastore, 1936, 0, 0), (30, .aload_n 0, 0, 0, 0), (31, .getfield 7, 704, 0, 0), (34, .bipush 36, 0, 36, 0), (36, .iload_n 2, 0, 0, 0), (37, .iadd, 0, 0, 0), (38, .iconst 0, 0, 0, 0), (39, .iastore, 1936, 0, 0), (40, .return_, 0, 0, 0)]
set_option maxRecDepth 20000 in
theorem bk_Md_wedsTwo : BK m_Md_wedsTwo cd_Md_wedsTwo := ⟨pl_X12, pk_X12, fun E hE => (show ∀ E ∈ cd_Md_wedsTwo, decode cX12_wedsTwo E.1 = .ok (E.2.1, ilen E.2.1) ∧ exE pl_X12 E.1 E.2.1 E.2.2.1 E.2.2.2.1 E.2.2.2.2 = true by decide +kernel) E hE⟩
theorem nk_Md_wedsTwo : NK m_Md_wedsTwo 2 := ⟨tw1400, tw123, ⟨by decide +kernel, by decide +kernel⟩, by decide +kernel, Nat.le_of_ble_eq_true rfl⟩
def m_Md_weds : Mth := (yX12_weds, cX12_weds, 3, some .boolean, RX12)
def cd_Md_weds : List ME := [(0, .aload_n 0, 0, 0, 0), (1, .iload_n 1, 0, 0, 0), (2, .invokevirtual 119, 0, 0, 0), (5, .ifCond .eq 34, 39, 0, 0), (8, .aload_n 0, 0, 0, 0), (9, .iload_n 2, 0, 0, 0), (10, .invokevirtual 119, 0, 0, 0), (13, .ifCond .eq 26, 39, 0, 0), (16, .aload_n 0, 0, 0, 0), (17, .getfield 7, 704, 0, 0), (20, .iconst 0, 0, 0, 0), (21, .iload_n 1, 0, 0, 0), (22, .iadd, 0, 0, 0), (23, .iaload, 1936, 0, 0), (24, .ifCond .ne 15, 39, 0, 0), (27, .aload_n 0, 0, 0, 0), (28, .getfield 7, 704, 0, 0), (31, .iconst 0, 0, 0, 0), (32, .iload_n 2, 0, 0, 0), (33, .iadd, 0, 0, 0), (34, .iaload, 1936, 0, 0), (35, .iconst 1, 0, 1, 0), (36, .if_icmp .eq 5, 41, 0, 0), (39, .iconst 0, 0, 0, 0), (40, .ireturn, 0, 0, 0), (41, .aload_n 0, 0, 0, 0), (42, .iload_n 1, 0, 0, 0), (43, .iload_n 2, 0, 0, 0), (44, .invokevirtual 122, 0, 0, 0), (47, .iconst 1, 0, 1, 0), (48, .ireturn, 0, 0, 0)]
set_option maxRecDepth 20000 in
theorem bk_Md_weds : BK m_Md_weds cd_Md_weds := ⟨pl_X12, pk_X12, fun E hE => (show ∀ E ∈ cd_Md_weds, decode cX12_weds E.1 = .ok (E.2.1, ilen E.2.1) ∧ exE pl_X12 E.1 E.2.1 E.2.2.1 E.2.2.2.1 E.2.2.2.2 = true by decide +kernel) E hE⟩
theorem nk_Md_weds : NK m_Md_weds 2 := ⟨tw1392, tw123, ⟨by decide +kernel, by decide +kernel⟩, by decide +kernel, Nat.le_of_ble_eq_true rfl⟩
def m_Md_types : Mth := (yX12_types, cX12_types, 3, none, RX12)
def cd_Md_types : List ME := [(0, .iconst 3, 0, 3, 0), (1, .istore_n 2, 0, 0, 0), (2, .iload_n 2, 0, 0, 0), (3, .ifCond .lt 35, 38, 0, 0), (6, .aload_n 0, 0, 0, 0), (7, .getfield 19, 707, 0, 0), (10, .aload_n 0, 0, 0, 0), (11, .getfield 126, 708, 0, 0), (14, .iload_n 1, 0, 0, 0), (15, .bipush 8, 0, 8, 0), (17, .iload_n 2, 0, 0, 0), (18, .imul, 0, 0, 0), (19, .ishr, 0, 0, 0), (20, .i2b, 0, 0, 0), (21, .bastore, 260, 0, 0), (22, .aload_n 0, 0, 0, 0), (23, .aload_n 0, 0, 0, 0), (24, .getfield 126, 708, 0, 0), (27, .iconst 1, 0, 1, 0), (28, .iadd, 0, 0, 0), (29, .putfield 126, 708, 0, 0), (32, .iinc 2 (-1), 0, (-1), 0), (35, .goto (-33), 2, 0, 0), (38, .return_, 0, 0, 0)]
set_option maxRecDepth 20000 in
theorem bk_Md_types : BK m_Md_types cd_Md_types := ⟨pl_X12, pk_X12, fun E hE => (show ∀ E ∈ cd_Md_types, decode cX12_types E.1 = .ok (E.2.1, ilen E.2.1) ∧ exE pl_X12 E.1 E.2.1 E.2.2.1 E.2.2.2.1 E.2.2.2.2 = true by decide +kernel) E hE⟩
theorem nk_Md_types : NK m_Md_types 1 := ⟨tw1408, tw123, ⟨by decide +kernel, by decide +kernel⟩, by decide +kernel, Nat.le_of_ble_eq_true rfl⟩
def m_Md_feed : Mth := (yX12_feed, cX12_feed, 6, some .int, RX12)
def cd_Md_feed : List ME := [(0, .aload_n 0, 0, 0, 0), (1, .getfield 126, 708, 0, 0), (4, .bipush 20, 0, 20, 0), (6, .iadd, 0, 0, 0), (7, .sipush 260, 0, 260, 0), (10, .if_icmp .le 5, 15, 0, 0), (13, .iconst (-1), 0, (-1), 0), (14, .ireturn, 0, 0, 0), (15, .aload_n 0, 0, 0, 0), (16, .iload_n 1, 0, 0, 0), (17, .invokevirtual 130, 0, 0, 0), (20, .aload_n 0, 0, 0, 0), (21, .iload_n 2, 0, 0, 0), (22, .invokevirtual 130, 0, 0, 0), (25, .aload_n 0, 0, 0, 0), (26, .iload_n 3, 0, 0, 0), (27, .invokevirtual 130, 0, 0, 0), (30, .aload_n 0, 0, 0, 0), (31, .iload 4, 0, 0, 0), (33, .invokevirtual 130, 0, 0, 0), (36, .aload_n 0, 0, 0, 0), (37, .iload 5, 0, 0, 0), (39, .invokevirtual 130, 0, 0, 0), (42, .aload_n 0, 0, 0, 0), (43, .getfield 126, 708, 0, 0), (46, .ireturn, 0, 0, 0)]
set_option maxRecDepth 20000 in
theorem bk_Md_feed : BK m_Md_feed cd_Md_feed := ⟨pl_X12, pk_X12, fun E hE => (show ∀ E ∈ cd_Md_feed, decode cX12_feed E.1 = .ok (E.2.1, ilen E.2.1) ∧ exE pl_X12 E.1 E.2.1 E.2.2.1 E.2.2.2.1 E.2.2.2.2 = true by decide +kernel) E hE⟩
theorem nk_Md_feed : NK m_Md_feed 5 := ⟨tw1404, tw123, ⟨by decide +kernel, by decide +kernel⟩, by decide +kernel, Nat.le_of_ble_eq_true rfl⟩
def m_Md_here : Mth := (yX12_here, cX12_here, 1, some .int, RX12)
def cd_Md_here : List ME := [(0, .aload_n 0, 0, 0, 0), (1, .getfield 133, 709, 0, 0), (4, .aload_n 0, 0, 0, 0), (5, .getfield 136, 710, 0, 0), (8, .if_icmp .ge 19, 27, 0, 0), (11, .aload_n 0, 0, 0, 0), (12, .getfield 19, 707, 0, 0), (15, .aload_n 0, 0, 0, 0), (16, .getfield 133, 709, 0, 0), (19, .baload, 260, 0, 0), (20, .sipush 255, 0, 255, 0), (23, .iand, 0, 0, 0), (24, .goto 4, 28, 0, 0), (27, .iconst (-1), 0, (-1), 0), (28, .ireturn, 0, 0, 0)]
set_option maxRecDepth 20000 in
theorem bk_Md_here : BK m_Md_here cd_Md_here := ⟨pl_X12, pk_X12, fun E hE => (show ∀ E ∈ cd_Md_here, decode cX12_here E.1 = .ok (E.2.1, ilen E.2.1) ∧ exE pl_X12 E.1 E.2.1 E.2.2.1 E.2.2.2.1 E.2.2.2.2 = true by decide +kernel) E hE⟩
theorem nk_Md_here : NK m_Md_here 0 := ⟨tw1420, tw123, ⟨by decide +kernel, by decide +kernel⟩, by decide +kernel, Nat.le_of_ble_eq_true rfl⟩
def m_Md_isClause : Mth := (yX12_isClause, cX12_isClause, 1, some .boolean, RX12)
def cd_Md_isClause : List ME := [(0, .iload_n 0, 0, 0, 0), (1, .bipush 102, 0, 102, 0), (3, .if_icmp .eq 27, 30, 0, 0), (6, .iload_n 0, 0, 0, 0), (7, .bipush 108, 0, 108, 0), (9, .if_icmp .eq 21, 30, 0, 0), (12, .iload_n 0, 0, 0, 0), (13, .bipush 119, 0, 119, 0), (15, .if_icmp .eq 15, 30, 0, 0), (18, .iload_n 0, 0, 0, 0), (19, .bipush 99, 0, 99, 0), (21, .if_icmp .eq 9, 30, 0, 0), (24, .iload_n 0, 0, 0, 0), (25, .bipush 98, 0, 98, 0), (27, .if_icmp .ne 7, 34, 0, 0), (30, .iconst 1, 0, 1, 0), (31, .goto 4, 35, 0, 0), (34, .iconst 0, 0, 0, 0), (35, .ireturn, 0, 0, 0)]
set_option maxRecDepth 20000 in
theorem bk_Md_isClause : BK m_Md_isClause cd_Md_isClause := ⟨pl_X12, pk_X12, fun E hE => (show ∀ E ∈ cd_Md_isClause, decode cX12_isClause E.1 = .ok (E.2.1, ilen E.2.1) ∧ exE pl_X12 E.1 E.2.1 E.2.2.1 E.2.2.2.1 E.2.2.2.2 = true by decide +kernel) E hE⟩
theorem nk_Md_isClause : NK m_Md_isClause 1 := ⟨tw1423, tw123, ⟨by decide +kernel, by decide +kernel⟩, by decide +kernel, Nat.le_of_ble_eq_true rfl⟩
def m_Md_wrongAt : Mth := (yX12_wrongAt, cX12_wrongAt, 3, some .boolean, RX12)
def cd_Md_wrongAt : List ME := [(0, .aload_n 0, 0, 0, 0), (1, .sipush (-1000), 0, (-1000), 0), (4, .iload_n 1, 0, 0, 0), (5, .imul, 0, 0, 0), (6, .iload_n 2, 0, 0, 0), (7, .isub, 0, 0, 0), (8, .putfield 143, 711, 0, 0), (11, .iconst 0, 0, 0, 0), (12, .ireturn, 0, 0, 0)]
set_option maxRecDepth 20000 in
theorem bk_Md_wrongAt : BK m_Md_wrongAt cd_Md_wrongAt := ⟨pl_X12, pk_X12, fun E hE => (show ∀ E ∈ cd_Md_wrongAt, decode cX12_wrongAt E.1 = .ok (E.2.1, ilen E.2.1) ∧ exE pl_X12 E.1 E.2.1 E.2.2.1 E.2.2.2.1 E.2.2.2.2 = true by decide +kernel) E hE⟩
theorem nk_Md_wrongAt : NK m_Md_wrongAt 2 := ⟨tw1427, tw123, ⟨by decide +kernel, by decide +kernel⟩, by decide +kernel, Nat.le_of_ble_eq_true rfl⟩
def m_Md_opens : Mth := (yX12_opens, cX12_opens, 2, some .boolean, RX12)
def cd_Md_opens : List ME := [(0, .aload_n 0, 0, 0, 0), (1, .getfield 160, 713, 0, 0), (4, .bipush 6, 0, 6, 0), (6, .if_icmp .ne 13, 19, 0, 0), (9, .aload_n 0, 0, 0, 0), (10, .iconst 5, 0, 5, 0), (11, .aload_n 0, 0, 0, 0), (12, .getfield 133, 709, 0, 0), (15, .invokevirtual 146, 0, 0, 0), (18, .ireturn, 0, 0, 0), (19, .aload_n 0, 0, 0, 0), (20, .aload_n 0, 0, 0, 0), (21, .getfield 160, 713, 0, 0), (24, .iconst 1, 0, 1, 0), (25, .iadd, 0, 0, 0), (26, .putfield 160, 713, 0, 0), (29, .aload_n 0, 0, 0, 0), (30, .getfield 26, 719, 0, 0), (33, .aload_n 0, 0, 0, 0), (34, .getfield 163, 715, 0, 0), (37, .ldc 159, 0, 1048576, 0), (39, .iload_n 1, 0, 0, 0), (40, .imul, 0, 0, 0), (41, .iastore, 260, 0, 0), (42, .aload_n 0, 0, 0, 0), (43, .aload_n 0, 0, 0, 0), (44, .getfield 163, 715, 0, 0), (47, .iconst 1, 0, 1, 0), (48, .iadd, 0, 0, 0), (49, .putfield 163, 715, 0, 0), (52, .aload_n 0, 0, 0, 0), (53, .aload_n 0, 0, 0, 0), (54, .getfield 133, 709, 0, 0), (57, .iconst 1, 0, 1, 0), (58, .iadd, 0, 0, 0), (59, .putfield 133, 709, 0, 0), (62, .iconst 1, 0, 1, 0), (63, .ireturn, 0, 0, 0)]
set_option maxRecDepth 20000 in
theorem bk_Md_opens : BK m_Md_opens cd_Md_opens := ⟨pl_X12, pk_X12, fun E hE => (show ∀ E ∈ cd_Md_opens, decode cX12_opens E.1 = .ok (E.2.1, ilen E.2.1) ∧ exE pl_X12 E.1 E.2.1 E.2.2.1 E.2.2.2.1 E.2.2.2.2 = true by decide +kernel) E hE⟩
theorem nk_Md_opens : NK m_Md_opens 1 := ⟨tw1439, tw123, ⟨by decide +kernel, by decide +kernel⟩, by decide +kernel, Nat.le_of_ble_eq_true rfl⟩
def m_Md_isDigit : Mth := (yX12_isDigit, cX12_isDigit, 1, some .boolean, RX12)
def cd_Md_isDigit : List ME := [(0, .aload_n 0, 0, 0, 0), (1, .invokevirtual 139, 0, 0, 0), (4, .bipush 48, 0, 48, 0), (6, .if_icmp .lt 16, 22, 0, 0), (9, .aload_n 0, 0, 0, 0), (10, .invokevirtual 139, 0, 0, 0), (13, .bipush 57, 0, 57, 0), (15, .if_icmp .gt 7, 22, 0, 0), (18, .iconst 1, 0, 1, 0), (19, .goto 4, 23, 0, 0), (22, .iconst 0, 0, 0, 0), (23, .ireturn, 0, 0, 0)]
set_option maxRecDepth 20000 in
theorem bk_Md_isDigit : BK m_Md_isDigit cd_Md_isDigit := ⟨pl_X12, pk_X12, fun E hE => (show ∀ E ∈ cd_Md_isDigit, decode cX12_isDigit E.1 = .ok (E.2.1, ilen E.2.1) ∧ exE pl_X12 E.1 E.2.1 E.2.2.1 E.2.2.2.1 E.2.2.2.2 = true by decide +kernel) E hE⟩
theorem nk_Md_isDigit : NK m_Md_isDigit 0 := ⟨tw1444, tw123, ⟨by decide +kernel, by decide +kernel⟩, by decide +kernel, Nat.le_of_ble_eq_true rfl⟩
def m_Md_readsNumber : Mth := (yX12_readsNumber, cX12_readsNumber, 2, some .boolean, RX12)
def cd_Md_readsNumber : List ME := [(0, .aload_n 0, 0, 0, 0), (1, .getfield 133, 709, 0, 0), (4, .istore_n 1, 0, 0, 0), (5, .aload_n 0, 0, 0, 0), (6, .iconst 0, 0, 0, 0), (7, .putfield 149, 712, 0, 0), (10, .aload_n 0, 0, 0, 0), (11, .invokevirtual 152, 0, 0, 0), (14, .ifCond .eq 55, 69, 0, 0), (17, .aload_n 0, 0, 0, 0), (18, .getfield 133, 709, 0, 0), (21, .iload_n 1, 0, 0, 0), (22, .iconst 5, 0, 5, 0), (23, .iadd, 0, 0, 0), (24, .if_icmp .ne 13, 37, 0, 0), (27, .aload_n 0, 0, 0, 0), (28, .iconst 2, 0, 2, 0), (29, .aload_n 0, 0, 0, 0), (30, .getfield 133, 709, 0, 0), (33, .invokevirtual 146, 0, 0, 0), (36, .ireturn, 0, 0, 0), (37, .aload_n 0, 0, 0, 0), (38, .bipush 10, 0, 10, 0), (40, .aload_n 0, 0, 0, 0), (41, .getfield 149, 712, 0, 0), (44, .imul, 0, 0, 0), (45, .aload_n 0, 0, 0, 0), (46, .invokevirtual 139, 0, 0, 0), (49, .iadd, 0, 0, 0), (50, .bipush 48, 0, 48, 0), (52, .isub, 0, 0, 0), (53, .putfield 149, 712, 0, 0), (56, .aload_n 0, 0, 0, 0), (57, .aload_n 0, 0, 0, 0), (58, .getfield 133, 709, 0, 0), (61, .iconst 1, 0, 1, 0), (62, .iadd, 0, 0, 0), (63, .putfield 133, 709, 0, 0), (66, .goto (-56), 10, 0, 0), (69, .iconst 1, 0, 1, 0), (70, .ireturn, 0, 0, 0)]
set_option maxRecDepth 20000 in
theorem bk_Md_readsNumber : BK m_Md_readsNumber cd_Md_readsNumber := ⟨pl_X12, pk_X12, fun E hE => (show ∀ E ∈ cd_Md_readsNumber, decode cX12_readsNumber E.1 = .ok (E.2.1, ilen E.2.1) ∧ exE pl_X12 E.1 E.2.1 E.2.2.1 E.2.2.2.1 E.2.2.2.2 = true by decide +kernel) E hE⟩
theorem nk_Md_readsNumber : NK m_Md_readsNumber 0 := ⟨tw1448, tw123, ⟨by decide +kernel, by decide +kernel⟩, by decide +kernel, Nat.le_of_ble_eq_true rfl⟩
def m_Md_notes : Mth := (yX12_notes, cX12_notes, 3, none, RX12)
def cd_Md_notes : List ME := [(0, .aload_n 0, 0, 0, 0), (1, .getfield 23, 718, 0, 0), (4, .aload_n 0, 0, 0, 0), (5, .getfield 156, 714, 0, 0), (8, .ldc 159, 0, 1048576, 0), (10, .iload_n 1, 0, 0, 0), (11, .imul, 0, 0, 0), (12, .iload_n 2, 0, 0, 0), (13, .iadd, 0, 0, 0), (14, .iastore, 260, 0, 0), (15, .aload_n 0, 0, 0, 0), (16, .aload_n 0, 0, 0, 0), (17, .getfield 156, 714, 0, 0), (20, .iconst 1, 0, 1, 0), (21, .iadd, 0, 0, 0), (22, .putfield 156, 714, 0, 0), (25, .return_, 0, 0, 0)]
set_option maxRecDepth 20000 in
theorem bk_Md_notes : BK m_Md_notes cd_Md_notes := ⟨pl_X12, pk_X12, fun E hE => (show ∀ E ∈ cd_Md_notes, decode cX12_notes E.1 = .ok (E.2.1, ilen E.2.1) ∧ exE pl_X12 E.1 E.2.1 E.2.2.1 E.2.2.2.1 E.2.2.2.2 = true by decide +kernel) E hE⟩
theorem nk_Md_notes : NK m_Md_notes 2 := ⟨tw1452, tw123, ⟨by decide +kernel, by decide +kernel⟩, by decide +kernel, Nat.le_of_ble_eq_true rfl⟩
def m_Md_factOf : Mth := (yX12_factOf, cX12_factOf, 1, some .int, RX12)
def cd_Md_factOf : List ME := [(0, .iload_n 0, 0, 0, 0), (116, .iconst 0, 0, 0, 0), (117, .ireturn, 0, 0, 0), (118, .iconst 1, 0, 1, 0), (119, .ireturn, 0, 0, 0), (120, .iconst 2, 0, 2, 0), (121, .ireturn, 0, 0, 0), (122, .iconst 3, 0, 3, 0), (123, .ireturn, 0, 0, 0), (124, .iconst 4, 0, 4, 0), (125, .ireturn, 0, 0, 0), (126, .iconst 5, 0, 5, 0), (127, .ireturn, 0, 0, 0), (128, .bipush 6, 0, 6, 0), (130, .ireturn, 0, 0, 0), (131, .bipush 7, 0, 7, 0), (133, .ireturn, 0, 0, 0), (134, .bipush 8, 0, 8, 0), (136, .ireturn, 0, 0, 0), (137, .bipush 9, 0, 9, 0), (139, .ireturn, 0, 0, 0), (140, .bipush 10, 0, 10, 0), (142, .ireturn, 0, 0, 0), (143, .iconst (-1), 0, (-1), 0), (144, .ireturn, 0, 0, 0)]
set_option maxRecDepth 20000 in
theorem bk_Md_factOf : BK m_Md_factOf cd_Md_factOf := ⟨pl_X12, pk_X12, fun E hE => (show ∀ E ∈ cd_Md_factOf, decode cX12_factOf E.1 = .ok (E.2.1, ilen E.2.1) ∧ exE pl_X12 E.1 E.2.1 E.2.2.1 E.2.2.2.1 E.2.2.2.2 = true by decide +kernel) E hE⟩
theorem nk_Md_factOf : NK m_Md_factOf 1 := ⟨tw1455, tw123, ⟨by decide +kernel, by decide +kernel⟩, by decide +kernel, Nat.le_of_ble_eq_true rfl⟩
def m_Md_readsFactor : Mth := (yX12_readsFactor, cX12_readsFactor, 2, some .boolean, RX12)
def cd_Md_readsFactor : List ME := [(0, .aload_n 0, 0, 0, 0), (1, .invokevirtual 139, 0, 0, 0), (4, .bipush 91, 0, 91, 0), (6, .if_icmp .ne 14, 20, 0, 0), (9, .aload_n 0, 0, 0, 0), (10, .bipush 14, 0, 14, 0), (12, .invokevirtual 172, 0, 0, 0), (15, .ifCond .ne (-15), 0, 0, 0), (18, .iconst 0, 0, 0, 0), (19, .ireturn, 0, 0, 0), (20, .aload_n 0, 0, 0, 0), (21, .invokevirtual 152, 0, 0, 0), (24, .ifCond .eq 23, 47, 0, 0), (27, .aload_n 0, 0, 0, 0), (28, .invokevirtual 175, 0, 0, 0), (31, .ifCond .ne 5, 36, 0, 0), (34, .iconst 0, 0, 0, 0), (35, .ireturn, 0, 0, 0), (36, .aload_n 0, 0, 0, 0), (37, .iconst 0, 0, 0, 0), (38, .aload_n 0, 0, 0, 0), (39, .getfield 149, 712, 0, 0), (42, .invokevirtual 169, 0, 0, 0), (45, .iconst 1, 0, 1, 0), (46, .ireturn, 0, 0, 0), (47, .aload_n 0, 0, 0, 0), (48, .invokevirtual 139, 0, 0, 0), (51, .invokestatic 178, 0, 0, 0), (54, .istore_n 1, 0, 0, 0), (55, .iload_n 1, 0, 0, 0), (56, .iconst (-1), 0, (-1), 0), (57, .if_icmp .ne 13, 70, 0, 0), (60, .aload_n 0, 0, 0, 0), (61, .iconst 1, 0, 1, 0), (62, .aload_n 0, 0, 0, 0), (63, .getfield 133, 709, 0, 0), (66, .invokevirtual 146, 0, 0, 0), (69, .ireturn, 0, 0, 0), (70, .aload_n 0, 0, 0, 0), (71, .iconst 1, 0, 1, 0), (72, .iload_n 1, 0, 0, 0), (73, .invokevirtual 169, 0, 0, 0), (76, .aload_n 0, 0, 0, 0), (77, .aload_n 0, 0, 0, 0), (78, .getfield 133, 709, 0, 0), (81, .iconst 1, 0, 1, 0), (82, .iadd, 0, 0, 0), (83, .putfield 133, 709, 0, 0), (86, .iconst 1, 0, 1, 0), (87, .ireturn, 0, 0, 0)]
set_option maxRecDepth 20000 in
theorem bk_Md_readsFactor : BK m_Md_readsFactor cd_Md_readsFactor := ⟨pl_X12, pk_X12, fun E hE => (show ∀ E ∈ cd_Md_readsFactor, decode cX12_readsFactor E.1 = .ok (E.2.1, ilen E.2.1) ∧ exE pl_X12 E.1 E.2.1 E.2.2.1 E.2.2.2.1 E.2.2.2.2 = true by decide +kernel) E hE⟩
theorem nk_Md_readsFactor : NK m_Md_readsFactor 0 := ⟨tw1435, tw123, ⟨by decide +kernel, by decide +kernel⟩, by decide +kernel, Nat.le_of_ble_eq_true rfl⟩
def m_Md_sumSign : Mth := (yX12_sumSign, cX12_sumSign, 1, some .int, RX12)
def cd_Md_sumSign : List ME := [(0, .iload_n 0, 0, 0, 0), (1, .bipush 43, 0, 43, 0), (3, .if_icmp .ne 7, 10, 0, 0), (6, .iconst 2, 0, 2, 0), (7, .goto 45, 52, 0, 0), (10, .iload_n 0, 0, 0, 0), (11, .bipush 45, 0, 45, 0), (13, .if_icmp .ne 7, 20, 0, 0), (16, .iconst 3, 0, 3, 0), (17, .goto 35, 52, 0, 0), (20, .iload_n 0, 0, 0, 0), (21, .bipush 42, 0, 42, 0), (23, .if_icmp .ne 7, 30, 0, 0), (26, .iconst 4, 0, 4, 0), (27, .goto 25, 52, 0, 0), (30, .iload_n 0, 0, 0, 0), (31, .bipush 47, 0, 47, 0), (33, .if_icmp .ne 7, 40, 0, 0), (36, .iconst 5, 0, 5, 0), (37, .goto 15, 52, 0, 0), (40, .iload_n 0, 0, 0, 0), (41, .bipush 37, 0, 37, 0), (43, .if_icmp .ne 8, 51, 0, 0), (46, .bipush 6, 0, 6, 0), (48, .goto 4, 52, 0, 0), (51, .iconst (-1), 0, (-1), 0), (52, .ireturn, 0, 0, 0)]
set_option maxRecDepth 20000 in
theorem bk_Md_sumSign : BK m_Md_sumSign cd_Md_sumSign := ⟨pl_X12, pk_X12, fun E hE => (show ∀ E ∈ cd_Md_sumSign, decode cX12_sumSign E.1 = .ok (E.2.1, ilen E.2.1) ∧ exE pl_X12 E.1 E.2.1 E.2.2.1 E.2.2.2.1 E.2.2.2.2 = true by decide +kernel) E hE⟩
theorem nk_Md_sumSign : NK m_Md_sumSign 1 := ⟨tw1458, tw123, ⟨by decide +kernel, by decide +kernel⟩, by decide +kernel, Nat.le_of_ble_eq_true rfl⟩
def m_Md_waitTop : Mth := (yX12_waitTop, cX12_waitTop, 1, some .int, RX12)
def cd_Md_waitTop : List ME := [(0, .aload_n 0, 0, 0, 0), (1, .getfield 163, 715, 0, 0), (4, .ifCond .ne 7, 11, 0, 0), (7, .iconst (-1), 0, (-1), 0), (8, .goto 17, 25, 0, 0), (11, .aload_n 0, 0, 0, 0), (12, .getfield 26, 719, 0, 0), (15, .aload_n 0, 0, 0, 0), (16, .getfield 163, 715, 0, 0), (19, .iconst 1, 0, 1, 0), (20, .isub, 0, 0, 0), (21, .iaload, 260, 0, 0), (22, .ldc 159, 0, 1048576, 0), (24, .idiv, 0, 0, 0), (25, .ireturn, 0, 0, 0)]
set_option maxRecDepth 20000 in
theorem bk_Md_waitTop : BK m_Md_waitTop cd_Md_waitTop := ⟨pl_X12, pk_X12, fun E hE => (show ∀ E ∈ cd_Md_waitTop, decode cX12_waitTop E.1 = .ok (E.2.1, ilen E.2.1) ∧ exE pl_X12 E.1 E.2.1 E.2.2.1 E.2.2.2.1 E.2.2.2.2 = true by decide +kernel) E hE⟩
theorem nk_Md_waitTop : NK m_Md_waitTop 0 := ⟨tw1466, tw123, ⟨by decide +kernel, by decide +kernel⟩, by decide +kernel, Nat.le_of_ble_eq_true rfl⟩
def m_Md_closesSums : Mth := (yX12_closesSums, cX12_closesSums, 2, none, RX12)
def cd_Md_closesSums : List ME := [(0, .aload_n 0, 0, 0, 0), (1, .invokevirtual 166, 0, 0, 0), (4, .iconst 4, 0, 4, 0), (5, .if_icmp .lt 12, 17, 0, 0), (8, .aload_n 0, 0, 0, 0), (9, .invokevirtual 166, 0, 0, 0), (12, .bipush 6, 0, 6, 0), (14, .if_icmp .le 23, 37, 0, 0), (17, .iload_n 1, 0, 0, 0), (18, .ifCond .eq 41, 59, 0, 0), (21, .aload_n 0, 0, 0, 0), (22, .invokevirtual 166, 0, 0, 0), (25, .iconst 2, 0, 2, 0), (26, .if_icmp .eq 11, 37, 0, 0), (29, .aload_n 0, 0, 0, 0), (30, .invokevirtual 166, 0, 0, 0), (33, .iconst 3, 0, 3, 0), (34, .if_icmp .ne 25, 59, 0, 0), (37, .aload_n 0, 0, 0, 0), (38, .aload_n 0, 0, 0, 0), (39, .invokevirtual 166, 0, 0, 0), (42, .iconst 0, 0, 0, 0), (43, .invokevirtual 169, 0, 0, 0), (46, .aload_n 0, 0, 0, 0), (47, .aload_n 0, 0, 0, 0), (48, .getfield 163, 715, 0, 0), (51, .iconst 1, 0, 1, 0), (52, .isub, 0, 0, 0), (53, .putfield 163, 715, 0, 0), (56, .goto (-56), 0, 0, 0), (59, .return_, 0, 0, 0)]
set_option maxRecDepth 20000 in
theorem bk_Md_closesSums : BK m_Md_closesSums cd_Md_closesSums := ⟨pl_X12, pk_X12, fun E hE => (show ∀ E ∈ cd_Md_closesSums, decode cX12_closesSums E.1 = .ok (E.2.1, ilen E.2.1) ∧ exE pl_X12 E.1 E.2.1 E.2.2.1 E.2.2.2.1 E.2.2.2.2 = true by decide +kernel) E hE⟩
theorem nk_Md_closesSums : NK m_Md_closesSums 1 := ⟨tw1462, tw123, ⟨by decide +kernel, by decide +kernel⟩, by decide +kernel, Nat.le_of_ble_eq_true rfl⟩
def m_Md_hasOpenSum : Mth := (yX12_hasOpenSum, cX12_hasOpenSum, 3, some .boolean, RX12)
def cd_Md_hasOpenSum : List ME := [(0, .iload_n 1, 0, 0, 0), (1, .istore_n 2, 0, 0, 0), (2, .iload_n 2, 0, 0, 0), (3, .aload_n 0, 0, 0, 0), (4, .getfield 163, 715, 0, 0), (7, .if_icmp .ge 25, 32, 0, 0), (10, .aload_n 0, 0, 0, 0), (11, .getfield 26, 719, 0, 0), (14, .iload_n 2, 0, 0, 0), (15, .iaload, 260, 0, 0), (16, .ldc 159, 0, 1048576, 0), (18, .idiv, 0, 0, 0), (19, .bipush 14, 0, 14, 0), (21, .if_icmp .ne 5, 26, 0, 0), (24, .iconst 1, 0, 1, 0), (25, .ireturn, 0, 0, 0), (26, .iinc 2 1, 0, 1, 0), (29, .goto (-27), 2, 0, 0), (32, .iconst 0, 0, 0, 0), (33, .ireturn, 0, 0, 0)]
set_option maxRecDepth 20000 in
theorem bk_Md_hasOpenSum : BK m_Md_hasOpenSum cd_Md_hasOpenSum := ⟨pl_X12, pk_X12, fun E hE => (show ∀ E ∈ cd_Md_hasOpenSum, decode cX12_hasOpenSum E.1 = .ok (E.2.1, ilen E.2.1) ∧ exE pl_X12 E.1 E.2.1 E.2.2.1 E.2.2.2.1 E.2.2.2.2 = true by decide +kernel) E hE⟩
theorem nk_Md_hasOpenSum : NK m_Md_hasOpenSum 1 := ⟨tw1470, tw123, ⟨by decide +kernel, by decide +kernel⟩, by decide +kernel, Nat.le_of_ble_eq_true rfl⟩
def m_Md_readsSum : Mth := (yX12_readsSum, cX12_readsSum, 3, some .boolean, RX12)
def cd_Md_readsSum : List ME := [(0, .aload_n 0, 0, 0, 0), (1, .getfield 163, 715, 0, 0), (4, .istore_n 1, 0, 0, 0), (5, .aload_n 0, 0, 0, 0), (6, .invokevirtual 182, 0, 0, 0), (9, .ifCond .ne 5, 14, 0, 0), (12, .iconst 0, 0, 0, 0), (13, .ireturn, 0, 0, 0), (14, .aload_n 0, 0, 0, 0), (15, .invokevirtual 139, 0, 0, 0), (18, .invokestatic 185, 0, 0, 0), (21, .istore_n 2, 0, 0, 0), (22, .iload_n 2, 0, 0, 0), (23, .iconst (-1), 0, (-1), 0), (24, .if_icmp .eq 59, 83, 0, 0), (27, .aload_n 0, 0, 0, 0), (28, .iload_n 2, 0, 0, 0), (29, .iconst 4, 0, 4, 0), (30, .if_icmp .ge 7, 37, 0, 0), (33, .iconst 1, 0, 1, 0), (34, .goto 4, 38, 0, 0), (37, .iconst 0, 0, 0, 0), (38, .invokevirtual 188, 0, 0, 0), (41, .aload_n 0, 0, 0, 0), (42, .getfield 26, 719, 0, 0), (45, .aload_n 0, 0, 0, 0), (46, .getfield 163, 715, 0, 0), (49, .ldc 159, 0, 1048576, 0), (51, .iload_n 2, 0, 0, 0), (52, .imul, 0, 0, 0), (53, .iastore, 260, 0, 0), (54, .aload_n 0, 0, 0, 0), (55, .aload_n 0, 0, 0, 0), (56, .getfield 163, 715, 0, 0), (59, .iconst 1, 0, 1, 0), (60, .iadd, 0, 0, 0), (61, .putfield 163, 715, 0, 0), (64, .aload_n 0, 0, 0, 0), (65, .aload_n 0, 0, 0, 0), (66, .getfield 133, 709, 0, 0), (69, .iconst 1, 0, 1, 0), (70, .iadd, 0, 0, 0), (71, .putfield 133, 709, 0, 0), (74, .aload_n 0, 0, 0, 0), (75, .invokevirtual 182, 0, 0, 0), (78, .ifCond .ne 85, 163, 0, 0), (81, .iconst 0, 0, 0, 0), (82, .ireturn, 0, 0, 0), (83, .aload_n 0, 0, 0, 0), (84, .invokevirtual 139, 0, 0, 0), (87, .bipush 93, 0, 93, 0), (89, .if_icmp .ne 49, 138, 0, 0), (92, .aload_n 0, 0, 0, 0), (93, .iload_n 1, 0, 0, 0), (94, .invokevirtual 192, 0, 0, 0), (97, .ifCond .eq 41, 138, 0, 0), (100, .aload_n 0, 0, 0, 0), (101, .iconst 1, 0, 1, 0), (102, .invokevirtual 188, 0, 0, 0), (105, .aload_n 0, 0, 0, 0), (106, .aload_n 0, 0, 0, 0), (107, .getfield 163, 715, 0, 0), (110, .iconst 1, 0, 1, 0), (111, .isub, 0, 0, 0), (112, .putfield 163, 715, 0, 0), (115, .aload_n 0, 0, 0, 0), (116, .aload_n 0, 0, 0, 0), (117, .getfield 160, 713, 0, 0), (120, .iconst 1, 0, 1, 0), (121, .isub, 0, 0, 0), (122, .putfield 160, 713, 0, 0), (125, .aload_n 0, 0, 0, 0), (126, .aload_n 0, 0, 0, 0), (127, .getfield 133, 709, 0, 0), (130, .iconst 1, 0, 1, 0), (131, .iadd, 0, 0, 0), (132, .putfield 133, 709, 0, 0), (135, .goto 28, 163, 0, 0), (138, .aload_n 0, 0, 0, 0), (139, .iload_n 1, 0, 0, 0), (140, .invokevirtual 192, 0, 0, 0), (143, .ifCond .eq 13, 156, 0, 0), (146, .aload_n 0, 0, 0, 0), (147, .iconst 1, 0, 1, 0), (148, .aload_n 0, 0, 0, 0), (149, .getfield 133, 709, 0, 0), (152, .invokevirtual 146, 0, 0, 0), (155, .ireturn, 0, 0, 0), (156, .aload_n 0, 0, 0, 0), (157, .iconst 1, 0, 1, 0), (158, .invokevirtual 188, 0, 0, 0), (161, .iconst 1, 0, 1, 0), (162, .ireturn, 0, 0, 0), (163, .goto (-149), 14, 0, 0)]
set_option maxRecDepth 20000 in
theorem bk_Md_readsSum : BK m_Md_readsSum cd_Md_readsSum := ⟨pl_X12, pk_X12, fun E hE => (show ∀ E ∈ cd_Md_readsSum, decode cX12_readsSum E.1 = .ok (E.2.1, ilen E.2.1) ∧ exE pl_X12 E.1 E.2.1 E.2.2.1 E.2.2.2.1 E.2.2.2.2 = true by decide +kernel) E hE⟩
theorem nk_Md_readsSum : NK m_Md_readsSum 0 := ⟨tw1431, tw123, ⟨by decide +kernel, by decide +kernel⟩, by decide +kernel, Nat.le_of_ble_eq_true rfl⟩
def m_Md_endsPiece : Mth := (yX12_endsPiece, cX12_endsPiece, 1, none, RX12)
def cd_Md_endsPiece : List ME := [(0, .aload_n 0, 0, 0, 0), (1, .invokevirtual 166, 0, 0, 0), (4, .bipush 10, 0, 10, 0), (6, .if_icmp .ne 33, 39, 0, 0), (9, .aload_n 0, 0, 0, 0), (10, .bipush 10, 0, 10, 0), (12, .iconst 0, 0, 0, 0), (13, .invokevirtual 169, 0, 0, 0), (16, .aload_n 0, 0, 0, 0), (17, .aload_n 0, 0, 0, 0), (18, .getfield 163, 715, 0, 0), (21, .iconst 1, 0, 1, 0), (22, .isub, 0, 0, 0), (23, .putfield 163, 715, 0, 0), (26, .aload_n 0, 0, 0, 0), (27, .aload_n 0, 0, 0, 0), (28, .getfield 160, 713, 0, 0), (31, .iconst 1, 0, 1, 0), (32, .isub, 0, 0, 0), (33, .putfield 160, 713, 0, 0), (36, .goto (-36), 0, 0, 0), (39, .return_, 0, 0, 0)]
set_option maxRecDepth 20000 in
theorem bk_Md_endsPiece : BK m_Md_endsPiece cd_Md_endsPiece := ⟨pl_X12, pk_X12, fun E hE => (show ∀ E ∈ cd_Md_endsPiece, decode cX12_endsPiece E.1 = .ok (E.2.1, ilen E.2.1) ∧ exE pl_X12 E.1 E.2.1 E.2.2.1 E.2.2.2.1 E.2.2.2.2 = true by decide +kernel) E hE⟩
theorem nk_Md_endsPiece : NK m_Md_endsPiece 0 := ⟨tw1482, tw123, ⟨by decide +kernel, by decide +kernel⟩, by decide +kernel, Nat.le_of_ble_eq_true rfl⟩
def m_Md_readsCompared : Mth := (yX12_readsCompared, cX12_readsCompared, 2, some .boolean, RX12)
def cd_Md_readsCompared : List ME := [(0, .aload_n 0, 0, 0, 0), (1, .invokevirtual 195, 0, 0, 0), (4, .ifCond .ne 5, 9, 0, 0), (7, .iconst 0, 0, 0, 0), (8, .ireturn, 0, 0, 0), (9, .aload_n 0, 0, 0, 0), (10, .invokevirtual 139, 0, 0, 0), (13, .bipush 60, 0, 60, 0), (15, .if_icmp .ne 8, 23, 0, 0), (18, .bipush 7, 0, 7, 0), (20, .goto 32, 52, 0, 0), (23, .aload_n 0, 0, 0, 0), (24, .invokevirtual 139, 0, 0, 0), (27, .bipush 62, 0, 62, 0), (29, .if_icmp .ne 8, 37, 0, 0), (32, .bipush 8, 0, 8, 0), (34, .goto 18, 52, 0, 0), (37, .aload_n 0, 0, 0, 0), (38, .invokevirtual 139, 0, 0, 0), (41, .bipush 61, 0, 61, 0), (43, .if_icmp .ne 8, 51, 0, 0), (46, .bipush 9, 0, 9, 0), (48, .goto 4, 52, 0, 0), (51, .iconst (-1), 0, (-1), 0), (52, .istore_n 1, 0, 0, 0), (53, .iload_n 1, 0, 0, 0), (54, .iconst (-1), 0, (-1), 0), (55, .if_icmp .ne 13, 68, 0, 0), (58, .aload_n 0, 0, 0, 0), (59, .iconst 1, 0, 1, 0), (60, .aload_n 0, 0, 0, 0), (61, .getfield 133, 709, 0, 0), (64, .invokevirtual 146, 0, 0, 0), (67, .ireturn, 0, 0, 0), (68, .aload_n 0, 0, 0, 0), (69, .aload_n 0, 0, 0, 0), (70, .getfield 133, 709, 0, 0), (73, .iconst 1, 0, 1, 0), (74, .iadd, 0, 0, 0), (75, .putfield 133, 709, 0, 0), (78, .aload_n 0, 0, 0, 0), (79, .invokevirtual 195, 0, 0, 0), (82, .ifCond .ne 5, 87, 0, 0), (85, .iconst 0, 0, 0, 0), (86, .ireturn, 0, 0, 0), (87, .aload_n 0, 0, 0, 0), (88, .iload_n 1, 0, 0, 0), (89, .iconst 0, 0, 0, 0), (90, .invokevirtual 169, 0, 0, 0), (93, .aload_n 0, 0, 0, 0), (94, .invokevirtual 198, 0, 0, 0), (97, .iconst 1, 0, 1, 0), (98, .ireturn, 0, 0, 0)]
set_option maxRecDepth 20000 in
theorem bk_Md_readsCompared : BK m_Md_readsCompared cd_Md_readsCompared := ⟨pl_X12, pk_X12, fun E hE => (show ∀ E ∈ cd_Md_readsCompared, decode cX12_readsCompared E.1 = .ok (E.2.1, ilen E.2.1) ∧ exE pl_X12 E.1 E.2.1 E.2.2.1 E.2.2.2.1 E.2.2.2.2 = true by decide +kernel) E hE⟩
theorem nk_Md_readsCompared : NK m_Md_readsCompared 0 := ⟨tw1478, tw123, ⟨by decide +kernel, by decide +kernel⟩, by decide +kernel, Nat.le_of_ble_eq_true rfl⟩
def m_Md_lands : Mth := (yX12_lands, cX12_lands, 3, none, RX12)
def cd_Md_lands : List ME := [(0, .aload_n 0, 0, 0, 0), (1, .invokevirtual 166, 0, 0, 0), (4, .bipush 11, 0, 11, 0), (6, .if_icmp .eq 16, 22, 0, 0), (9, .iload_n 1, 0, 0, 0), (10, .ifCond .eq 63, 73, 0, 0), (13, .aload_n 0, 0, 0, 0), (14, .invokevirtual 166, 0, 0, 0), (17, .bipush 12, 0, 12, 0), (19, .if_icmp .ne 54, 73, 0, 0), (22, .aload_n 0, 0, 0, 0), (23, .getfield 26, 719, 0, 0), (26, .aload_n 0, 0, 0, 0), (27, .getfield 163, 715, 0, 0), (30, .iconst 1, 0, 1, 0), (31, .isub, 0, 0, 0), (32, .iaload, 260, 0, 0), (33, .ldc 159, 0, 1048576, 0), (35, .irem, 0, 0, 0), (36, .istore_n 2, 0, 0, 0), (37, .aload_n 0, 0, 0, 0), (38, .getfield 23, 718, 0, 0), (41, .iload_n 2, 0, 0, 0), (42, .ldc 159, 0, 1048576, 0), (44, .aload_n 0, 0, 0, 0), (45, .getfield 23, 718, 0, 0), (48, .iload_n 2, 0, 0, 0), (49, .iaload, 260, 0, 0), (50, .ldc 159, 0, 1048576, 0), (52, .idiv, 0, 0, 0), (53, .imul, 0, 0, 0), (54, .aload_n 0, 0, 0, 0), (55, .getfield 156, 714, 0, 0), (58, .iadd, 0, 0, 0), (59, .iastore, 260, 0, 0), (60, .aload_n 0, 0, 0, 0), (61, .aload_n 0, 0, 0, 0), (62, .getfield 163, 715, 0, 0), (65, .iconst 1, 0, 1, 0), (66, .isub, 0, 0, 0), (67, .putfield 163, 715, 0, 0), (70, .goto (-70), 0, 0, 0), (73, .return_, 0, 0, 0)]
set_option maxRecDepth 20000 in
theorem bk_Md_lands : BK m_Md_lands cd_Md_lands := ⟨pl_X12, pk_X12, fun E hE => (show ∀ E ∈ cd_Md_lands, decode cX12_lands E.1 = .ok (E.2.1, ilen E.2.1) ∧ exE pl_X12 E.1 E.2.1 E.2.2.1 E.2.2.2.1 E.2.2.2.2 = true by decide +kernel) E hE⟩
theorem nk_Md_lands : NK m_Md_lands 1 := ⟨tw1486, tw123, ⟨by decide +kernel, by decide +kernel⟩, by decide +kernel, Nat.le_of_ble_eq_true rfl⟩
def m_Md_jumps : Mth := (yX12_jumps, cX12_jumps, 2, none, RX12)
def cd_Md_jumps : List ME := [(0, .aload_n 0, 0, 0, 0), (1, .getfield 26, 719, 0, 0), (4, .aload_n 0, 0, 0, 0), (5, .getfield 163, 715, 0, 0), (8, .ldc 159, 0, 1048576, 0), (10, .iload_n 1, 0, 0, 0), (11, .imul, 0, 0, 0), (12, .aload_n 0, 0, 0, 0), (13, .getfield 156, 714, 0, 0), (16, .iadd, 0, 0, 0), (17, .iastore, 260, 0, 0), (18, .aload_n 0, 0, 0, 0), (19, .aload_n 0, 0, 0, 0), (20, .getfield 163, 715, 0, 0), (23, .iconst 1, 0, 1, 0), (24, .iadd, 0, 0, 0), (25, .putfield 163, 715, 0, 0), (28, .aload_n 0, 0, 0, 0), (29, .iload_n 1, 0, 0, 0), (30, .iconst 0, 0, 0, 0), (31, .invokevirtual 169, 0, 0, 0), (34, .aload_n 0, 0, 0, 0), (35, .aload_n 0, 0, 0, 0), (36, .getfield 133, 709, 0, 0), (39, .iconst 1, 0, 1, 0), (40, .iadd, 0, 0, 0), (41, .putfield 133, 709, 0, 0), (44, .return_, 0, 0, 0)]
set_option maxRecDepth 20000 in
theorem bk_Md_jumps : BK m_Md_jumps cd_Md_jumps := ⟨pl_X12, pk_X12, fun E hE => (show ∀ E ∈ cd_Md_jumps, decode cX12_jumps E.1 = .ok (E.2.1, ilen E.2.1) ∧ exE pl_X12 E.1 E.2.1 E.2.2.1 E.2.2.2.1 E.2.2.2.2 = true by decide +kernel) E hE⟩
theorem nk_Md_jumps : NK m_Md_jumps 1 := ⟨tw1490, tw123, ⟨by decide +kernel, by decide +kernel⟩, by decide +kernel, Nat.le_of_ble_eq_true rfl⟩
def m_Md_readsCondition : Mth := (yX12_readsCondition, cX12_readsCondition, 1, some .boolean, RX12)
def cd_Md_readsCondition : List ME := [(0, .aload_n 0, 0, 0, 0), (1, .invokevirtual 139, 0, 0, 0), (4, .bipush 40, 0, 40, 0), (6, .if_icmp .eq 13, 19, 0, 0), (9, .aload_n 0, 0, 0, 0), (10, .iconst 1, 0, 1, 0), (11, .aload_n 0, 0, 0, 0), (12, .getfield 133, 709, 0, 0), (15, .invokevirtual 146, 0, 0, 0), (18, .ireturn, 0, 0, 0), (19, .aload_n 0, 0, 0, 0), (20, .iconst 0, 0, 0, 0), (21, .putfield 160, 713, 0, 0), (24, .aload_n 0, 0, 0, 0), (25, .iconst 0, 0, 0, 0), (26, .putfield 163, 715, 0, 0), (29, .aload_n 0, 0, 0, 0), (30, .bipush 13, 0, 13, 0), (32, .invokevirtual 172, 0, 0, 0), (35, .ifCond .ne 5, 40, 0, 0), (38, .iconst 0, 0, 0, 0), (39, .ireturn, 0, 0, 0), (40, .aload_n 0, 0, 0, 0), (41, .invokevirtual 139, 0, 0, 0), (44, .bipush 33, 0, 33, 0), (46, .if_icmp .eq 12, 58, 0, 0), (49, .aload_n 0, 0, 0, 0), (50, .invokevirtual 139, 0, 0, 0), (53, .bipush 40, 0, 40, 0), (55, .if_icmp .ne 28, 83, 0, 0), (58, .aload_n 0, 0, 0, 0), (59, .aload_n 0, 0, 0, 0), (60, .invokevirtual 139, 0, 0, 0), (63, .bipush 33, 0, 33, 0), (65, .if_icmp .ne 8, 73, 0, 0), (68, .bipush 10, 0, 10, 0), (70, .goto 5, 75, 0, 0), (73, .bipush 13, 0, 13, 0), (75, .invokevirtual 172, 0, 0, 0), (78, .ifCond .ne (-38), 40, 0, 0), (81, .iconst 0, 0, 0, 0), (82, .ireturn, 0, 0, 0), (83, .aload_n 0, 0, 0, 0), (84, .invokevirtual 201, 0, 0, 0), (87, .ifCond .ne 5, 92, 0, 0), (90, .iconst 0, 0, 0, 0), (91, .ireturn, 0, 0, 0), (92, .aload_n 0, 0, 0, 0), (93, .invokevirtual 139, 0, 0, 0), (96, .bipush 41, 0, 41, 0), (98, .if_icmp .ne 54, 152, 0, 0), (101, .aload_n 0, 0, 0, 0), (102, .iconst 1, 0, 1, 0), (103, .invokevirtual 204, 0, 0, 0), (106, .aload_n 0, 0, 0, 0), (107, .aload_n 0, 0, 0, 0), (108, .getfield 163, 715, 0, 0), (111, .iconst 1, 0, 1, 0), (112, .isub, 0, 0, 0), (113, .putfield 163, 715, 0, 0), (116, .aload_n 0, 0, 0, 0), (117, .aload_n 0, 0, 0, 0), (118, .getfield 160, 713, 0, 0), (121, .iconst 1, 0, 1, 0), (122, .isub, 0, 0, 0), (123, .putfield 160, 713, 0, 0), (126, .aload_n 0, 0, 0, 0), (127, .aload_n 0, 0, 0, 0), (128, .getfield 133, 709, 0, 0), (131, .iconst 1, 0, 1, 0), (132, .iadd, 0, 0, 0), (133, .putfield 133, 709, 0, 0), (136, .aload_n 0, 0, 0, 0), (137, .getfield 163, 715, 0, 0), (140, .ifCond .ne 5, 145, 0, 0), (143, .iconst 1, 0, 1, 0), (144, .ireturn, 0, 0, 0), (145, .aload_n 0, 0, 0, 0), (146, .invokevirtual 198, 0, 0, 0), (149, .goto (-57), 92, 0, 0), (152, .aload_n 0, 0, 0, 0), (153, .invokevirtual 139, 0, 0, 0), (156, .bipush 38, 0, 38, 0), (158, .if_icmp .eq 22, 180, 0, 0), (161, .aload_n 0, 0, 0, 0), (162, .invokevirtual 139, 0, 0, 0), (165, .bipush 124, 0, 124, 0), (167, .if_icmp .eq 13, 180, 0, 0), (170, .aload_n 0, 0, 0, 0), (171, .iconst 1, 0, 1, 0), (172, .aload_n 0, 0, 0, 0), (173, .getfield 133, 709, 0, 0), (176, .invokevirtual 146, 0, 0, 0), (179, .ireturn, 0, 0, 0), (180, .aload_n 0, 0, 0, 0), (181, .aload_n 0, 0, 0, 0), (182, .invokevirtual 139, 0, 0, 0), (185, .bipush 124, 0, 124, 0), (187, .if_icmp .ne 7, 194, 0, 0), (190, .iconst 1, 0, 1, 0), (191, .goto 4, 195, 0, 0), (194, .iconst 0, 0, 0, 0), (195, .invokevirtual 204, 0, 0, 0), (198, .aload_n 0, 0, 0, 0), (199, .aload_n 0, 0, 0, 0), (200, .invokevirtual 139, 0, 0, 0), (203, .bipush 38, 0, 38, 0), (205, .if_icmp .ne 8, 213, 0, 0), (208, .bipush 11, 0, 11, 0), (210, .goto 5, 215, 0, 0), (213, .bipush 12, 0, 12, 0), (215, .invokevirtual 207, 0, 0, 0), (218, .goto (-178), 40, 0, 0)]
set_option maxRecDepth 20000 in
theorem bk_Md_readsCondition : BK m_Md_readsCondition cd_Md_readsCondition := ⟨pl_X12, pk_X12, fun E hE => (show ∀ E ∈ cd_Md_readsCondition, decode cX12_readsCondition E.1 = .ok (E.2.1, ilen E.2.1) ∧ exE pl_X12 E.1 E.2.1 E.2.2.1 E.2.2.2.1 E.2.2.2.2 = true by decide +kernel) E hE⟩
theorem nk_Md_readsCondition : NK m_Md_readsCondition 0 := ⟨tw1474, tw123, ⟨by decide +kernel, by decide +kernel⟩, by decide +kernel, Nat.le_of_ble_eq_true rfl⟩
def m_Md_readsClause : Mth := (yX12_readsClause, cX12_readsClause, 2, some .boolean, RX12)
def cd_Md_readsClause : List ME := [(0, .aload_n 0, 0, 0, 0), (1, .invokevirtual 139, 0, 0, 0), (4, .istore_n 1, 0, 0, 0), (5, .iload_n 1, 0, 0, 0), (6, .invokestatic 210, 0, 0, 0), (9, .ifCond .ne 13, 22, 0, 0), (12, .aload_n 0, 0, 0, 0), (13, .iconst 1, 0, 1, 0), (14, .aload_n 0, 0, 0, 0), (15, .getfield 133, 709, 0, 0), (18, .invokevirtual 146, 0, 0, 0), (21, .ireturn, 0, 0, 0), (22, .aload_n 0, 0, 0, 0), (23, .getfield 213, 716, 0, 0), (26, .bipush 16, 0, 16, 0), (28, .if_icmp .ne 13, 41, 0, 0), (31, .aload_n 0, 0, 0, 0), (32, .iconst 4, 0, 4, 0), (33, .aload_n 0, 0, 0, 0), (34, .getfield 133, 709, 0, 0), (37, .invokevirtual 146, 0, 0, 0), (40, .ireturn, 0, 0, 0), (41, .aload_n 0, 0, 0, 0), (42, .getfield 29, 720, 0, 0), (45, .aload_n 0, 0, 0, 0), (46, .getfield 213, 716, 0, 0), (49, .iload_n 1, 0, 0, 0), (50, .iastore, 16, 0, 0), (51, .aload_n 0, 0, 0, 0), (52, .aload_n 0, 0, 0, 0), (53, .getfield 133, 709, 0, 0), (56, .iconst 1, 0, 1, 0), (57, .iadd, 0, 0, 0), (58, .putfield 133, 709, 0, 0), (61, .aload_n 0, 0, 0, 0), (62, .getfield 32, 721, 0, 0), (65, .aload_n 0, 0, 0, 0), (66, .getfield 213, 716, 0, 0), (69, .aload_n 0, 0, 0, 0), (70, .getfield 156, 714, 0, 0), (73, .iastore, 16, 0, 0), (74, .aload_n 0, 0, 0, 0), (75, .iconst 0, 0, 0, 0), (76, .putfield 160, 713, 0, 0), (79, .aload_n 0, 0, 0, 0), (80, .iconst 0, 0, 0, 0), (81, .putfield 163, 715, 0, 0), (84, .aload_n 0, 0, 0, 0), (85, .invokevirtual 195, 0, 0, 0), (88, .ifCond .ne 5, 93, 0, 0), (91, .iconst 0, 0, 0, 0), (92, .ireturn, 0, 0, 0), (93, .aload_n 0, 0, 0, 0), (94, .getfield 35, 722, 0, 0), (97, .aload_n 0, 0, 0, 0), (98, .getfield 213, 716, 0, 0), (101, .aload_n 0, 0, 0, 0), (102, .getfield 156, 714, 0, 0), (105, .iastore, 16, 0, 0), (106, .aload_n 0, 0, 0, 0), (107, .invokevirtual 216, 0, 0, 0), (110, .ifCond .ne 5, 115, 0, 0), (113, .iconst 0, 0, 0, 0), (114, .ireturn, 0, 0, 0), (115, .aload_n 0, 0, 0, 0), (116, .getfield 38, 723, 0, 0), (119, .aload_n 0, 0, 0, 0), (120, .getfield 213, 716, 0, 0), (123, .aload_n 0, 0, 0, 0), (124, .getfield 156, 714, 0, 0), (127, .iastore, 16, 0, 0), (128, .aload_n 0, 0, 0, 0), (129, .aload_n 0, 0, 0, 0), (130, .getfield 213, 716, 0, 0), (133, .iconst 1, 0, 1, 0), (134, .iadd, 0, 0, 0), (135, .putfield 213, 716, 0, 0), (138, .iconst 1, 0, 1, 0), (139, .ireturn, 0, 0, 0)]
set_option maxRecDepth 20000 in
theorem bk_Md_readsClause : BK m_Md_readsClause cd_Md_readsClause := ⟨pl_X12, pk_X12, fun E hE => (show ∀ E ∈ cd_Md_readsClause, decode cX12_readsClause E.1 = .ok (E.2.1, ilen E.2.1) ∧ exE pl_X12 E.1 E.2.1 E.2.2.1 E.2.2.2.1 E.2.2.2.2 = true by decide +kernel) E hE⟩
theorem nk_Md_readsClause : NK m_Md_readsClause 0 := ⟨tw1416, tw123, ⟨by decide +kernel, by decide +kernel⟩, by decide +kernel, Nat.le_of_ble_eq_true rfl⟩
def m_Md_takes : Mth := (yX12_takes, cX12_takes, 2, some .boolean, RX12)
def cd_Md_takes : List ME := [(0, .aload_n 0, 0, 0, 0), (1, .invokevirtual 139, 0, 0, 0), (4, .iload_n 1, 0, 0, 0), (5, .if_icmp .eq 13, 18, 0, 0), (8, .aload_n 0, 0, 0, 0), (9, .iconst 1, 0, 1, 0), (10, .aload_n 0, 0, 0, 0), (11, .getfield 133, 709, 0, 0), (14, .invokevirtual 146, 0, 0, 0), (17, .ireturn, 0, 0, 0), (18, .aload_n 0, 0, 0, 0), (19, .aload_n 0, 0, 0, 0), (20, .getfield 133, 709, 0, 0), (23, .iconst 1, 0, 1, 0), (24, .iadd, 0, 0, 0), (25, .putfield 133, 709, 0, 0), (28, .iconst 1, 0, 1, 0), (29, .ireturn, 0, 0, 0)]
set_option maxRecDepth 20000 in
theorem bk_Md_takes : BK m_Md_takes cd_Md_takes := ⟨pl_X12, pk_X12, fun E hE => (show ∀ E ∈ cd_Md_takes, decode cX12_takes E.1 = .ok (E.2.1, ilen E.2.1) ∧ exE pl_X12 E.1 E.2.1 E.2.2.1 E.2.2.2.1 E.2.2.2.2 = true by decide +kernel) E hE⟩
theorem nk_Md_takes : NK m_Md_takes 1 := ⟨tw1494, tw123, ⟨by decide +kernel, by decide +kernel⟩, by decide +kernel, Nat.le_of_ble_eq_true rfl⟩
def m_Md_law : Mth := (yX12_law, cX12_law, 4, some .int, RX12)
def cd_Md_law : List ME := [(0, .iload_n 1, 0, 0, 0), (1, .iconst 1, 0, 1, 0), (2, .sipush 240, 0, 240, 0), (5, .invokestatic 111, 0, 0, 0), (8, .ifCond .eq 11, 19, 0, 0), (11, .iload_n 1, 0, 0, 0), (12, .aload_n 0, 0, 0, 0), (13, .getfield 126, 708, 0, 0), (16, .if_icmp .le 5, 21, 0, 0), (19, .iconst (-1), 0, (-1), 0), (20, .ireturn, 0, 0, 0), (21, .aload_n 0, 0, 0, 0), (22, .iconst 0, 0, 0, 0), (23, .putfield 133, 709, 0, 0), (26, .aload_n 0, 0, 0, 0), (27, .iload_n 1, 0, 0, 0), (28, .putfield 136, 710, 0, 0), (31, .aload_n 0, 0, 0, 0), (32, .iconst 0, 0, 0, 0), (33, .putfield 156, 714, 0, 0), (36, .aload_n 0, 0, 0, 0), (37, .iconst 0, 0, 0, 0), (38, .putfield 213, 716, 0, 0), (41, .aload_n 0, 0, 0, 0), (42, .invokevirtual 219, 0, 0, 0), (45, .istore_n 2, 0, 0, 0), (46, .iload_n 2, 0, 0, 0), (47, .ifCond .eq 39, 86, 0, 0), (50, .aload_n 0, 0, 0, 0), (51, .getfield 133, 709, 0, 0), (54, .aload_n 0, 0, 0, 0), (55, .getfield 136, 710, 0, 0), (58, .if_icmp .ge 28, 86, 0, 0), (61, .aload_n 0, 0, 0, 0), (62, .bipush 59, 0, 59, 0), (64, .invokevirtual 222, 0, 0, 0), (67, .ifCond .eq 14, 81, 0, 0), (70, .aload_n 0, 0, 0, 0), (71, .invokevirtual 219, 0, 0, 0), (74, .ifCond .eq 7, 81, 0, 0), (77, .iconst 1, 0, 1, 0), (78, .goto 4, 82, 0, 0), (81, .iconst 0, 0, 0, 0), (82, .istore_n 2, 0, 0, 0), (83, .goto (-37), 46, 0, 0), (86, .aload_n 0, 0, 0, 0), (87, .iconst 0, 0, 0, 0), (88, .putfield 126, 708, 0, 0), (91, .iload_n 2, 0, 0, 0), (92, .ifCond .ne 8, 100, 0, 0), (95, .aload_n 0, 0, 0, 0), (96, .getfield 143, 711, 0, 0), (99, .ireturn, 0, 0, 0), (100, .aload_n 0, 0, 0, 0), (101, .aload_n 0, 0, 0, 0), (102, .getfield 213, 716, 0, 0), (105, .putfield 225, 717, 0, 0), (108, .iconst 0, 0, 0, 0), (109, .istore_n 3, 0, 0, 0), (110, .iload_n 3, 0, 0, 0), (111, .aload_n 0, 0, 0, 0), (112, .getfield 156, 714, 0, 0), (115, .if_icmp .ge 21, 136, 0, 0), (118, .aload_n 0, 0, 0, 0), (119, .getfield 41, 724, 0, 0), (122, .iload_n 3, 0, 0, 0), (123, .aload_n 0, 0, 0, 0), (124, .getfield 23, 718, 0, 0), (127, .iload_n 3, 0, 0, 0), (128, .iaload, 260, 0, 0), (129, .iastore, 260, 0, 0), (130, .iinc 3 1, 0, 1, 0), (133, .goto (-23), 110, 0, 0), (136, .iconst 0, 0, 0, 0), (137, .istore_n 3, 0, 0, 0), (138, .iload_n 3, 0, 0, 0), (139, .aload_n 0, 0, 0, 0), (140, .getfield 213, 716, 0, 0), (143, .if_icmp .ge 57, 200, 0, 0), (146, .aload_n 0, 0, 0, 0), (147, .getfield 44, 725, 0, 0), (150, .iload_n 3, 0, 0, 0), (151, .aload_n 0, 0, 0, 0), (152, .getfield 29, 720, 0, 0), (155, .iload_n 3, 0, 0, 0), (156, .iaload, 16, 0, 0), (157, .iastore, 16, 0, 0), (158, .aload_n 0, 0, 0, 0), (159, .getfield 47, 726, 0, 0), (162, .iload_n 3, 0, 0, 0), (163, .aload_n 0, 0, 0, 0), (164, .getfield 32, 721, 0, 0), (167, .iload_n 3, 0, 0, 0), (168, .iaload, 16, 0, 0), (169, .iastore, 16, 0, 0), (170, .aload_n 0, 0, 0, 0), (171, .getfield 50, 727, 0, 0), (174, .iload_n 3, 0, 0, 0), (175, .aload_n 0, 0, 0, 0), (176, .getfield 35, 722, 0, 0), (179, .iload_n 3, 0, 0, 0), (180, .iaload, 16, 0, 0), (181, .iastore, 16, 0, 0), (182, .aload_n 0, 0, 0, 0), (183, .getfield 53, 728, 0, 0), (186, .iload_n 3, 0, 0, 0), (187, .aload_n 0, 0, 0, 0), (188, .getfield 38, 723, 0, 0), (191, .iload_n 3, 0, 0, 0), (192, .iaload, 16, 0, 0), (193, .iastore, 16, 0, 0), (194, .iinc 3 1, 0, 1, 0), (197, .goto (-59), 138, 0, 0), (200, .aload_n 0, 0, 0, 0), (201, .getfield 213, 716, 0, 0), (204, .ireturn, 0, 0, 0)]
set_option maxRecDepth 20000 in
theorem bk_Md_law : BK m_Md_law cd_Md_law := ⟨pl_X12, pk_X12, fun E hE => (show ∀ E ∈ cd_Md_law, decode cX12_law E.1 = .ok (E.2.1, ilen E.2.1) ∧ exE pl_X12 E.1 E.2.1 E.2.2.1 E.2.2.2.1 E.2.2.2.2 = true by decide +kernel) E hE⟩
theorem nk_Md_law : NK m_Md_law 1 := ⟨tw1412, tw123, ⟨by decide +kernel, by decide +kernel⟩, by decide +kernel, Nat.le_of_ble_eq_true rfl⟩
def m_Md_readsHeight : Mth := (yX12_readsHeight, cX12_readsHeight, 6, some .boolean, RX12)
def cd_Md_readsHeight : List ME := [(0, .aload_n 0, 0, 0, 0), (1, .getfield 133, 709, 0, 0), (4, .istore_n 1, 0, 0, 0), (5, .aload_n 0, 0, 0, 0), (6, .invokevirtual 139, 0, 0, 0), (9, .bipush 45, 0, 45, 0), (11, .if_icmp .ne 7, 18, 0, 0), (14, .iconst 1, 0, 1, 0), (15, .goto 4, 19, 0, 0), (18, .iconst 0, 0, 0, 0), (19, .istore_n 2, 0, 0, 0), (20, .iload_n 2, 0, 0, 0), (21, .ifCond .eq 13, 34, 0, 0), (24, .aload_n 0, 0, 0, 0), (25, .aload_n 0, 0, 0, 0), (26, .getfield 133, 709, 0, 0), (29, .iconst 1, 0, 1, 0), (30, .iadd, 0, 0, 0), (31, .putfield 133, 709, 0, 0), (34, .aload_n 0, 0, 0, 0), (35, .invokevirtual 139, 0, 0, 0), (38, .iload_n 2, 0, 0, 0), (39, .ifCond .eq 8, 47, 0, 0), (42, .bipush 49, 0, 49, 0), (44, .goto 5, 49, 0, 0), (47, .bipush 48, 0, 48, 0), (49, .bipush 57, 0, 57, 0), (51, .invokestatic 111, 0, 0, 0), (54, .ifCond .ne 13, 67, 0, 0), (57, .aload_n 0, 0, 0, 0), (58, .iconst 1, 0, 1, 0), (59, .aload_n 0, 0, 0, 0), (60, .getfield 133, 709, 0, 0), (63, .invokevirtual 146, 0, 0, 0), (66, .ireturn, 0, 0, 0), (67, .iload_n 2, 0, 0, 0), (68, .ifCond .eq 13, 81, 0, 0), (71, .bipush 48, 0, 48, 0), (73, .aload_n 0, 0, 0, 0), (74, .invokevirtual 139, 0, 0, 0), (77, .isub, 0, 0, 0), (78, .goto 10, 88, 0, 0), (81, .aload_n 0, 0, 0, 0), (82, .invokevirtual 139, 0, 0, 0), (85, .bipush 48, 0, 48, 0), (87, .isub, 0, 0, 0), (88, .istore_n 3, 0, 0, 0), (89, .iconst 1, 0, 1, 0), (90, .istore 4, 0, 0, 0), (92, .aload_n 0, 0, 0, 0), (93, .aload_n 0, 0, 0, 0), (94, .getfield 133, 709, 0, 0), (97, .iconst 1, 0, 1, 0), (98, .iadd, 0, 0, 0), (99, .putfield 133, 709, 0, 0), (102, .aload_n 0, 0, 0, 0), (103, .invokevirtual 139, 0, 0, 0), (106, .bipush 42, 0, 42, 0), (108, .if_icmp .ne 56, 164, 0, 0), (111, .aload_n 0, 0, 0, 0), (112, .aload_n 0, 0, 0, 0), (113, .getfield 133, 709, 0, 0), (116, .iconst 1, 0, 1, 0), (117, .iadd, 0, 0, 0), (118, .putfield 133, 709, 0, 0), (121, .aload_n 0, 0, 0, 0), (122, .invokevirtual 139, 0, 0, 0), (125, .bipush 50, 0, 50, 0), (127, .bipush 56, 0, 56, 0), (129, .invokestatic 111, 0, 0, 0), (132, .ifCond .ne 13, 145, 0, 0), (135, .aload_n 0, 0, 0, 0), (136, .iconst 1, 0, 1, 0), (137, .aload_n 0, 0, 0, 0), (138, .getfield 133, 709, 0, 0), (141, .invokevirtual 146, 0, 0, 0), (144, .ireturn, 0, 0, 0), (145, .aload_n 0, 0, 0, 0), (146, .invokevirtual 139, 0, 0, 0), (149, .bipush 48, 0, 48, 0), (151, .isub, 0, 0, 0), (152, .istore 4, 0, 0, 0), (154, .aload_n 0, 0, 0, 0), (155, .aload_n 0, 0, 0, 0), (156, .getfield 133, 709, 0, 0), (159, .iconst 1, 0, 1, 0), (160, .iadd, 0, 0, 0), (161, .putfield 133, 709, 0, 0), (164, .aload_n 0, 0, 0, 0), (165, .getfield 268, 733, 0, 0), (168, .iload 4, 0, 0, 0), (170, .iadd, 0, 0, 0), (171, .bipush 8, 0, 8, 0), (173, .if_icmp .le 11, 184, 0, 0), (176, .aload_n 0, 0, 0, 0), (177, .bipush 6, 0, 6, 0), (179, .iload_n 1, 0, 0, 0), (180, .invokevirtual 146, 0, 0, 0), (183, .ireturn, 0, 0, 0), (184, .iconst 0, 0, 0, 0), (185, .istore 5, 0, 0, 0), (187, .iload 5, 0, 0, 0), (189, .iload 4, 0, 0, 0), (191, .if_icmp .ge 22, 213, 0, 0), (194, .aload_n 0, 0, 0, 0), (195, .getfield 62, 731, 0, 0), (198, .aload_n 0, 0, 0, 0), (199, .getfield 268, 733, 0, 0), (202, .iload 5, 0, 0, 0), (204, .iadd, 0, 0, 0), (205, .iload_n 3, 0, 0, 0), (206, .iastore, 8, 0, 0), (207, .iinc 5 1, 0, 1, 0), (210, .goto (-23), 187, 0, 0), (213, .aload_n 0, 0, 0, 0), (214, .aload_n 0, 0, 0, 0), (215, .getfield 268, 733, 0, 0), (218, .iload 4, 0, 0, 0), (220, .iadd, 0, 0, 0), (221, .putfield 268, 733, 0, 0), (224, .iconst 1, 0, 1, 0), (225, .ireturn, 0, 0, 0)]
set_option maxRecDepth 20000 in
theorem bk_Md_readsHeight : BK m_Md_readsHeight cd_Md_readsHeight := ⟨pl_X12, pk_X12, fun E hE => (show ∀ E ∈ cd_Md_readsHeight, decode cX12_readsHeight E.1 = .ok (E.2.1, ilen E.2.1) ∧ exE pl_X12 E.1 E.2.1 E.2.2.1 E.2.2.2.1 E.2.2.2.2 = true by decide +kernel) E hE⟩
theorem nk_Md_readsHeight : NK m_Md_readsHeight 0 := ⟨tw1502, tw123, ⟨by decide +kernel, by decide +kernel⟩, by decide +kernel, Nat.le_of_ble_eq_true rfl⟩
def m_Md_size : Mth := (yX12_size, cX12_size, 1, some .int, RX12)
def cd_Md_size : List ME := [(0, .iload_n 0, 0, 0, 0), (1, .ifCond .ge 8, 9, 0, 0), (4, .iload_n 0, 0, 0, 0), (5, .ineg, 0, 0, 0), (6, .goto 4, 10, 0, 0), (9, .iload_n 0, 0, 0, 0), (10, .ireturn, 0, 0, 0)]
set_option maxRecDepth 20000 in
theorem bk_Md_size : BK m_Md_size cd_Md_size := ⟨pl_X12, pk_X12, fun E hE => (show ∀ E ∈ cd_Md_size, decode cX12_size E.1 = .ok (E.2.1, ilen E.2.1) ∧ exE pl_X12 E.1 E.2.1 E.2.2.1 E.2.2.2.1 E.2.2.2.2 = true by decide +kernel) E hE⟩
theorem nk_Md_size : NK m_Md_size 1 := ⟨tw1505, tw123, ⟨by decide +kernel, by decide +kernel⟩, by decide +kernel, Nat.le_of_ble_eq_true rfl⟩
def m_Md_edge : Mth := (yX12_edge, cX12_edge, 6, some .int, RX12)
def cd_Md_edge : List ME := [(0, .iload_n 1, 0, 0, 0), (1, .invokestatic 97, 0, 0, 0), (4, .ifCond .eq 21, 25, 0, 0), (7, .iload_n 2, 0, 0, 0), (8, .iconst 1, 0, 1, 0), (9, .bipush 40, 0, 40, 0), (11, .invokestatic 111, 0, 0, 0), (14, .ifCond .eq 11, 25, 0, 0), (17, .iload_n 2, 0, 0, 0), (18, .aload_n 0, 0, 0, 0), (19, .getfield 126, 708, 0, 0), (22, .if_icmp .le 5, 27, 0, 0), (25, .iconst (-1), 0, (-1), 0), (26, .ireturn, 0, 0, 0), (27, .aload_n 0, 0, 0, 0), (28, .iconst 0, 0, 0, 0), (29, .putfield 133, 709, 0, 0), (32, .aload_n 0, 0, 0, 0), (33, .iload_n 2, 0, 0, 0), (34, .putfield 136, 710, 0, 0), (37, .aload_n 0, 0, 0, 0), (38, .iconst 0, 0, 0, 0), (39, .putfield 268, 733, 0, 0), (42, .aload_n 0, 0, 0, 0), (43, .invokevirtual 271, 0, 0, 0), (46, .istore_n 3, 0, 0, 0), (47, .iload_n 3, 0, 0, 0), (48, .ifCond .eq 48, 96, 0, 0), (51, .aload_n 0, 0, 0, 0), (52, .getfield 133, 709, 0, 0), (55, .aload_n 0, 0, 0, 0), (56, .getfield 136, 710, 0, 0), (59, .if_icmp .lt 12, 71, 0, 0), (62, .aload_n 0, 0, 0, 0), (63, .getfield 268, 733, 0, 0), (66, .bipush 8, 0, 8, 0), (68, .if_icmp .ge 28, 96, 0, 0), (71, .aload_n 0, 0, 0, 0), (72, .bipush 44, 0, 44, 0), (74, .invokevirtual 222, 0, 0, 0), (77, .ifCond .eq 14, 91, 0, 0), (80, .aload_n 0, 0, 0, 0), (81, .invokevirtual 271, 0, 0, 0), (84, .ifCond .eq 7, 91, 0, 0), (87, .iconst 1, 0, 1, 0), (88, .goto 4, 92, 0, 0), (91, .iconst 0, 0, 0, 0), (92, .istore_n 3, 0, 0, 0), (93, .goto (-46), 47, 0, 0), (96, .aload_n 0, 0, 0, 0), (97, .iconst 0, 0, 0, 0), (98, .putfield 126, 708, 0, 0), (101, .iload_n 3, 0, 0, 0), (102, .ifCond .ne 8, 110, 0, 0), (105, .aload_n 0, 0, 0, 0), (106, .getfield 143, 711, 0, 0), (109, .ireturn, 0, 0, 0), (110, .iconst 0, 0, 0, 0), (111, .istore 4, 0, 0, 0), (113, .iconst 0, 0, 0, 0), (114, .istore 5, 0, 0, 0), (116, .iload 5, 0, 0, 0), (118, .bipush 8, 0, 8, 0), (120, .if_icmp .ge 46, 166, 0, 0), (123, .aload_n 0, 0, 0, 0), (124, .getfield 7, 704, 0, 0), (127, .bipush 112, 0, 112, 0), (129, .bipush 8, 0, 8, 0), (131, .iload_n 1, 0, 0, 0), (132, .imul, 0, 0, 0), (133, .iadd, 0, 0, 0), (134, .iload 5, 0, 0, 0), (136, .iadd, 0, 0, 0), (137, .aload_n 0, 0, 0, 0), (138, .getfield 62, 731, 0, 0), (141, .iload 5, 0, 0, 0), (143, .iaload, 8, 0, 0), (144, .iastore, 1936, 0, 0), (145, .iload 4, 0, 0, 0), (147, .aload_n 0, 0, 0, 0), (148, .getfield 62, 731, 0, 0), (151, .iload 5, 0, 0, 0), (153, .iaload, 8, 0, 0), (154, .invokestatic 239, 0, 0, 0), (157, .iadd, 0, 0, 0), (158, .istore 4, 0, 0, 0), (160, .iinc 5 1, 0, 1, 0), (163, .goto (-47), 116, 0, 0), (166, .iload 4, 0, 0, 0), (168, .ireturn, 0, 0, 0)]
set_option maxRecDepth 20000 in
theorem bk_Md_edge : BK m_Md_edge cd_Md_edge := ⟨pl_X12, pk_X12, fun E hE => (show ∀ E ∈ cd_Md_edge, decode cX12_edge E.1 = .ok (E.2.1, ilen E.2.1) ∧ exE pl_X12 E.1 E.2.1 E.2.2.1 E.2.2.2.1 E.2.2.2.2 = true by decide +kernel) E hE⟩
theorem nk_Md_edge : NK m_Md_edge 2 := ⟨tw1498, tw123, ⟨by decide +kernel, by decide +kernel⟩, by decide +kernel, Nat.le_of_ble_eq_true rfl⟩
def m_Md_readsStop : Mth := (yX12_readsStop, cX12_readsStop, 4, some .boolean, RX12)
def cd_Md_readsStop : List ME := [(0, .aload_n 0, 0, 0, 0), (1, .invokevirtual 152, 0, 0, 0), (4, .ifCond .ne 13, 17, 0, 0), (7, .aload_n 0, 0, 0, 0), (8, .iconst 1, 0, 1, 0), (9, .aload_n 0, 0, 0, 0), (10, .getfield 133, 709, 0, 0), (13, .invokevirtual 146, 0, 0, 0), (16, .ireturn, 0, 0, 0), (17, .aload_n 0, 0, 0, 0), (18, .getfield 274, 734, 0, 0), (21, .bipush 16, 0, 16, 0), (23, .if_icmp .ne 13, 36, 0, 0), (26, .aload_n 0, 0, 0, 0), (27, .iconst 4, 0, 4, 0), (28, .aload_n 0, 0, 0, 0), (29, .getfield 133, 709, 0, 0), (32, .invokevirtual 146, 0, 0, 0), (35, .ireturn, 0, 0, 0), (36, .aload_n 0, 0, 0, 0), (37, .invokevirtual 139, 0, 0, 0), (40, .bipush 48, 0, 48, 0), (42, .isub, 0, 0, 0), (43, .istore_n 1, 0, 0, 0), (44, .iload_n 1, 0, 0, 0), (45, .bipush 6, 0, 6, 0), (47, .if_icmp .lt 13, 60, 0, 0), (50, .aload_n 0, 0, 0, 0), (51, .iconst 3, 0, 3, 0), (52, .aload_n 0, 0, 0, 0), (53, .getfield 133, 709, 0, 0), (56, .invokevirtual 146, 0, 0, 0), (59, .ireturn, 0, 0, 0), (60, .iconst 1, 0, 1, 0), (61, .istore_n 2, 0, 0, 0), (62, .aload_n 0, 0, 0, 0), (63, .aload_n 0, 0, 0, 0), (64, .getfield 133, 709, 0, 0), (67, .iconst 1, 0, 1, 0), (68, .iadd, 0, 0, 0), (69, .putfield 133, 709, 0, 0), (72, .aload_n 0, 0, 0, 0), (73, .invokevirtual 139, 0, 0, 0), (76, .bipush 42, 0, 42, 0), (78, .if_icmp .ne 55, 133, 0, 0), (81, .aload_n 0, 0, 0, 0), (82, .aload_n 0, 0, 0, 0), (83, .getfield 133, 709, 0, 0), (86, .iconst 1, 0, 1, 0), (87, .iadd, 0, 0, 0), (88, .putfield 133, 709, 0, 0), (91, .aload_n 0, 0, 0, 0), (92, .invokevirtual 139, 0, 0, 0), (95, .bipush 50, 0, 50, 0), (97, .bipush 57, 0, 57, 0), (99, .invokestatic 111, 0, 0, 0), (102, .ifCond .ne 13, 115, 0, 0), (105, .aload_n 0, 0, 0, 0), (106, .iconst 1, 0, 1, 0), (107, .aload_n 0, 0, 0, 0), (108, .getfield 133, 709, 0, 0), (111, .invokevirtual 146, 0, 0, 0), (114, .ireturn, 0, 0, 0), (115, .aload_n 0, 0, 0, 0), (116, .invokevirtual 139, 0, 0, 0), (119, .bipush 48, 0, 48, 0), (121, .isub, 0, 0, 0), (122, .istore_n 2, 0, 0, 0), (123, .aload_n 0, 0, 0, 0), (124, .aload_n 0, 0, 0, 0), (125, .getfield 133, 709, 0, 0), (128, .iconst 1, 0, 1, 0), (129, .iadd, 0, 0, 0), (130, .putfield 133, 709, 0, 0), (133, .iconst 0, 0, 0, 0), (134, .istore_n 3, 0, 0, 0), (135, .iload_n 3, 0, 0, 0), (136, .iload_n 2, 0, 0, 0), (137, .if_icmp .ge 21, 158, 0, 0), (140, .aload_n 0, 0, 0, 0), (141, .getfield 65, 732, 0, 0), (144, .aload_n 0, 0, 0, 0), (145, .getfield 268, 733, 0, 0), (148, .iload_n 3, 0, 0, 0), (149, .iadd, 0, 0, 0), (150, .iload_n 1, 0, 0, 0), (151, .iastore, 144, 0, 0), (152, .iinc 3 1, 0, 1, 0), (155, .goto (-20), 135, 0, 0), (158, .aload_n 0, 0, 0, 0), (159, .aload_n 0, 0, 0, 0), (160, .getfield 268, 733, 0, 0), (163, .iload_n 2, 0, 0, 0), (164, .iadd, 0, 0, 0), (165, .putfield 268, 733, 0, 0), (168, .aload_n 0, 0, 0, 0), (169, .aload_n 0, 0, 0, 0), (170, .getfield 274, 734, 0, 0), (173, .iconst 1, 0, 1, 0), (174, .iadd, 0, 0, 0), (175, .putfield 274, 734, 0, 0), (178, .iconst 1, 0, 1, 0), (179, .ireturn, 0, 0, 0)]
set_option maxRecDepth 20000 in
theorem bk_Md_readsStop : BK m_Md_readsStop cd_Md_readsStop := ⟨pl_X12, pk_X12, fun E hE => (show ∀ E ∈ cd_Md_readsStop, decode cX12_readsStop E.1 = .ok (E.2.1, ilen E.2.1) ∧ exE pl_X12 E.1 E.2.1 E.2.2.1 E.2.2.2.1 E.2.2.2.2 = true by decide +kernel) E hE⟩
theorem nk_Md_readsStop : NK m_Md_readsStop 0 := ⟨tw1513, tw123, ⟨by decide +kernel, by decide +kernel⟩, by decide +kernel, Nat.le_of_ble_eq_true rfl⟩
def m_Md_journey : Mth := (yX12_journey, cX12_journey, 5, some .int, RX12)
def cd_Md_journey : List ME := [(0, .aload_n 0, 0, 0, 0), (1, .iload_n 1, 0, 0, 0), (2, .invokevirtual 105, 0, 0, 0), (5, .ifCond .eq 21, 26, 0, 0), (8, .iload_n 2, 0, 0, 0), (9, .iconst 1, 0, 1, 0), (10, .bipush 40, 0, 40, 0), (12, .invokestatic 111, 0, 0, 0), (15, .ifCond .eq 11, 26, 0, 0), (18, .iload_n 2, 0, 0, 0), (19, .aload_n 0, 0, 0, 0), (20, .getfield 126, 708, 0, 0), (23, .if_icmp .le 5, 28, 0, 0), (26, .iconst (-1), 0, (-1), 0), (27, .ireturn, 0, 0, 0), (28, .aload_n 0, 0, 0, 0), (29, .iconst 0, 0, 0, 0), (30, .putfield 133, 709, 0, 0), (33, .aload_n 0, 0, 0, 0), (34, .iload_n 2, 0, 0, 0), (35, .putfield 136, 710, 0, 0), (38, .aload_n 0, 0, 0, 0), (39, .iconst 0, 0, 0, 0), (40, .putfield 268, 733, 0, 0), (43, .aload_n 0, 0, 0, 0), (44, .iconst 0, 0, 0, 0), (45, .putfield 274, 734, 0, 0), (48, .aload_n 0, 0, 0, 0), (49, .invokevirtual 277, 0, 0, 0), (52, .istore_n 3, 0, 0, 0), (53, .iload_n 3, 0, 0, 0), (54, .ifCond .eq 39, 93, 0, 0), (57, .aload_n 0, 0, 0, 0), (58, .getfield 133, 709, 0, 0), (61, .aload_n 0, 0, 0, 0), (62, .getfield 136, 710, 0, 0), (65, .if_icmp .ge 28, 93, 0, 0), (68, .aload_n 0, 0, 0, 0), (69, .bipush 44, 0, 44, 0), (71, .invokevirtual 222, 0, 0, 0), (74, .ifCond .eq 14, 88, 0, 0), (77, .aload_n 0, 0, 0, 0), (78, .invokevirtual 277, 0, 0, 0), (81, .ifCond .eq 7, 88, 0, 0), (84, .iconst 1, 0, 1, 0), (85, .goto 4, 89, 0, 0), (88, .iconst 0, 0, 0, 0), (89, .istore_n 3, 0, 0, 0), (90, .goto (-37), 53, 0, 0), (93, .aload_n 0, 0, 0, 0), (94, .iconst 0, 0, 0, 0), (95, .putfield 126, 708, 0, 0), (98, .iload_n 3, 0, 0, 0), (99, .ifCond .ne 8, 107, 0, 0), (102, .aload_n 0, 0, 0, 0), (103, .getfield 143, 711, 0, 0), (106, .ireturn, 0, 0, 0), (107, .aload_n 0, 0, 0, 0), (108, .getfield 7, 704, 0, 0), (111, .bipush 84, 0, 84, 0), (113, .iload_n 1, 0, 0, 0), (114, .iadd, 0, 0, 0), (115, .iconst 0, 0, 0, 0), (116, .iastore, 1936, 0, 0), (117, .aload_n 0, 0, 0, 0), (118, .getfield 7, 704, 0, 0), (121, .bipush 96, 0, 96, 0), (123, .iload_n 1, 0, 0, 0), (124, .iadd, 0, 0, 0), (125, .aload_n 0, 0, 0, 0), (126, .getfield 268, 733, 0, 0), (129, .iastore, 1936, 0, 0), (130, .iconst 0, 0, 0, 0), (131, .istore 4, 0, 0, 0), (133, .iload 4, 0, 0, 0), (135, .aload_n 0, 0, 0, 0), (136, .getfield 268, 733, 0, 0), (139, .if_icmp .ge 33, 172, 0, 0), (142, .aload_n 0, 0, 0, 0), (143, .getfield 7, 704, 0, 0), (146, .sipush 208, 0, 208, 0), (149, .sipush 144, 0, 144, 0), (152, .iload_n 1, 0, 0, 0), (153, .imul, 0, 0, 0), (154, .iadd, 0, 0, 0), (155, .iload 4, 0, 0, 0), (157, .iadd, 0, 0, 0), (158, .aload_n 0, 0, 0, 0), (159, .getfield 65, 732, 0, 0), (162, .iload 4, 0, 0, 0), (164, .iaload, 144, 0, 0), (165, .iastore, 1936, 0, 0), (166, .iinc 4 1, 0, 1, 0), (169, .goto (-36), 133, 0, 0), (172, .aload_n 0, 0, 0, 0), (173, .getfield 268, 733, 0, 0), (176, .ireturn, 0, 0, 0)]
set_option maxRecDepth 20000 in
theorem bk_Md_journey : BK m_Md_journey cd_Md_journey := ⟨pl_X12, pk_X12, fun E hE => (show ∀ E ∈ cd_Md_journey, decode cX12_journey E.1 = .ok (E.2.1, ilen E.2.1) ∧ exE pl_X12 E.1 E.2.1 E.2.2.1 E.2.2.2.1 E.2.2.2.2 = true by decide +kernel) E hE⟩
theorem nk_Md_journey : NK m_Md_journey 2 := ⟨tw1509, tw123, ⟨by decide +kernel, by decide +kernel⟩, by decide +kernel, Nat.le_of_ble_eq_true rfl⟩
def m_Md_travels : Mth := (yX12_travels, cX12_travels, 2, none, RX12)
def cd_Md_travels : List ME := [(0, .aload_n 0, 0, 0, 0), (1, .iload_n 1, 0, 0, 0), (2, .invokevirtual 119, 0, 0, 0), (5, .ifCond .eq 24, 29, 0, 0), (8, .aload_n 0, 0, 0, 0), (9, .getfield 7, 704, 0, 0), (12, .bipush 84, 0, 84, 0), (14, .iload_n 1, 0, 0, 0), (15, .iadd, 0, 0, 0), (16, .iaload, 1936, 0, 0), (17, .aload_n 0, 0, 0, 0), (18, .getfield 7, 704, 0, 0), (21, .bipush 96, 0, 96, 0), (23, .iload_n 1, 0, 0, 0), (24, .iadd, 0, 0, 0), (25, .iaload, 1936, 0, 0), (26, .if_icmp .ne 4, 30, 0, 0), (29, .return_, 0, 0, 0), (30, .aload_n 0, 0, 0, 0), (31, .getfield 7, 704, 0, 0), (34, .bipush 12, 0, 12, 0), (36, .iload_n 1, 0, 0, 0), (37, .iadd, 0, 0, 0), (38, .aload_n 0, 0, 0, 0), (39, .getfield 7, 704, 0, 0), (42, .sipush 208, 0, 208, 0), (45, .sipush 144, 0, 144, 0), (48, .iload_n 1, 0, 0, 0), (49, .imul, 0, 0, 0), (50, .iadd, 0, 0, 0), (51, .aload_n 0, 0, 0, 0), (52, .getfield 7, 704, 0, 0), (55, .bipush 84, 0, 84, 0), (57, .iload_n 1, 0, 0, 0), (58, .iadd, 0, 0, 0), (59, .iaload, 1936, 0, 0), (60, .iadd, 0, 0, 0), (61, .iaload, 1936, 0, 0), (62, .iastore, 1936, 0, 0), (63, .aload_n 0, 0, 0, 0), (64, .getfield 7, 704, 0, 0), (67, .bipush 84, 0, 84, 0), (69, .iload_n 1, 0, 0, 0), (70, .iadd, 0, 0, 0), (71, .aload_n 0, 0, 0, 0), (72, .getfield 7, 704, 0, 0), (75, .bipush 84, 0, 84, 0), (77, .iload_n 1, 0, 0, 0), (78, .iadd, 0, 0, 0), (79, .iaload, 1936, 0, 0), (80, .iconst 1, 0, 1, 0), (81, .iadd, 0, 0, 0), (82, .iastore, 1936, 0, 0), (83, .return_, 0, 0, 0)]
set_option maxRecDepth 20000 in
theorem bk_Md_travels : BK m_Md_travels cd_Md_travels := ⟨pl_X12, pk_X12, fun E hE => (show ∀ E ∈ cd_Md_travels, decode cX12_travels E.1 = .ok (E.2.1, ilen E.2.1) ∧ exE pl_X12 E.1 E.2.1 E.2.2.1 E.2.2.2.1 E.2.2.2.2 = true by decide +kernel) E hE⟩
theorem nk_Md_travels : NK m_Md_travels 1 := ⟨tw1525, tw123, ⟨by decide +kernel, by decide +kernel⟩, by decide +kernel, Nat.le_of_ble_eq_true rfl⟩
def m_Md_haveTried : Mth := (yX12_haveTried, cX12_haveTried, 3, none, RX12)
def cd_Md_haveTried : List ME := [(0, .aload_n 0, 0, 0, 0), (1, .getfield 7, 704, 0, 0), (4, .bipush 60, 0, 60, 0), (6, .iload_n 1, 0, 0, 0), (7, .iadd, 0, 0, 0), (8, .aload_n 0, 0, 0, 0), (9, .getfield 7, 704, 0, 0), (12, .bipush 60, 0, 60, 0), (14, .iload_n 1, 0, 0, 0), (15, .iadd, 0, 0, 0), (16, .iaload, 1936, 0, 0), (17, .iconst 1, 0, 1, 0), (18, .iload_n 2, 0, 0, 0), (19, .ishl, 0, 0, 0), (20, .ior, 0, 0, 0), (21, .iastore, 1936, 0, 0), (22, .aload_n 0, 0, 0, 0), (23, .getfield 7, 704, 0, 0), (26, .bipush 60, 0, 60, 0), (28, .iload_n 2, 0, 0, 0), (29, .iadd, 0, 0, 0), (30, .aload_n 0, 0, 0, 0), (31, .getfield 7, 704, 0, 0), (34, .bipush 60, 0, 60, 0), (36, .iload_n 2, 0, 0, 0), (37, .iadd, 0, 0, 0), (38, .iaload, 1936, 0, 0), (39, .iconst 1, 0, 1, 0), (40, .iload_n 1, 0, 0, 0), (41, .ishl, 0, 0, 0), (42, .ior, 0, 0, 0), (43, .iastore, 1936, 0, 0), (44, .return_, 0, 0, 0)]
set_option maxRecDepth 20000 in
theorem bk_Md_haveTried : BK m_Md_haveTried cd_Md_haveTried := ⟨pl_X12, pk_X12, fun E hE => (show ∀ E ∈ cd_Md_haveTried, decode cX12_haveTried E.1 = .ok (E.2.1, ilen E.2.1) ∧ exE pl_X12 E.1 E.2.1 E.2.2.1 E.2.2.2.1 E.2.2.2.2 = true by decide +kernel) E hE⟩
theorem nk_Md_haveTried : NK m_Md_haveTried 2 := ⟨tw1533, tw123, ⟨by decide +kernel, by decide +kernel⟩, by decide +kernel, Nat.le_of_ble_eq_true rfl⟩
def m_Md_heightOf : Mth := (yX12_heightOf, cX12_heightOf, 3, some .int, RX12)
def cd_Md_heightOf : List ME := [(0, .aload_n 0, 0, 0, 0), (1, .getfield 7, 704, 0, 0), (4, .bipush 112, 0, 112, 0), (6, .bipush 8, 0, 8, 0), (8, .iload_n 1, 0, 0, 0), (9, .imul, 0, 0, 0), (10, .iadd, 0, 0, 0), (11, .iload_n 2, 0, 0, 0), (12, .iadd, 0, 0, 0), (13, .iaload, 1936, 0, 0), (14, .ireturn, 0, 0, 0)]
set_option maxRecDepth 20000 in
theorem bk_Md_heightOf : BK m_Md_heightOf cd_Md_heightOf := ⟨pl_X12, pk_X12, fun E hE => (show ∀ E ∈ cd_Md_heightOf, decode cX12_heightOf E.1 = .ok (E.2.1, ilen E.2.1) ∧ exE pl_X12 E.1 E.2.1 E.2.2.1 E.2.2.2.1 E.2.2.2.2 = true by decide +kernel) E hE⟩
theorem nk_Md_heightOf : NK m_Md_heightOf 2 := ⟨tw1550, tw123, ⟨by decide +kernel, by decide +kernel⟩, by decide +kernel, Nat.le_of_ble_eq_true rfl⟩
def m_Md_max : Mth := (yX12_max, cX12_max, 2, some .int, RX12)
def cd_Md_max : List ME := [(0, .iload_n 0, 0, 0, 0), (1, .iload_n 1, 0, 0, 0), (2, .if_icmp .le 7, 9, 0, 0), (5, .iload_n 0, 0, 0, 0), (6, .goto 4, 10, 0, 0), (9, .iload_n 1, 0, 0, 0), (10, .ireturn, 0, 0, 0)]
set_option maxRecDepth 20000 in
theorem bk_Md_max : BK m_Md_max cd_Md_max := ⟨pl_X12, pk_X12, fun E hE => (show ∀ E ∈ cd_Md_max, decode cX12_max E.1 = .ok (E.2.1, ilen E.2.1) ∧ exE pl_X12 E.1 E.2.1 E.2.2.1 E.2.2.2.1 E.2.2.2.2 = true by decide +kernel) E hE⟩
theorem nk_Md_max : NK m_Md_max 2 := ⟨tw1553, tw123, ⟨by decide +kernel, by decide +kernel⟩, by decide +kernel, Nat.le_of_ble_eq_true rfl⟩
def m_Md_slackOf : Mth := (yX12_slackOf, cX12_slackOf, 5, some .int, RX12)
def cd_Md_slackOf : List ME := [(0, .iconst 0, 0, 0, 0), (1, .istore_n 3, 0, 0, 0), (2, .iconst 0, 0, 0, 0), (3, .istore 4, 0, 0, 0), (5, .iload 4, 0, 0, 0), (7, .bipush 8, 0, 8, 0), (9, .if_icmp .ge 33, 42, 0, 0), (12, .iload_n 3, 0, 0, 0), (13, .aload_n 0, 0, 0, 0), (14, .iload_n 1, 0, 0, 0), (15, .iload 4, 0, 0, 0), (17, .invokevirtual 236, 0, 0, 0), (20, .aload_n 0, 0, 0, 0), (21, .iload_n 2, 0, 0, 0), (22, .bipush 7, 0, 7, 0), (24, .iload 4, 0, 0, 0), (26, .isub, 0, 0, 0), (27, .invokevirtual 236, 0, 0, 0), (30, .iadd, 0, 0, 0), (31, .invokestatic 239, 0, 0, 0), (34, .iadd, 0, 0, 0), (35, .istore_n 3, 0, 0, 0), (36, .iinc 4 1, 0, 1, 0), (39, .goto (-34), 5, 0, 0), (42, .iconst 0, 0, 0, 0), (43, .iload_n 3, 0, 0, 0), (44, .aload_n 0, 0, 0, 0), (45, .getfield 7, 704, 0, 0), (48, .bipush 72, 0, 72, 0), (50, .iload_n 1, 0, 0, 0), (51, .iadd, 0, 0, 0), (52, .iaload, 1936, 0, 0), (53, .isub, 0, 0, 0), (54, .aload_n 0, 0, 0, 0), (55, .getfield 7, 704, 0, 0), (58, .bipush 72, 0, 72, 0), (60, .iload_n 2, 0, 0, 0), (61, .iadd, 0, 0, 0), (62, .iaload, 1936, 0, 0), (63, .isub, 0, 0, 0), (64, .invokestatic 242, 0, 0, 0), (67, .ireturn, 0, 0, 0)]
set_option maxRecDepth 20000 in
theorem bk_Md_slackOf : BK m_Md_slackOf cd_Md_slackOf := ⟨pl_X12, pk_X12, fun E hE => (show ∀ E ∈ cd_Md_slackOf, decode cX12_slackOf E.1 = .ok (E.2.1, ilen E.2.1) ∧ exE pl_X12 E.1 E.2.1 E.2.2.1 E.2.2.2.1 E.2.2.2.2 = true by decide +kernel) E hE⟩
theorem nk_Md_slackOf : NK m_Md_slackOf 2 := ⟨tw1546, tw123, ⟨by decide +kernel, by decide +kernel⟩, by decide +kernel, Nat.le_of_ble_eq_true rfl⟩
def m_Md_min : Mth := (yX12_min, cX12_min, 2, some .int, RX12)
def cd_Md_min : List ME := [(0, .iload_n 0, 0, 0, 0), (1, .iload_n 1, 0, 0, 0), (2, .if_icmp .ge 7, 9, 0, 0), (5, .iload_n 0, 0, 0, 0), (6, .goto 4, 10, 0, 0), (9, .iload_n 1, 0, 0, 0), (10, .ireturn, 0, 0, 0)]
set_option maxRecDepth 20000 in
theorem bk_Md_min : BK m_Md_min cd_Md_min := ⟨pl_X12, pk_X12, fun E hE => (show ∀ E ∈ cd_Md_min, decode cX12_min E.1 = .ok (E.2.1, ilen E.2.1) ∧ exE pl_X12 E.1 E.2.1 E.2.2.1 E.2.2.2.1 E.2.2.2.2 = true by decide +kernel) E hE⟩
theorem nk_Md_min : NK m_Md_min 2 := ⟨tw1556, tw123, ⟨by decide +kernel, by decide +kernel⟩, by decide +kernel, Nat.le_of_ble_eq_true rfl⟩
def m_Md_slackBy : Mth := (yX12_slackBy, cX12_slackBy, 6, some .int, RX12)
def cd_Md_slackBy : List ME := [(0, .ldc 245, 0, 1000000000, 0), (2, .istore_n 3, 0, 0, 0), (3, .iconst 0, 0, 0, 0), (4, .istore 4, 0, 0, 0), (6, .iload 4, 0, 0, 0), (8, .bipush 12, 0, 12, 0), (10, .if_icmp .ge 72, 82, 0, 0), (13, .iconst 0, 0, 0, 0), (14, .istore 5, 0, 0, 0), (16, .iload 5, 0, 0, 0), (18, .bipush 12, 0, 12, 0), (20, .if_icmp .ge 56, 76, 0, 0), (23, .aload_n 0, 0, 0, 0), (24, .getfield 7, 704, 0, 0), (27, .bipush 48, 0, 48, 0), (29, .iload_n 1, 0, 0, 0), (30, .iadd, 0, 0, 0), (31, .iaload, 1936, 0, 0), (32, .iload 4, 0, 0, 0), (34, .invokestatic 101, 0, 0, 0), (37, .ifCond .eq 33, 70, 0, 0), (40, .aload_n 0, 0, 0, 0), (41, .getfield 7, 704, 0, 0), (44, .bipush 48, 0, 48, 0), (46, .iload_n 2, 0, 0, 0), (47, .iadd, 0, 0, 0), (48, .iaload, 1936, 0, 0), (49, .iload 5, 0, 0, 0), (51, .invokestatic 101, 0, 0, 0), (54, .ifCond .eq 16, 70, 0, 0), (57, .iload_n 3, 0, 0, 0), (58, .aload_n 0, 0, 0, 0), (59, .iload 4, 0, 0, 0), (61, .iload 5, 0, 0, 0), (63, .invokevirtual 246, 0, 0, 0), (66, .invokestatic 249, 0, 0, 0), (69, .istore_n 3, 0, 0, 0), (70, .iinc 5 1, 0, 1, 0), (73, .goto (-57), 16, 0, 0), (76, .iinc 4 1, 0, 1, 0), (79, .goto (-73), 6, 0, 0), (82, .iload_n 3, 0, 0, 0), (83, .ldc 245, 0, 1000000000, 0), (85, .if_icmp .ne 7, 92, 0, 0), (88, .iconst (-1), 0, (-1), 0), (89, .goto 4, 93, 0, 0), (92, .iload_n 3, 0, 0, 0), (93, .ireturn, 0, 0, 0)]
set_option maxRecDepth 20000 in
theorem bk_Md_slackBy : BK m_Md_slackBy cd_Md_slackBy := ⟨pl_X12, pk_X12, fun E hE => (show ∀ E ∈ cd_Md_slackBy, decode cX12_slackBy E.1 = .ok (E.2.1, ilen E.2.1) ∧ exE pl_X12 E.1 E.2.1 E.2.2.1 E.2.2.2.1 E.2.2.2.2 = true by decide +kernel) E hE⟩
theorem nk_Md_slackBy : NK m_Md_slackBy 2 := ⟨tw1541, tw123, ⟨by decide +kernel, by decide +kernel⟩, by decide +kernel, Nat.le_of_ble_eq_true rfl⟩
def m_Md_bits : Mth := (yX12_bits, cX12_bits, 3, some .int, RX12)
def cd_Md_bits : List ME := [(0, .iconst 0, 0, 0, 0), (1, .istore_n 1, 0, 0, 0), (2, .iconst 0, 0, 0, 0), (3, .istore_n 2, 0, 0, 0), (4, .iload_n 2, 0, 0, 0), (5, .bipush 12, 0, 12, 0), (7, .if_icmp .ge 17, 24, 0, 0), (10, .iload_n 1, 0, 0, 0), (11, .iload_n 0, 0, 0, 0), (12, .iload_n 2, 0, 0, 0), (13, .ishr, 0, 0, 0), (14, .iconst 1, 0, 1, 0), (15, .iand, 0, 0, 0), (16, .iadd, 0, 0, 0), (17, .istore_n 1, 0, 0, 0), (18, .iinc 2 1, 0, 1, 0), (21, .goto (-17), 4, 0, 0), (24, .iload_n 1, 0, 0, 0), (25, .ireturn, 0, 0, 0)]
set_option maxRecDepth 20000 in
theorem bk_Md_bits : BK m_Md_bits cd_Md_bits := ⟨pl_X12, pk_X12, fun E hE => (show ∀ E ∈ cd_Md_bits, decode cX12_bits E.1 = .ok (E.2.1, ilen E.2.1) ∧ exE pl_X12 E.1 E.2.1 E.2.2.1 E.2.2.2.1 E.2.2.2.2 = true by decide +kernel) E hE⟩
theorem nk_Md_bits : NK m_Md_bits 1 := ⟨tw1567, tw123, ⟨by decide +kernel, by decide +kernel⟩, by decide +kernel, Nat.le_of_ble_eq_true rfl⟩
def m_Md_feels : Mth := (yX12_feels, cX12_feels, 4, none, RX12)
def cd_Md_feels : List ME := [(0, .aload_n 0, 0, 0, 0), (1, .getfield 59, 730, 0, 0), (4, .iconst 0, 0, 0, 0), (5, .iload_n 1, 0, 0, 0), (6, .iastore, 11, 0, 0), (7, .aload_n 0, 0, 0, 0), (8, .getfield 59, 730, 0, 0), (11, .iconst 1, 0, 1, 0), (12, .iload_n 2, 0, 0, 0), (13, .iastore, 11, 0, 0), (14, .aload_n 0, 0, 0, 0), (15, .getfield 59, 730, 0, 0), (18, .iconst 2, 0, 2, 0), (19, .iload_n 3, 0, 0, 0), (20, .iastore, 11, 0, 0), (21, .aload_n 0, 0, 0, 0), (22, .getfield 59, 730, 0, 0), (25, .iconst 3, 0, 3, 0), (26, .aload_n 0, 0, 0, 0), (27, .getfield 7, 704, 0, 0), (30, .bipush 48, 0, 48, 0), (32, .iload_n 1, 0, 0, 0), (33, .iadd, 0, 0, 0), (34, .iaload, 1936, 0, 0), (35, .invokestatic 252, 0, 0, 0), (38, .iastore, 11, 0, 0), (39, .aload_n 0, 0, 0, 0), (40, .getfield 59, 730, 0, 0), (43, .iconst 4, 0, 4, 0), (44, .aload_n 0, 0, 0, 0), (45, .getfield 7, 704, 0, 0), (48, .bipush 48, 0, 48, 0), (50, .iload_n 2, 0, 0, 0), (51, .iadd, 0, 0, 0), (52, .iaload, 1936, 0, 0), (53, .invokestatic 252, 0, 0, 0), (56, .iastore, 11, 0, 0), (57, .aload_n 0, 0, 0, 0), (58, .getfield 59, 730, 0, 0), (61, .iconst 5, 0, 5, 0), (62, .aload_n 0, 0, 0, 0), (63, .getfield 7, 704, 0, 0), (66, .bipush 12, 0, 12, 0), (68, .iload_n 1, 0, 0, 0), (69, .iadd, 0, 0, 0), (70, .iaload, 1936, 0, 0), (71, .iastore, 11, 0, 0), (72, .aload_n 0, 0, 0, 0), (73, .getfield 59, 730, 0, 0), (76, .bipush 6, 0, 6, 0), (78, .aload_n 0, 0, 0, 0), (79, .getfield 7, 704, 0, 0), (82, .bipush 12, 0, 12, 0), (84, .iload_n 2, 0, 0, 0), (85, .iadd, 0, 0, 0), (86, .iaload, 1936, 0, 0), (87, .iastore, 11, 0, 0), (88, .aload_n 0, 0, 0, 0), (89, .getfield 59, 730, 0, 0), (92, .bipush 7, 0, 7, 0), (94, .aload_n 0, 0, 0, 0), (95, .getfield 7, 704, 0, 0), (98, .bipush 110, 0, 110, 0), (100, .iaload, 1936, 0, 0), (101, .iastore, 11, 0, 0), (102, .aload_n 0, 0, 0, 0), (103, .getfield 59, 730, 0, 0), (106, .bipush 8, 0, 8, 0), (108, .aload_n 0, 0, 0, 0), (109, .getfield 7, 704, 0, 0), (112, .bipush 36, 0, 36, 0), (114, .iload_n 1, 0, 0, 0), (115, .iadd, 0, 0, 0), (116, .iaload, 1936, 0, 0), (117, .iastore, 11, 0, 0), (118, .aload_n 0, 0, 0, 0), (119, .getfield 59, 730, 0, 0), (122, .bipush 9, 0, 9, 0), (124, .aload_n 0, 0, 0, 0), (125, .getfield 7, 704, 0, 0), (128, .iconst 0, 0, 0, 0), (129, .iload_n 1, 0, 0, 0), (130, .iadd, 0, 0, 0), (131, .iaload, 1936, 0, 0), (132, .iastore, 11, 0, 0), (133, .aload_n 0, 0, 0, 0), (134, .getfield 59, 730, 0, 0), (137, .bipush 10, 0, 10, 0), (139, .aload_n 0, 0, 0, 0), (140, .getfield 7, 704, 0, 0), (143, .iconst 0, 0, 0, 0), (144, .iload_n 2, 0, 0, 0), (145, .iadd, 0, 0, 0), (146, .iaload, 1936, 0, 0), (147, .iastore, 11, 0, 0), (148, .return_, 0, 0, 0)]
set_option maxRecDepth 20000 in
theorem bk_Md_feels : BK m_Md_feels cd_Md_feels := ⟨pl_X12, pk_X12, fun E hE => (show ∀ E ∈ cd_Md_feels, decode cX12_feels E.1 = .ok (E.2.1, ilen E.2.1) ∧ exE pl_X12 E.1 E.2.1 E.2.2.1 E.2.2.2.1 E.2.2.2.2 = true by decide +kernel) E hE⟩
theorem nk_Md_feels : NK m_Md_feels 3 := ⟨tw1564, tw123, ⟨by decide +kernel, by decide +kernel⟩, by decide +kernel, Nat.le_of_ble_eq_true rfl⟩
def m_Md_reckon : Mth := (yX12_reckon, cX12_reckon, 3, some .int, RX12)
def cd_Md_reckon : List ME := [(0, .iload_n 0, 0, 0, 0), (44, .iload_n 1, 0, 0, 0), (45, .iload_n 2, 0, 0, 0), (46, .iadd, 0, 0, 0), (47, .ireturn, 0, 0, 0), (48, .iload_n 1, 0, 0, 0), (49, .iload_n 2, 0, 0, 0), (50, .isub, 0, 0, 0), (51, .ireturn, 0, 0, 0), (52, .iload_n 1, 0, 0, 0), (53, .iload_n 2, 0, 0, 0), (54, .imul, 0, 0, 0), (55, .ireturn, 0, 0, 0), (56, .iload_n 1, 0, 0, 0), (57, .iload_n 2, 0, 0, 0), (58, .idiv, 0, 0, 0), (59, .ireturn, 0, 0, 0), (60, .iload_n 1, 0, 0, 0), (61, .iload_n 2, 0, 0, 0), (62, .irem, 0, 0, 0), (63, .ireturn, 0, 0, 0), (64, .iload_n 1, 0, 0, 0), (65, .iload_n 2, 0, 0, 0), (66, .if_icmp .ge 7, 73, 0, 0), (69, .iconst 1, 0, 1, 0), (70, .goto 4, 74, 0, 0), (73, .iconst 0, 0, 0, 0), (74, .ireturn, 0, 0, 0), (75, .iload_n 1, 0, 0, 0), (76, .iload_n 2, 0, 0, 0), (77, .if_icmp .le 7, 84, 0, 0), (80, .iconst 1, 0, 1, 0), (81, .goto 4, 85, 0, 0), (84, .iconst 0, 0, 0, 0), (85, .ireturn, 0, 0, 0), (86, .iload_n 1, 0, 0, 0), (87, .iload_n 2, 0, 0, 0), (88, .if_icmp .ne 7, 95, 0, 0), (91, .iconst 1, 0, 1, 0), (92, .goto 4, 96, 0, 0), (95, .iconst 0, 0, 0, 0), (96, .ireturn, 0, 0, 0)]
set_option maxRecDepth 20000 in
theorem bk_Md_reckon : BK m_Md_reckon cd_Md_reckon := ⟨pl_X12, pk_X12, fun E hE => (show ∀ E ∈ cd_Md_reckon, decode cX12_reckon E.1 = .ok (E.2.1, ilen E.2.1) ∧ exE pl_X12 E.1 E.2.1 E.2.2.1 E.2.2.2.1 E.2.2.2.2 = true by decide +kernel) E hE⟩
theorem nk_Md_reckon : NK m_Md_reckon 3 := ⟨tw1578, tw123, ⟨by decide +kernel, by decide +kernel⟩, by decide +kernel, Nat.le_of_ble_eq_true rfl⟩
def m_Md_comesTo : Mth := (yX12_comesTo, cX12_comesTo, 8, some .int, RX12)
def cd_Md_comesTo : List ME := [(0, .iconst 0, 0, 0, 0), (1, .istore_n 3, 0, 0, 0), (2, .sipush 260, 0, 260, 0), (5, .iload_n 1, 0, 0, 0), (6, .sipush 260, 0, 260, 0), (9, .idiv, 0, 0, 0), (10, .imul, 0, 0, 0), (11, .istore 4, 0, 0, 0), (13, .iload_n 1, 0, 0, 0), (14, .istore 5, 0, 0, 0), (16, .iload 5, 0, 0, 0), (18, .iload_n 2, 0, 0, 0), (19, .if_icmp .ge 214, 233, 0, 0), (22, .aload_n 0, 0, 0, 0), (23, .getfield 41, 724, 0, 0), (26, .iload 5, 0, 0, 0), (28, .iaload, 260, 0, 0), (29, .ldc 159, 0, 1048576, 0), (31, .idiv, 0, 0, 0), (32, .istore 6, 0, 0, 0), (34, .aload_n 0, 0, 0, 0), (35, .getfield 41, 724, 0, 0), (38, .iload 5, 0, 0, 0), (40, .iaload, 260, 0, 0), (41, .ldc 159, 0, 1048576, 0), (43, .irem, 0, 0, 0), (44, .istore 7, 0, 0, 0), (46, .iload 5, 0, 0, 0), (48, .iconst 1, 0, 1, 0), (49, .iadd, 0, 0, 0), (50, .istore 5, 0, 0, 0), (52, .iload 6, 0, 0, 0), (54, .ifCond .eq 9, 63, 0, 0), (57, .iload 6, 0, 0, 0), (59, .iconst 1, 0, 1, 0), (60, .if_icmp .ne 33, 93, 0, 0), (63, .aload_n 0, 0, 0, 0), (64, .getfield 56, 729, 0, 0), (67, .iload_n 3, 0, 0, 0), (68, .iload 6, 0, 0, 0), (70, .ifCond .ne 8, 78, 0, 0), (73, .iload 7, 0, 0, 0), (75, .goto 10, 85, 0, 0), (78, .aload_n 0, 0, 0, 0), (79, .getfield 59, 730, 0, 0), (82, .iload 7, 0, 0, 0), (84, .iaload, 11, 0, 0), (85, .iastore, 260, 0, 0), (86, .iload_n 3, 0, 0, 0), (87, .iconst 1, 0, 1, 0), (88, .iadd, 0, 0, 0), (89, .istore_n 3, 0, 0, 0), (90, .goto 140, 230, 0, 0), (93, .iload 6, 0, 0, 0), (95, .bipush 10, 0, 10, 0), (97, .if_icmp .ne 24, 121, 0, 0), (100, .aload_n 0, 0, 0, 0), (101, .getfield 56, 729, 0, 0), (104, .iload_n 3, 0, 0, 0), (105, .iconst 1, 0, 1, 0), (106, .isub, 0, 0, 0), (107, .iconst 1, 0, 1, 0), (108, .aload_n 0, 0, 0, 0), (109, .getfield 56, 729, 0, 0), (112, .iload_n 3, 0, 0, 0), (113, .iconst 1, 0, 1, 0), (114, .isub, 0, 0, 0), (115, .iaload, 260, 0, 0), (116, .isub, 0, 0, 0), (117, .iastore, 260, 0, 0), (118, .goto 112, 230, 0, 0), (121, .iload 6, 0, 0, 0), (123, .bipush 11, 0, 11, 0), (125, .if_icmp .eq 10, 135, 0, 0), (128, .iload 6, 0, 0, 0), (130, .bipush 12, 0, 12, 0), (132, .if_icmp .ne 43, 175, 0, 0), (135, .aload_n 0, 0, 0, 0), (136, .getfield 56, 729, 0, 0), (139, .iload_n 3, 0, 0, 0), (140, .iconst 1, 0, 1, 0), (141, .isub, 0, 0, 0), (142, .iaload, 260, 0, 0), (143, .iload 6, 0, 0, 0), (145, .bipush 12, 0, 12, 0), (147, .if_icmp .ne 7, 154, 0, 0), (150, .iconst 1, 0, 1, 0), (151, .goto 4, 155, 0, 0), (154, .iconst 0, 0, 0, 0), (155, .if_icmp .ne 13, 168, 0, 0), (158, .iload 4, 0, 0, 0), (160, .iload 7, 0, 0, 0), (162, .iadd, 0, 0, 0), (163, .istore 5, 0, 0, 0), (165, .goto 65, 230, 0, 0), (168, .iload_n 3, 0, 0, 0), (169, .iconst 1, 0, 1, 0), (170, .isub, 0, 0, 0), (171, .istore_n 3, 0, 0, 0), (172, .goto 58, 230, 0, 0), (175, .iload_n 3, 0, 0, 0), (176, .iconst 1, 0, 1, 0), (177, .isub, 0, 0, 0), (178, .istore_n 3, 0, 0, 0), (179, .iload 6, 0, 0, 0), (181, .iconst 5, 0, 5, 0), (182, .if_icmp .eq 10, 192, 0, 0), (185, .iload 6, 0, 0, 0), (187, .bipush 6, 0, 6, 0), (189, .if_icmp .ne 14, 203, 0, 0), (192, .aload_n 0, 0, 0, 0), (193, .getfield 56, 729, 0, 0), (196, .iload_n 3, 0, 0, 0), (197, .iaload, 260, 0, 0), (198, .ifCond .ne 5, 203, 0, 0), (201, .iconst 0, 0, 0, 0), (202, .ireturn, 0, 0, 0), (203, .aload_n 0, 0, 0, 0), (204, .getfield 56, 729, 0, 0), (207, .iload_n 3, 0, 0, 0), (208, .iconst 1, 0, 1, 0), (209, .isub, 0, 0, 0), (210, .iload 6, 0, 0, 0), (212, .aload_n 0, 0, 0, 0), (213, .getfield 56, 729, 0, 0), (216, .iload_n 3, 0, 0, 0), (217, .iconst 1, 0, 1, 0), (218, .isub, 0, 0, 0), (219, .iaload, 260, 0, 0), (220, .aload_n 0, 0, 0, 0), (221, .getfield 56, 729, 0, 0), (224, .iload_n 3, 0, 0, 0), (225, .iaload, 260, 0, 0), (226, .invokestatic 228, 0, 0, 0), (229, .iastore, 260, 0, 0), (230, .goto (-214), 16, 0, 0), (233, .aload_n 0, 0, 0, 0), (234, .getfield 56, 729, 0, 0), (237, .iconst 0, 0, 0, 0), (238, .iaload, 260, 0, 0), (239, .ireturn, 0, 0, 0)]
set_option maxRecDepth 20000 in
theorem bk_Md_comesTo : BK m_Md_comesTo cd_Md_comesTo := ⟨pl_X12, pk_X12, fun E hE => (show ∀ E ∈ cd_Md_comesTo, decode cX12_comesTo E.1 = .ok (E.2.1, ilen E.2.1) ∧ exE pl_X12 E.1 E.2.1 E.2.2.1 E.2.2.2.1 E.2.2.2.2 = true by decide +kernel) E hE⟩
theorem nk_Md_comesTo : NK m_Md_comesTo 2 := ⟨tw1575, tw123, ⟨by decide +kernel, by decide +kernel⟩, by decide +kernel, Nat.le_of_ble_eq_true rfl⟩
def m_Md_byLaw : Mth := (yX12_byLaw, cX12_byLaw, 5, some .int, RX12)
def cd_Md_byLaw : List ME := [(0, .iconst 0, 0, 0, 0), (1, .istore_n 3, 0, 0, 0), (2, .iload_n 3, 0, 0, 0), (3, .aload_n 0, 0, 0, 0), (4, .getfield 225, 717, 0, 0), (7, .if_icmp .ge 82, 89, 0, 0), (10, .aload_n 0, 0, 0, 0), (11, .getfield 44, 725, 0, 0), (14, .iload_n 3, 0, 0, 0), (15, .iaload, 16, 0, 0), (16, .iload_n 1, 0, 0, 0), (17, .if_icmp .ne 66, 83, 0, 0), (20, .aload_n 0, 0, 0, 0), (21, .aload_n 0, 0, 0, 0), (22, .getfield 50, 727, 0, 0), (25, .iload_n 3, 0, 0, 0), (26, .iaload, 16, 0, 0), (27, .aload_n 0, 0, 0, 0), (28, .getfield 53, 728, 0, 0), (31, .iload_n 3, 0, 0, 0), (32, .iaload, 16, 0, 0), (33, .invokevirtual 232, 0, 0, 0), (36, .iconst 1, 0, 1, 0), (37, .if_icmp .eq 6, 43, 0, 0), (40, .goto 43, 83, 0, 0), (43, .aload_n 0, 0, 0, 0), (44, .aload_n 0, 0, 0, 0), (45, .getfield 47, 726, 0, 0), (48, .iload_n 3, 0, 0, 0), (49, .iaload, 16, 0, 0), (50, .aload_n 0, 0, 0, 0), (51, .getfield 50, 727, 0, 0), (54, .iload_n 3, 0, 0, 0), (55, .iaload, 16, 0, 0), (56, .invokevirtual 232, 0, 0, 0), (59, .istore 4, 0, 0, 0), (61, .iload 4, 0, 0, 0), (63, .ifCond .ge 7, 70, 0, 0), (66, .iconst 0, 0, 0, 0), (67, .goto 15, 82, 0, 0), (70, .iload 4, 0, 0, 0), (72, .iload_n 2, 0, 0, 0), (73, .if_icmp .le 7, 80, 0, 0), (76, .iload_n 2, 0, 0, 0), (77, .goto 5, 82, 0, 0), (80, .iload 4, 0, 0, 0), (82, .ireturn, 0, 0, 0), (83, .iinc 3 1, 0, 1, 0), (86, .goto (-84), 2, 0, 0), (89, .iconst 0, 0, 0, 0), (90, .ireturn, 0, 0, 0)]
set_option maxRecDepth 20000 in
theorem bk_Md_byLaw : BK m_Md_byLaw cd_Md_byLaw := ⟨pl_X12, pk_X12, fun E hE => (show ∀ E ∈ cd_Md_byLaw, decode cX12_byLaw E.1 = .ok (E.2.1, ilen E.2.1) ∧ exE pl_X12 E.1 E.2.1 E.2.2.1 E.2.2.2.1 E.2.2.2.2 = true by decide +kernel) E hE⟩
theorem nk_Md_byLaw : NK m_Md_byLaw 2 := ⟨tw1571, tw123, ⟨by decide +kernel, by decide +kernel⟩, by decide +kernel, Nat.le_of_ble_eq_true rfl⟩
def m_Md_allowed : Mth := (yX12_allowed, cX12_allowed, 4, some .int, RX12)
def cd_Md_allowed : List ME := [(0, .aload_n 0, 0, 0, 0), (1, .getfield 7, 704, 0, 0), (4, .iconst 0, 0, 0, 0), (5, .iload_n 1, 0, 0, 0), (6, .iadd, 0, 0, 0), (7, .iaload, 1936, 0, 0), (8, .aload_n 0, 0, 0, 0), (9, .getfield 7, 704, 0, 0), (12, .iconst 0, 0, 0, 0), (13, .iload_n 2, 0, 0, 0), (14, .iadd, 0, 0, 0), (15, .iaload, 1936, 0, 0), (16, .if_icmp .lt 27, 43, 0, 0), (19, .aload_n 0, 0, 0, 0), (20, .getfield 7, 704, 0, 0), (23, .iconst 0, 0, 0, 0), (24, .iload_n 1, 0, 0, 0), (25, .iadd, 0, 0, 0), (26, .iaload, 1936, 0, 0), (27, .aload_n 0, 0, 0, 0), (28, .getfield 7, 704, 0, 0), (31, .iconst 0, 0, 0, 0), (32, .iload_n 2, 0, 0, 0), (33, .iadd, 0, 0, 0), (34, .iaload, 1936, 0, 0), (35, .if_icmp .ne 12, 47, 0, 0), (38, .iload_n 1, 0, 0, 0), (39, .iload_n 2, 0, 0, 0), (40, .if_icmp .ge 7, 47, 0, 0), (43, .iconst 1, 0, 1, 0), (44, .goto 4, 48, 0, 0), (47, .iconst 0, 0, 0, 0), (48, .istore_n 3, 0, 0, 0), (49, .iload_n 3, 0, 0, 0), (50, .ifCond .eq 13, 63, 0, 0), (53, .aload_n 0, 0, 0, 0), (54, .iload_n 1, 0, 0, 0), (55, .iload_n 2, 0, 0, 0), (56, .iconst 0, 0, 0, 0), (57, .invokevirtual 255, 0, 0, 0), (60, .goto 10, 70, 0, 0), (63, .aload_n 0, 0, 0, 0), (64, .iload_n 2, 0, 0, 0), (65, .iload_n 1, 0, 0, 0), (66, .iconst 0, 0, 0, 0), (67, .invokevirtual 255, 0, 0, 0), (70, .aload_n 0, 0, 0, 0), (71, .bipush 102, 0, 102, 0), (73, .bipush 99, 0, 99, 0), (75, .invokevirtual 259, 0, 0, 0), (78, .ireturn, 0, 0, 0)]
set_option maxRecDepth 20000 in
theorem bk_Md_allowed : BK m_Md_allowed cd_Md_allowed := ⟨pl_X12, pk_X12, fun E hE => (show ∀ E ∈ cd_Md_allowed, decode cX12_allowed E.1 = .ok (E.2.1, ilen E.2.1) ∧ exE pl_X12 E.1 E.2.1 E.2.2.1 E.2.2.2.1 E.2.2.2.2 = true by decide +kernel) E hE⟩
theorem nk_Md_allowed : NK m_Md_allowed 2 := ⟨tw1560, tw123, ⟨by decide +kernel, by decide +kernel⟩, by decide +kernel, Nat.le_of_ble_eq_true rfl⟩
def m_Md_fit : Mth := (yX12_fit, cX12_fit, 4, some .boolean, RX12)
def cd_Md_fit : List ME := [(0, .aload_n 0, 0, 0, 0), (1, .iload_n 1, 0, 0, 0), (2, .iload_n 2, 0, 0, 0), (3, .invokevirtual 262, 0, 0, 0), (6, .istore_n 3, 0, 0, 0), (7, .iload_n 3, 0, 0, 0), (8, .iconst (-1), 0, (-1), 0), (9, .if_icmp .eq 17, 26, 0, 0), (12, .iload_n 3, 0, 0, 0), (13, .aload_n 0, 0, 0, 0), (14, .iload_n 1, 0, 0, 0), (15, .iload_n 2, 0, 0, 0), (16, .invokevirtual 265, 0, 0, 0), (19, .if_icmp .gt 7, 26, 0, 0), (22, .iconst 1, 0, 1, 0), (23, .goto 4, 27, 0, 0), (26, .iconst 0, 0, 0, 0), (27, .ireturn, 0, 0, 0)]
set_option maxRecDepth 20000 in
theorem bk_Md_fit : BK m_Md_fit cd_Md_fit := ⟨pl_X12, pk_X12, fun E hE => (show ∀ E ∈ cd_Md_fit, decode cX12_fit E.1 = .ok (E.2.1, ilen E.2.1) ∧ exE pl_X12 E.1 E.2.1 E.2.2.1 E.2.2.2.1 E.2.2.2.2 = true by decide +kernel) E hE⟩
theorem nk_Md_fit : NK m_Md_fit 2 := ⟨tw1537, tw123, ⟨by decide +kernel, by decide +kernel⟩, by decide +kernel, Nat.le_of_ble_eq_true rfl⟩
def m_Md_wearsBy : Mth := (yX12_wearsBy, cX12_wearsBy, 3, some .int, RX12)
def cd_Md_wearsBy : List ME := [(0, .aload_n 0, 0, 0, 0), (1, .iload_n 1, 0, 0, 0), (2, .iload_n 2, 0, 0, 0), (3, .aload_n 0, 0, 0, 0), (4, .iload_n 1, 0, 0, 0), (5, .iload_n 2, 0, 0, 0), (6, .invokevirtual 262, 0, 0, 0), (9, .invokevirtual 255, 0, 0, 0), (12, .aload_n 0, 0, 0, 0), (13, .bipush 119, 0, 119, 0), (15, .bipush 9, 0, 9, 0), (17, .invokevirtual 259, 0, 0, 0), (20, .ireturn, 0, 0, 0)]
set_option maxRecDepth 20000 in
theorem bk_Md_wearsBy : BK m_Md_wearsBy cd_Md_wearsBy := ⟨pl_X12, pk_X12, fun E hE => (show ∀ E ∈ cd_Md_wearsBy, decode cX12_wearsBy E.1 = .ok (E.2.1, ilen E.2.1) ∧ exE pl_X12 E.1 E.2.1 E.2.2.1 E.2.2.2.1 E.2.2.2.2 = true by decide +kernel) E hE⟩
theorem nk_Md_wearsBy : NK m_Md_wearsBy 2 := ⟨tw1582, tw123, ⟨by decide +kernel, by decide +kernel⟩, by decide +kernel, Nat.le_of_ble_eq_true rfl⟩
def m_Md_wearsAll : Mth := (yX12_wearsAll, cX12_wearsAll, 4, none, RX12)
def cd_Md_wearsAll : List ME := [(0, .iconst 0, 0, 0, 0), (1, .istore_n 3, 0, 0, 0), (2, .iload_n 3, 0, 0, 0), (3, .bipush 12, 0, 12, 0), (5, .if_icmp .ge 50, 55, 0, 0), (8, .aload_n 0, 0, 0, 0), (9, .getfield 7, 704, 0, 0), (12, .bipush 48, 0, 48, 0), (14, .iload_n 1, 0, 0, 0), (15, .iadd, 0, 0, 0), (16, .iaload, 1936, 0, 0), (17, .iload_n 3, 0, 0, 0), (18, .invokestatic 101, 0, 0, 0), (21, .ifCond .eq 28, 49, 0, 0), (24, .aload_n 0, 0, 0, 0), (25, .getfield 7, 704, 0, 0), (28, .bipush 72, 0, 72, 0), (30, .iload_n 3, 0, 0, 0), (31, .iadd, 0, 0, 0), (32, .bipush 99, 0, 99, 0), (34, .aload_n 0, 0, 0, 0), (35, .getfield 7, 704, 0, 0), (38, .bipush 72, 0, 72, 0), (40, .iload_n 3, 0, 0, 0), (41, .iadd, 0, 0, 0), (42, .iaload, 1936, 0, 0), (43, .iload_n 2, 0, 0, 0), (44, .iadd, 0, 0, 0), (45, .invokestatic 249, 0, 0, 0), (48, .iastore, 1936, 0, 0), (49, .iinc 3 1, 0, 1, 0), (52, .goto (-50), 2, 0, 0), (55, .return_, 0, 0, 0)]
set_option maxRecDepth 20000 in
theorem bk_Md_wearsAll : BK m_Md_wearsAll cd_Md_wearsAll := ⟨pl_X12, pk_X12, fun E hE => (show ∀ E ∈ cd_Md_wearsAll, decode cX12_wearsAll E.1 = .ok (E.2.1, ilen E.2.1) ∧ exE pl_X12 E.1 E.2.1 E.2.2.1 E.2.2.2.1 E.2.2.2.2 = true by decide +kernel) E hE⟩
theorem nk_Md_wearsAll : NK m_Md_wearsAll 2 := ⟨tw1586, tw123, ⟨by decide +kernel, by decide +kernel⟩, by decide +kernel, Nat.le_of_ble_eq_true rfl⟩
def m_Md_triesIn : Mth := (yX12_triesIn, cX12_triesIn, 5, none, RX12)
def cd_Md_triesIn : List ME := [(0, .aload_n 0, 0, 0, 0), (1, .iload_n 2, 0, 0, 0), (2, .invokevirtual 119, 0, 0, 0), (5, .ifCond .eq 27, 32, 0, 0), (8, .aload_n 0, 0, 0, 0), (9, .getfield 7, 704, 0, 0), (12, .iconst 0, 0, 0, 0), (13, .iload_n 2, 0, 0, 0), (14, .iadd, 0, 0, 0), (15, .iaload, 1936, 0, 0), (16, .ifCond .ne 16, 32, 0, 0), (19, .aload_n 0, 0, 0, 0), (20, .getfield 7, 704, 0, 0), (23, .bipush 12, 0, 12, 0), (25, .iload_n 2, 0, 0, 0), (26, .iadd, 0, 0, 0), (27, .iaload, 1936, 0, 0), (28, .iload_n 1, 0, 0, 0), (29, .if_icmp .eq 4, 33, 0, 0), (32, .return_, 0, 0, 0), (33, .iconst 0, 0, 0, 0), (34, .istore_n 3, 0, 0, 0), (35, .iload_n 3, 0, 0, 0), (36, .bipush 12, 0, 12, 0), (38, .if_icmp .ge 59, 97, 0, 0), (41, .aload_n 0, 0, 0, 0), (42, .iload_n 3, 0, 0, 0), (43, .invokevirtual 119, 0, 0, 0), (46, .ifCond .eq 44, 90, 0, 0), (49, .aload_n 0, 0, 0, 0), (50, .getfield 7, 704, 0, 0), (53, .iconst 0, 0, 0, 0), (54, .iload_n 3, 0, 0, 0), (55, .iadd, 0, 0, 0), (56, .iaload, 1936, 0, 0), (57, .iconst 1, 0, 1, 0), (58, .if_icmp .ne 32, 90, 0, 0), (61, .aload_n 0, 0, 0, 0), (62, .getfield 7, 704, 0, 0), (65, .bipush 12, 0, 12, 0), (67, .iload_n 3, 0, 0, 0), (68, .iadd, 0, 0, 0), (69, .iaload, 1936, 0, 0), (70, .iload_n 1, 0, 0, 0), (71, .if_icmp .ne 19, 90, 0, 0), (74, .aload_n 0, 0, 0, 0), (75, .getfield 7, 704, 0, 0), (78, .bipush 60, 0, 60, 0), (80, .iload_n 2, 0, 0, 0), (81, .iadd, 0, 0, 0), (82, .iaload, 1936, 0, 0), (83, .iload_n 3, 0, 0, 0), (84, .invokestatic 101, 0, 0, 0), (87, .ifCond .eq 10, 97, 0, 0), (90, .iload_n 3, 0, 0, 0), (91, .iconst 1, 0, 1, 0), (92, .iadd, 0, 0, 0), (93, .istore_n 3, 0, 0, 0), (94, .goto (-59), 35, 0, 0), (97, .iload_n 3, 0, 0, 0), (98, .bipush 12, 0, 12, 0), (100, .if_icmp .ne 4, 104, 0, 0), (103, .return_, 0, 0, 0), (104, .aload_n 0, 0, 0, 0), (105, .aload_n 0, 0, 0, 0), (106, .getfield 280, 736, 0, 0), (109, .iconst 1, 0, 1, 0), (110, .iadd, 0, 0, 0), (111, .putfield 280, 736, 0, 0), (114, .aload_n 0, 0, 0, 0), (115, .iload_n 2, 0, 0, 0), (116, .iload_n 3, 0, 0, 0), (117, .invokevirtual 283, 0, 0, 0), (120, .aload_n 0, 0, 0, 0), (121, .iload_n 2, 0, 0, 0), (122, .iload_n 3, 0, 0, 0), (123, .invokevirtual 286, 0, 0, 0), (126, .ifCond .eq 20, 146, 0, 0), (129, .aload_n 0, 0, 0, 0), (130, .iload_n 2, 0, 0, 0), (131, .iload_n 3, 0, 0, 0), (132, .invokevirtual 122, 0, 0, 0), (135, .aload_n 0, 0, 0, 0), (136, .aload_n 0, 0, 0, 0), (137, .getfield 289, 735, 0, 0), (140, .iconst 1, 0, 1, 0), (141, .iadd, 0, 0, 0), (142, .putfield 289, 735, 0, 0), (145, .return_, 0, 0, 0), (146, .aload_n 0, 0, 0, 0), (147, .iload_n 2, 0, 0, 0), (148, .iload_n 3, 0, 0, 0), (149, .invokevirtual 292, 0, 0, 0), (152, .istore 4, 0, 0, 0), (154, .aload_n 0, 0, 0, 0), (155, .iload_n 2, 0, 0, 0), (156, .iload 4, 0, 0, 0), (158, .invokevirtual 295, 0, 0, 0), (161, .aload_n 0, 0, 0, 0), (162, .iload_n 3, 0, 0, 0), (163, .iload 4, 0, 0, 0), (165, .invokevirtual 295, 0, 0, 0), (168, .return_, 0, 0, 0)]
set_option maxRecDepth 20000 in
theorem bk_Md_triesIn : BK m_Md_triesIn cd_Md_triesIn := ⟨pl_X12, pk_X12, fun E hE => (show ∀ E ∈ cd_Md_triesIn, decode cX12_triesIn E.1 = .ok (E.2.1, ilen E.2.1) ∧ exE pl_X12 E.1 E.2.1 E.2.2.1 E.2.2.2.1 E.2.2.2.2 = true by decide +kernel) E hE⟩
theorem nk_Md_triesIn : NK m_Md_triesIn 2 := ⟨tw1529, tw123, ⟨by decide +kernel, by decide +kernel⟩, by decide +kernel, Nat.le_of_ble_eq_true rfl⟩
def m_Md_draws : Mth := (yX12_draws, cX12_draws, 1, some .int, RX12)
def cd_Md_draws : List ME := [(0, .aload_n 0, 0, 0, 0), (1, .getfield 7, 704, 0, 0), (4, .bipush 111, 0, 111, 0), (6, .sipush 25173, 0, 25173, 0), (9, .aload_n 0, 0, 0, 0), (10, .getfield 7, 704, 0, 0), (13, .bipush 111, 0, 111, 0), (15, .iaload, 1936, 0, 0), (16, .imul, 0, 0, 0), (17, .sipush 13849, 0, 13849, 0), (20, .iadd, 0, 0, 0), (21, .ldc_w 298, 0, 65536, 0), (24, .irem, 0, 0, 0), (25, .iastore, 1936, 0, 0), (26, .aload_n 0, 0, 0, 0), (27, .getfield 7, 704, 0, 0), (30, .bipush 111, 0, 111, 0), (32, .iaload, 1936, 0, 0), (33, .bipush 10, 0, 10, 0), (35, .irem, 0, 0, 0), (36, .ireturn, 0, 0, 0)]
set_option maxRecDepth 20000 in
theorem bk_Md_draws : BK m_Md_draws cd_Md_draws := ⟨pl_X12, pk_X12, fun E hE => (show ∀ E ∈ cd_Md_draws, decode cX12_draws E.1 = .ok (E.2.1, ilen E.2.1) ∧ exE pl_X12 E.1 E.2.1 E.2.2.1 E.2.2.2.1 E.2.2.2.2 = true by decide +kernel) E hE⟩
theorem nk_Md_draws : NK m_Md_draws 0 := ⟨tw1594, tw123, ⟨by decide +kernel, by decide +kernel⟩, by decide +kernel, Nat.le_of_ble_eq_true rfl⟩
def m_Md_creak : Mth := (yX12_creak, cX12_creak, 4, none, RX12)
def cd_Md_creak : List ME := [(0, .aload_n 0, 0, 0, 0), (1, .getfield 7, 704, 0, 0), (4, .bipush 24, 0, 24, 0), (6, .iload_n 1, 0, 0, 0), (7, .iadd, 0, 0, 0), (8, .iaload, 1936, 0, 0), (9, .istore_n 2, 0, 0, 0), (10, .iload_n 2, 0, 0, 0), (11, .iload_n 1, 0, 0, 0), (12, .if_icmp .ge 4, 16, 0, 0), (15, .return_, 0, 0, 0), (16, .aload_n 0, 0, 0, 0), (17, .invokevirtual 299, 0, 0, 0), (20, .istore_n 3, 0, 0, 0), (21, .aload_n 0, 0, 0, 0), (22, .iload_n 1, 0, 0, 0), (23, .iload_n 2, 0, 0, 0), (24, .aload_n 0, 0, 0, 0), (25, .iload_n 1, 0, 0, 0), (26, .iload_n 2, 0, 0, 0), (27, .invokevirtual 262, 0, 0, 0), (30, .invokevirtual 255, 0, 0, 0), (33, .iload_n 3, 0, 0, 0), (34, .aload_n 0, 0, 0, 0), (35, .bipush 99, 0, 99, 0), (37, .bipush 10, 0, 10, 0), (39, .invokevirtual 259, 0, 0, 0), (42, .if_icmp .ge 53, 95, 0, 0), (45, .aload_n 0, 0, 0, 0), (46, .getfield 7, 704, 0, 0), (49, .bipush 36, 0, 36, 0), (51, .iload_n 1, 0, 0, 0), (52, .iadd, 0, 0, 0), (53, .bipush 99, 0, 99, 0), (55, .aload_n 0, 0, 0, 0), (56, .getfield 7, 704, 0, 0), (59, .bipush 36, 0, 36, 0), (61, .iload_n 1, 0, 0, 0), (62, .iadd, 0, 0, 0), (63, .iaload, 1936, 0, 0), (64, .iconst 1, 0, 1, 0), (65, .iadd, 0, 0, 0), (66, .invokestatic 249, 0, 0, 0), (69, .iastore, 1936, 0, 0), (70, .aload_n 0, 0, 0, 0), (71, .getfield 7, 704, 0, 0), (74, .bipush 36, 0, 36, 0), (76, .iload_n 2, 0, 0, 0), (77, .iadd, 0, 0, 0), (78, .bipush 99, 0, 99, 0), (80, .aload_n 0, 0, 0, 0), (81, .getfield 7, 704, 0, 0), (84, .bipush 36, 0, 36, 0), (86, .iload_n 2, 0, 0, 0), (87, .iadd, 0, 0, 0), (88, .iaload, 1936, 0, 0), (89, .iconst 1, 0, 1, 0), (90, .iadd, 0, 0, 0), (91, .invokestatic 249, 0, 0, 0), (94, .iastore, 1936, 0, 0), (95, .aload_n 0, 0, 0, 0), (96, .iload_n 1, 0, 0, 0), (97, .iload_n 2, 0, 0, 0), (98, .aload_n 0, 0, 0, 0), (99, .iload_n 1, 0, 0, 0), (100, .iload_n 2, 0, 0, 0), (101, .invokevirtual 262, 0, 0, 0), (104, .invokevirtual 255, 0, 0, 0), (107, .aload_n 0, 0, 0, 0), (108, .getfield 7, 704, 0, 0), (111, .bipush 36, 0, 36, 0), (113, .iload_n 1, 0, 0, 0), (114, .iadd, 0, 0, 0), (115, .iaload, 1936, 0, 0), (116, .aload_n 0, 0, 0, 0), (117, .bipush 98, 0, 98, 0), (119, .bipush 99, 0, 99, 0), (121, .invokevirtual 259, 0, 0, 0), (124, .if_icmp .gt 4, 128, 0, 0), (127, .return_, 0, 0, 0), (128, .aload_n 0, 0, 0, 0), (129, .iload_n 1, 0, 0, 0), (130, .invokevirtual 115, 0, 0, 0), (133, .aload_n 0, 0, 0, 0), (134, .iload_n 1, 0, 0, 0), (135, .iload_n 2, 0, 0, 0), (136, .invokevirtual 283, 0, 0, 0), (139, .aload_n 0, 0, 0, 0), (140, .aload_n 0, 0, 0, 0), (141, .getfield 302, 737, 0, 0), (144, .iconst 1, 0, 1, 0), (145, .iadd, 0, 0, 0), (146, .putfield 302, 737, 0, 0), (149, .return_, 0, 0, 0)]
set_option maxRecDepth 20000 in
theorem bk_Md_creak : BK m_Md_creak cd_Md_creak := ⟨pl_X12, pk_X12, fun E hE => (show ∀ E ∈ cd_Md_creak, decode cX12_creak E.1 = .ok (E.2.1, ilen E.2.1) ∧ exE pl_X12 E.1 E.2.1 E.2.2.1 E.2.2.2.1 E.2.2.2.2 = true by decide +kernel) E hE⟩
theorem nk_Md_creak : NK m_Md_creak 1 := ⟨tw1590, tw123, ⟨by decide +kernel, by decide +kernel⟩, by decide +kernel, Nat.le_of_ble_eq_true rfl⟩
def m_Md_daysGo : Mth := (yX12_daysGo, cX12_daysGo, 5, none, RX12)
def cd_Md_daysGo : List ME := [(0, .aload_n 0, 0, 0, 0), (1, .iconst 0, 0, 0, 0), (2, .putfield 289, 735, 0, 0), (5, .aload_n 0, 0, 0, 0), (6, .iconst 0, 0, 0, 0), (7, .putfield 280, 736, 0, 0), (10, .aload_n 0, 0, 0, 0), (11, .iconst 0, 0, 0, 0), (12, .putfield 302, 737, 0, 0), (15, .iconst 0, 0, 0, 0), (16, .istore_n 2, 0, 0, 0), (17, .iload_n 2, 0, 0, 0), (18, .iload_n 1, 0, 0, 0), (19, .if_icmp .ge 113, 132, 0, 0), (22, .aload_n 0, 0, 0, 0), (23, .getfield 7, 704, 0, 0), (26, .bipush 110, 0, 110, 0), (28, .iaload, 1936, 0, 0), (29, .sipush 9999, 0, 9999, 0), (32, .if_icmp .ge 100, 132, 0, 0), (35, .iconst 0, 0, 0, 0), (36, .istore_n 3, 0, 0, 0), (37, .iload_n 3, 0, 0, 0), (38, .bipush 12, 0, 12, 0), (40, .if_icmp .ge 14, 54, 0, 0), (43, .aload_n 0, 0, 0, 0), (44, .iload_n 3, 0, 0, 0), (45, .invokevirtual 305, 0, 0, 0), (48, .iinc 3 1, 0, 1, 0), (51, .goto (-14), 37, 0, 0), (54, .iconst 0, 0, 0, 0), (55, .istore_n 3, 0, 0, 0), (56, .iload_n 3, 0, 0, 0), (57, .bipush 6, 0, 6, 0), (59, .if_icmp .ge 32, 91, 0, 0), (62, .iconst 0, 0, 0, 0), (63, .istore 4, 0, 0, 0), (65, .iload 4, 0, 0, 0), (67, .bipush 12, 0, 12, 0), (69, .if_icmp .ge 16, 85, 0, 0), (72, .aload_n 0, 0, 0, 0), (73, .iload_n 3, 0, 0, 0), (74, .iload 4, 0, 0, 0), (76, .invokevirtual 308, 0, 0, 0), (79, .iinc 4 1, 0, 1, 0), (82, .goto (-17), 65, 0, 0), (85, .iinc 3 1, 0, 1, 0), (88, .goto (-32), 56, 0, 0), (91, .iconst 0, 0, 0, 0), (92, .istore_n 3, 0, 0, 0), (93, .iload_n 3, 0, 0, 0), (94, .bipush 12, 0, 12, 0), (96, .if_icmp .ge 14, 110, 0, 0), (99, .aload_n 0, 0, 0, 0), (100, .iload_n 3, 0, 0, 0), (101, .invokevirtual 311, 0, 0, 0), (104, .iinc 3 1, 0, 1, 0), (107, .goto (-14), 93, 0, 0), (110, .aload_n 0, 0, 0, 0), (111, .getfield 7, 704, 0, 0), (114, .bipush 110, 0, 110, 0), (116, .aload_n 0, 0, 0, 0), (117, .getfield 7, 704, 0, 0), (120, .bipush 110, 0, 110, 0), (122, .iaload, 1936, 0, 0), (123, .iconst 1, 0, 1, 0), (124, .iadd, 0, 0, 0), (125, .iastore, 1936, 0, 0), (126, .iinc 2 1, 0, 1, 0), (129, .goto (-112), 17, 0, 0), (132, .return_, 0, 0, 0)]
set_option maxRecDepth 20000 in
theorem bk_Md_daysGo : BK m_Md_daysGo cd_Md_daysGo := ⟨pl_X12, pk_X12, fun E hE => (show ∀ E ∈ cd_Md_daysGo, decode cX12_daysGo E.1 = .ok (E.2.1, ilen E.2.1) ∧ exE pl_X12 E.1 E.2.1 E.2.2.1 E.2.2.2.1 E.2.2.2.2 = true by decide +kernel) E hE⟩
theorem nk_Md_daysGo : NK m_Md_daysGo 1 := ⟨tw1521, tw123, ⟨by decide +kernel, by decide +kernel⟩, by decide +kernel, Nat.le_of_ble_eq_true rfl⟩
def m_Md_days : Mth := (yX12_days, cX12_days, 2, some .int, RX12)
def cd_Md_days : List ME := [(0, .iload_n 1, 0, 0, 0), (1, .iconst 1, 0, 1, 0), (2, .bipush 60, 0, 60, 0), (4, .invokestatic 111, 0, 0, 0), (7, .ifCond .ne 5, 12, 0, 0), (10, .iconst (-1), 0, (-1), 0), (11, .ireturn, 0, 0, 0), (12, .aload_n 0, 0, 0, 0), (13, .iload_n 1, 0, 0, 0), (14, .invokevirtual 314, 0, 0, 0), (17, .aload_n 0, 0, 0, 0), (18, .getfield 289, 735, 0, 0), (21, .ireturn, 0, 0, 0)]
set_option maxRecDepth 20000 in
theorem bk_Md_days : BK m_Md_days cd_Md_days := ⟨pl_X12, pk_X12, fun E hE => (show ∀ E ∈ cd_Md_days, decode cX12_days E.1 = .ok (E.2.1, ilen E.2.1) ∧ exE pl_X12 E.1 E.2.1 E.2.2.1 E.2.2.2.1 E.2.2.2.2 = true by decide +kernel) E hE⟩
theorem nk_Md_days : NK m_Md_days 1 := ⟨tw1517, tw123, ⟨by decide +kernel, by decide +kernel⟩, by decide +kernel, Nat.le_of_ble_eq_true rfl⟩
def m_Md_copiesRow : Mth := (yX12_copiesRow, cX12_copiesRow, 3, none, RX12)
def cd_Md_copiesRow : List ME := [(0, .iconst 0, 0, 0, 0), (1, .istore_n 2, 0, 0, 0), (2, .iload_n 2, 0, 0, 0), (3, .sipush 1936, 0, 1936, 0), (6, .if_icmp .ge 15, 21, 0, 0), (9, .aload_n 1, 0, 0, 0), (10, .iload_n 2, 0, 0, 0), (11, .aload_n 0, 0, 0, 0), (12, .iload_n 2, 0, 0, 0), (13, .iaload, 1936, 0, 0), (14, .iastore, 1936, 0, 0), (15, .iinc 2 1, 0, 1, 0), (18, .goto (-16), 2, 0, 0), (21, .return_, 0, 0, 0)]
set_option maxRecDepth 20000 in
theorem bk_Md_copiesRow : BK m_Md_copiesRow cd_Md_copiesRow := ⟨pl_X12, pk_X12, fun E hE => (show ∀ E ∈ cd_Md_copiesRow, decode cX12_copiesRow E.1 = .ok (E.2.1, ilen E.2.1) ∧ exE pl_X12 E.1 E.2.1 E.2.2.1 E.2.2.2.1 E.2.2.2.2 = true by decide +kernel) E hE⟩
theorem nk_Md_copiesRow : NK m_Md_copiesRow 2 := ⟨tw1602, tw123, ⟨by decide +kernel, by decide +kernel⟩, by decide +kernel, Nat.le_of_ble_eq_true rfl⟩
def m_Md_wedTwos : Mth := (yX12_wedTwos, cX12_wedTwos, 3, some .int, RX12)
def cd_Md_wedTwos : List ME := [(0, .iconst 0, 0, 0, 0), (1, .istore_n 1, 0, 0, 0), (2, .iconst 0, 0, 0, 0), (3, .istore_n 2, 0, 0, 0), (4, .iload_n 2, 0, 0, 0), (5, .bipush 12, 0, 12, 0), (7, .if_icmp .ge 30, 37, 0, 0), (10, .iload_n 1, 0, 0, 0), (11, .aload_n 0, 0, 0, 0), (12, .getfield 7, 704, 0, 0), (15, .bipush 24, 0, 24, 0), (17, .iload_n 2, 0, 0, 0), (18, .iadd, 0, 0, 0), (19, .iaload, 1936, 0, 0), (20, .iload_n 2, 0, 0, 0), (21, .if_icmp .le 7, 28, 0, 0), (24, .iconst 1, 0, 1, 0), (25, .goto 4, 29, 0, 0), (28, .iconst 0, 0, 0, 0), (29, .iadd, 0, 0, 0), (30, .istore_n 1, 0, 0, 0), (31, .iinc 2 1, 0, 1, 0), (34, .goto (-30), 4, 0, 0), (37, .iload_n 1, 0, 0, 0), (38, .ireturn, 0, 0, 0)]
set_option maxRecDepth 20000 in
theorem bk_Md_wedTwos : BK m_Md_wedTwos cd_Md_wedTwos := ⟨pl_X12, pk_X12, fun E hE => (show ∀ E ∈ cd_Md_wedTwos, decode cX12_wedTwos E.1 = .ok (E.2.1, ilen E.2.1) ∧ exE pl_X12 E.1 E.2.1 E.2.2.1 E.2.2.2.1 E.2.2.2.2 = true by decide +kernel) E hE⟩
theorem nk_Md_wedTwos : NK m_Md_wedTwos 0 := ⟨tw1606, tw123, ⟨by decide +kernel, by decide +kernel⟩, by decide +kernel, Nat.le_of_ble_eq_true rfl⟩
def m_Md_tried : Mth := (yX12_tried, cX12_tried, 5, some .int, RX12)
def cd_Md_tried : List ME := [(0, .iload_n 2, 0, 0, 0), (1, .iconst 0, 0, 0, 0), (2, .iconst 3, 0, 3, 0), (3, .invokestatic 111, 0, 0, 0), (6, .ifCond .ne 36, 42, 0, 0), (9, .iload_n 2, 0, 0, 0), (10, .bipush 10, 0, 10, 0), (12, .bipush 21, 0, 21, 0), (14, .invokestatic 111, 0, 0, 0), (17, .ifCond .eq 14, 31, 0, 0), (20, .aload_n 0, 0, 0, 0), (21, .iload_n 2, 0, 0, 0), (22, .bipush 10, 0, 10, 0), (24, .isub, 0, 0, 0), (25, .invokevirtual 105, 0, 0, 0), (28, .ifCond .ne 14, 42, 0, 0), (31, .iload_n 2, 0, 0, 0), (32, .bipush 30, 0, 30, 0), (34, .bipush 41, 0, 41, 0), (36, .invokestatic 111, 0, 0, 0), (39, .ifCond .eq 7, 46, 0, 0), (42, .iconst 1, 0, 1, 0), (43, .goto 4, 47, 0, 0), (46, .iconst 0, 0, 0, 0), (47, .istore_n 3, 0, 0, 0), (48, .iload_n 1, 0, 0, 0), (49, .iconst 1, 0, 1, 0), (50, .bipush 60, 0, 60, 0), (52, .invokestatic 111, 0, 0, 0), (55, .ifCond .eq 7, 62, 0, 0), (58, .iload_n 3, 0, 0, 0), (59, .ifCond .ne 5, 64, 0, 0), (62, .iconst (-1), 0, (-1), 0), (63, .ireturn, 0, 0, 0), (64, .aload_n 0, 0, 0, 0), (65, .getfield 7, 704, 0, 0), (68, .aload_n 0, 0, 0, 0), (69, .getfield 13, 705, 0, 0), (72, .invokestatic 317, 0, 0, 0), (75, .aload_n 0, 0, 0, 0), (76, .iload_n 1, 0, 0, 0), (77, .invokevirtual 314, 0, 0, 0), (80, .iload_n 2, 0, 0, 0), (81, .ifCond .ne 10, 91, 0, 0), (84, .aload_n 0, 0, 0, 0), (85, .getfield 289, 735, 0, 0), (88, .goto 72, 160, 0, 0), (91, .iload_n 2, 0, 0, 0), (92, .iconst 1, 0, 1, 0), (93, .if_icmp .ne 10, 103, 0, 0), (96, .aload_n 0, 0, 0, 0), (97, .getfield 280, 736, 0, 0), (100, .goto 60, 160, 0, 0), (103, .iload_n 2, 0, 0, 0), (104, .iconst 2, 0, 2, 0), (105, .if_icmp .ne 10, 115, 0, 0), (108, .aload_n 0, 0, 0, 0), (109, .getfield 302, 737, 0, 0), (112, .goto 48, 160, 0, 0), (115, .iload_n 2, 0, 0, 0), (116, .iconst 3, 0, 3, 0), (117, .if_icmp .ne 10, 127, 0, 0), (120, .aload_n 0, 0, 0, 0), (121, .invokevirtual 321, 0, 0, 0), (124, .goto 36, 160, 0, 0), (127, .iload_n 2, 0, 0, 0), (128, .bipush 30, 0, 30, 0), (130, .if_icmp .ge 18, 148, 0, 0), (133, .aload_n 0, 0, 0, 0), (134, .getfield 7, 704, 0, 0), (137, .bipush 24, 0, 24, 0), (139, .iload_n 2, 0, 0, 0), (140, .iadd, 0, 0, 0), (141, .bipush 10, 0, 10, 0), (143, .isub, 0, 0, 0), (144, .iaload, 1936, 0, 0), (145, .goto 15, 160, 0, 0), (148, .aload_n 0, 0, 0, 0), (149, .getfield 7, 704, 0, 0), (152, .bipush 72, 0, 72, 0), (154, .iload_n 2, 0, 0, 0), (155, .iadd, 0, 0, 0), (156, .bipush 30, 0, 30, 0), (158, .isub, 0, 0, 0), (159, .iaload, 1936, 0, 0), (160, .istore 4, 0, 0, 0), (162, .aload_n 0, 0, 0, 0), (163, .getfield 13, 705, 0, 0), (166, .aload_n 0, 0, 0, 0), (167, .getfield 7, 704, 0, 0), (170, .invokestatic 317, 0, 0, 0), (173, .iload 4, 0, 0, 0), (175, .ireturn, 0, 0, 0)]
set_option maxRecDepth 20000 in
theorem bk_Md_tried : BK m_Md_tried cd_Md_tried := ⟨pl_X12, pk_X12, fun E hE => (show ∀ E ∈ cd_Md_tried, decode cX12_tried E.1 = .ok (E.2.1, ilen E.2.1) ∧ exE pl_X12 E.1 E.2.1 E.2.2.1 E.2.2.2.1 E.2.2.2.2 = true by decide +kernel) E hE⟩
theorem nk_Md_tried : NK m_Md_tried 2 := ⟨tw1599, tw123, ⟨by decide +kernel, by decide +kernel⟩, by decide +kernel, Nat.le_of_ble_eq_true rfl⟩
def m_Md_fitting : Mth := (yX12_fitting, cX12_fitting, 4, some .int, RX12)
def cd_Md_fitting : List ME := [(0, .iconst 0, 0, 0, 0), (1, .istore_n 2, 0, 0, 0), (2, .iconst 0, 0, 0, 0), (3, .istore_n 3, 0, 0, 0), (4, .iload_n 3, 0, 0, 0), (5, .bipush 12, 0, 12, 0), (7, .if_icmp .ge 37, 44, 0, 0), (10, .iload_n 3, 0, 0, 0), (11, .iload_n 1, 0, 0, 0), (12, .if_icmp .eq 26, 38, 0, 0), (15, .aload_n 0, 0, 0, 0), (16, .iload_n 3, 0, 0, 0), (17, .invokevirtual 108, 0, 0, 0), (20, .ifCond .eq 18, 38, 0, 0), (23, .aload_n 0, 0, 0, 0), (24, .iload_n 1, 0, 0, 0), (25, .iload_n 3, 0, 0, 0), (26, .invokevirtual 286, 0, 0, 0), (29, .ifCond .eq 9, 38, 0, 0), (32, .iload_n 2, 0, 0, 0), (33, .iconst 1, 0, 1, 0), (34, .iload_n 3, 0, 0, 0), (35, .ishl, 0, 0, 0), (36, .ior, 0, 0, 0), (37, .istore_n 2, 0, 0, 0), (38, .iinc 3 1, 0, 1, 0), (41, .goto (-37), 4, 0, 0), (44, .iload_n 2, 0, 0, 0), (45, .ireturn, 0, 0, 0)]
set_option maxRecDepth 20000 in
theorem bk_Md_fitting : BK m_Md_fitting cd_Md_fitting := ⟨pl_X12, pk_X12, fun E hE => (show ∀ E ∈ cd_Md_fitting, decode cX12_fitting E.1 = .ok (E.2.1, ilen E.2.1) ∧ exE pl_X12 E.1 E.2.1 E.2.2.1 E.2.2.2.1 E.2.2.2.2 = true by decide +kernel) E hE⟩
theorem nk_Md_fitting : NK m_Md_fitting 1 := ⟨tw1614, tw123, ⟨by decide +kernel, by decide +kernel⟩, by decide +kernel, Nat.le_of_ble_eq_true rfl⟩
def m_Md_personIs : Mth := (yX12_personIs, cX12_personIs, 3, some .int, RX12)
def cd_Md_personIs : List ME := [(0, .aload_n 0, 0, 0, 0), (1, .iload_n 1, 0, 0, 0), (2, .invokevirtual 105, 0, 0, 0), (5, .ifCond .ne 5, 10, 0, 0), (8, .iconst (-1), 0, (-1), 0), (9, .ireturn, 0, 0, 0), (10, .iload_n 2, 0, 0, 0), (60, .aload_n 0, 0, 0, 0), (61, .getfield 7, 704, 0, 0), (64, .iconst 0, 0, 0, 0), (65, .iload_n 1, 0, 0, 0), (66, .iadd, 0, 0, 0), (67, .iaload, 1936, 0, 0), (68, .ireturn, 0, 0, 0), (69, .aload_n 0, 0, 0, 0), (70, .getfield 7, 704, 0, 0), (73, .bipush 12, 0, 12, 0), (75, .iload_n 1, 0, 0, 0), (76, .iadd, 0, 0, 0), (77, .iaload, 1936, 0, 0), (78, .ireturn, 0, 0, 0), (79, .aload_n 0, 0, 0, 0), (80, .getfield 7, 704, 0, 0), (83, .bipush 24, 0, 24, 0), (85, .iload_n 1, 0, 0, 0), (86, .iadd, 0, 0, 0), (87, .iaload, 1936, 0, 0), (88, .ireturn, 0, 0, 0), (89, .aload_n 0, 0, 0, 0), (90, .getfield 7, 704, 0, 0), (93, .bipush 36, 0, 36, 0), (95, .iload_n 1, 0, 0, 0), (96, .iadd, 0, 0, 0), (97, .iaload, 1936, 0, 0), (98, .ireturn, 0, 0, 0), (99, .aload_n 0, 0, 0, 0), (100, .iload_n 1, 0, 0, 0), (101, .invokevirtual 108, 0, 0, 0), (104, .ifCond .eq 7, 111, 0, 0), (107, .iconst 1, 0, 1, 0), (108, .goto 4, 112, 0, 0), (111, .iconst 0, 0, 0, 0), (112, .ireturn, 0, 0, 0), (113, .aload_n 0, 0, 0, 0), (114, .getfield 7, 704, 0, 0), (117, .bipush 48, 0, 48, 0), (119, .iload_n 1, 0, 0, 0), (120, .iadd, 0, 0, 0), (121, .iaload, 1936, 0, 0), (122, .ireturn, 0, 0, 0), (123, .aload_n 0, 0, 0, 0), (124, .iload_n 1, 0, 0, 0), (125, .invokevirtual 324, 0, 0, 0), (128, .ireturn, 0, 0, 0), (129, .aload_n 0, 0, 0, 0), (130, .getfield 7, 704, 0, 0), (133, .bipush 96, 0, 96, 0), (135, .iload_n 1, 0, 0, 0), (136, .iadd, 0, 0, 0), (137, .iaload, 1936, 0, 0), (138, .aload_n 0, 0, 0, 0), (139, .getfield 7, 704, 0, 0), (142, .bipush 84, 0, 84, 0), (144, .iload_n 1, 0, 0, 0), (145, .iadd, 0, 0, 0), (146, .iaload, 1936, 0, 0), (147, .isub, 0, 0, 0), (148, .ireturn, 0, 0, 0), (149, .aload_n 0, 0, 0, 0), (150, .getfield 7, 704, 0, 0), (153, .bipush 60, 0, 60, 0), (155, .iload_n 1, 0, 0, 0), (156, .iadd, 0, 0, 0), (157, .iaload, 1936, 0, 0), (158, .ireturn, 0, 0, 0), (159, .iconst (-1), 0, (-1), 0), (160, .ireturn, 0, 0, 0)]
set_option maxRecDepth 20000 in
theorem bk_Md_personIs : BK m_Md_personIs cd_Md_personIs := ⟨pl_X12, pk_X12, fun E hE => (show ∀ E ∈ cd_Md_personIs, decode cX12_personIs E.1 = .ok (E.2.1, ilen E.2.1) ∧ exE pl_X12 E.1 E.2.1 E.2.2.1 E.2.2.2.1 E.2.2.2.2 = true by decide +kernel) E hE⟩
theorem nk_Md_personIs : NK m_Md_personIs 2 := ⟨tw1610, tw123, ⟨by decide +kernel, by decide +kernel⟩, by decide +kernel, Nat.le_of_ble_eq_true rfl⟩
def m_Md_piece : Mth := (yX12_piece, cX12_piece, 4, some .int, RX12)
def cd_Md_piece : List ME := [(0, .iload_n 1, 0, 0, 0), (1, .invokestatic 97, 0, 0, 0), (4, .ifCond .eq 13, 17, 0, 0), (7, .iload_n 2, 0, 0, 0), (8, .iconst 0, 0, 0, 0), (9, .bipush 9, 0, 9, 0), (11, .invokestatic 111, 0, 0, 0), (14, .ifCond .ne 6, 20, 0, 0), (17, .bipush (-100), 0, (-100), 0), (19, .ireturn, 0, 0, 0), (20, .iload_n 2, 0, 0, 0), (21, .bipush 8, 0, 8, 0), (23, .if_icmp .ge 10, 33, 0, 0), (26, .aload_n 0, 0, 0, 0), (27, .iload_n 1, 0, 0, 0), (28, .iload_n 2, 0, 0, 0), (29, .invokevirtual 236, 0, 0, 0), (32, .ireturn, 0, 0, 0), (33, .iload_n 2, 0, 0, 0), (34, .bipush 8, 0, 8, 0), (36, .if_icmp .ne 13, 49, 0, 0), (39, .aload_n 0, 0, 0, 0), (40, .getfield 7, 704, 0, 0), (43, .bipush 72, 0, 72, 0), (45, .iload_n 1, 0, 0, 0), (46, .iadd, 0, 0, 0), (47, .iaload, 1936, 0, 0), (48, .ireturn, 0, 0, 0), (49, .iconst 0, 0, 0, 0), (50, .istore_n 3, 0, 0, 0), (51, .iload_n 3, 0, 0, 0), (52, .bipush 12, 0, 12, 0), (54, .if_icmp .ge 35, 89, 0, 0), (57, .aload_n 0, 0, 0, 0), (58, .iload_n 3, 0, 0, 0), (59, .invokevirtual 108, 0, 0, 0), (62, .ifCond .eq 21, 83, 0, 0), (65, .aload_n 0, 0, 0, 0), (66, .getfield 7, 704, 0, 0), (69, .bipush 48, 0, 48, 0), (71, .iload_n 3, 0, 0, 0), (72, .iadd, 0, 0, 0), (73, .iaload, 1936, 0, 0), (74, .iload_n 1, 0, 0, 0), (75, .invokestatic 101, 0, 0, 0), (78, .ifCond .eq 5, 83, 0, 0), (81, .iload_n 3, 0, 0, 0), (82, .ireturn, 0, 0, 0), (83, .iinc 3 1, 0, 1, 0), (86, .goto (-35), 51, 0, 0), (89, .bipush (-2), 0, (-2), 0), (91, .ireturn, 0, 0, 0)]
set_option maxRecDepth 20000 in
theorem bk_Md_piece : BK m_Md_piece cd_Md_piece := ⟨pl_X12, pk_X12, fun E hE => (show ∀ E ∈ cd_Md_piece, decode cX12_piece E.1 = .ok (E.2.1, ilen E.2.1) ∧ exE pl_X12 E.1 E.2.1 E.2.2.1 E.2.2.2.1 E.2.2.2.2 = true by decide +kernel) E hE⟩
theorem nk_Md_piece : NK m_Md_piece 2 := ⟨tw1618, tw123, ⟨by decide +kernel, by decide +kernel⟩, by decide +kernel, Nat.le_of_ble_eq_true rfl⟩
def m_Md_likes : Mth := (yX12_likes, cX12_likes, 3, some .int, RX12)
def cd_Md_likes : List ME := [(0, .aload_n 0, 0, 0, 0), (1, .iload_n 1, 0, 0, 0), (2, .iload_n 2, 0, 0, 0), (3, .aload_n 0, 0, 0, 0), (4, .iload_n 1, 0, 0, 0), (5, .iload_n 2, 0, 0, 0), (6, .invokevirtual 262, 0, 0, 0), (9, .invokevirtual 255, 0, 0, 0), (12, .aload_n 0, 0, 0, 0), (13, .bipush 108, 0, 108, 0), (15, .bipush 99, 0, 99, 0), (17, .invokevirtual 259, 0, 0, 0), (20, .ireturn, 0, 0, 0)]
set_option maxRecDepth 20000 in
theorem bk_Md_likes : BK m_Md_likes cd_Md_likes := ⟨pl_X12, pk_X12, fun E hE => (show ∀ E ∈ cd_Md_likes, decode cX12_likes E.1 = .ok (E.2.1, ilen E.2.1) ∧ exE pl_X12 E.1 E.2.1 E.2.2.1 E.2.2.2.1 E.2.2.2.2 = true by decide +kernel) E hE⟩
theorem nk_Md_likes : NK m_Md_likes 2 := ⟨tw1626, tw123, ⟨by decide +kernel, by decide +kernel⟩, by decide +kernel, Nat.le_of_ble_eq_true rfl⟩
def m_Md_slack : Mth := (yX12_slack, cX12_slack, 5, some .int, RX12)
def cd_Md_slack : List ME := [(0, .aload_n 0, 0, 0, 0), (1, .iload_n 1, 0, 0, 0), (2, .invokevirtual 105, 0, 0, 0), (5, .ifCond .eq 25, 30, 0, 0), (8, .aload_n 0, 0, 0, 0), (9, .iload_n 2, 0, 0, 0), (10, .invokevirtual 105, 0, 0, 0), (13, .ifCond .eq 17, 30, 0, 0), (16, .iload_n 1, 0, 0, 0), (17, .iload_n 2, 0, 0, 0), (18, .if_icmp .eq 12, 30, 0, 0), (21, .iload_n 3, 0, 0, 0), (22, .iconst 0, 0, 0, 0), (23, .iconst 2, 0, 2, 0), (24, .invokestatic 111, 0, 0, 0), (27, .ifCond .ne 5, 32, 0, 0), (30, .iconst (-1), 0, (-1), 0), (31, .ireturn, 0, 0, 0), (32, .aload_n 0, 0, 0, 0), (33, .iload_n 1, 0, 0, 0), (34, .iload_n 2, 0, 0, 0), (35, .invokevirtual 262, 0, 0, 0), (38, .istore 4, 0, 0, 0), (40, .iload 4, 0, 0, 0), (42, .iconst (-1), 0, (-1), 0), (43, .if_icmp .ne 5, 48, 0, 0), (46, .iconst (-1), 0, (-1), 0), (47, .ireturn, 0, 0, 0), (48, .iload_n 3, 0, 0, 0), (49, .ifCond .ne 8, 57, 0, 0), (52, .iload 4, 0, 0, 0), (54, .goto 31, 85, 0, 0), (57, .iload_n 3, 0, 0, 0), (58, .iconst 1, 0, 1, 0), (59, .if_icmp .ne 20, 79, 0, 0), (62, .aload_n 0, 0, 0, 0), (63, .iload_n 1, 0, 0, 0), (64, .iload_n 2, 0, 0, 0), (65, .invokevirtual 286, 0, 0, 0), (68, .ifCond .eq 7, 75, 0, 0), (71, .iconst 1, 0, 1, 0), (72, .goto 13, 85, 0, 0), (75, .iconst 0, 0, 0, 0), (76, .goto 9, 85, 0, 0), (79, .aload_n 0, 0, 0, 0), (80, .iload_n 1, 0, 0, 0), (81, .iload_n 2, 0, 0, 0), (82, .invokevirtual 327, 0, 0, 0), (85, .ireturn, 0, 0, 0)]
set_option maxRecDepth 20000 in
theorem bk_Md_slack : BK m_Md_slack cd_Md_slack := ⟨pl_X12, pk_X12, fun E hE => (show ∀ E ∈ cd_Md_slack, decode cX12_slack E.1 = .ok (E.2.1, ilen E.2.1) ∧ exE pl_X12 E.1 E.2.1 E.2.2.1 E.2.2.2.1 E.2.2.2.2 = true by decide +kernel) E hE⟩
theorem nk_Md_slack : NK m_Md_slack 3 := ⟨tw1622, tw123, ⟨by decide +kernel, by decide +kernel⟩, by decide +kernel, Nat.le_of_ble_eq_true rfl⟩
def m_Md_laysFits : Mth := (yX12_laysFits, cX12_laysFits, 4, none, RX12)
def cd_Md_laysFits : List ME := [(0, .iconst 0, 0, 0, 0), (1, .istore_n 1, 0, 0, 0), (2, .iload_n 1, 0, 0, 0), (3, .bipush 12, 0, 12, 0), (5, .if_icmp .ge 32, 37, 0, 0), (8, .aload_n 0, 0, 0, 0), (9, .getfield 68, 738, 0, 0), (12, .iload_n 1, 0, 0, 0), (13, .aload_n 0, 0, 0, 0), (14, .iload_n 1, 0, 0, 0), (15, .invokevirtual 108, 0, 0, 0), (18, .ifCond .eq 11, 29, 0, 0), (21, .aload_n 0, 0, 0, 0), (22, .iload_n 1, 0, 0, 0), (23, .invokevirtual 324, 0, 0, 0), (26, .goto 4, 30, 0, 0), (29, .iconst 0, 0, 0, 0), (30, .iastore, 12, 0, 0), (31, .iinc 1 1, 0, 1, 0), (34, .goto (-32), 2, 0, 0), (37, .iconst 0, 0, 0, 0), (38, .istore_n 1, 0, 0, 0), (39, .iload_n 1, 0, 0, 0), (40, .bipush 12, 0, 12, 0), (42, .if_icmp .ge 84, 126, 0, 0), (45, .iconst 0, 0, 0, 0), (46, .istore_n 2, 0, 0, 0), (47, .iload_n 2, 0, 0, 0), (48, .bipush 12, 0, 12, 0), (50, .if_icmp .ge 70, 120, 0, 0), (53, .aload_n 0, 0, 0, 0), (54, .getfield 68, 738, 0, 0), (57, .iload_n 1, 0, 0, 0), (58, .iaload, 12, 0, 0), (59, .iload_n 2, 0, 0, 0), (60, .invokestatic 101, 0, 0, 0), (63, .istore_n 3, 0, 0, 0), (64, .aload_n 0, 0, 0, 0), (65, .getfield 71, 739, 0, 0), (68, .bipush 12, 0, 12, 0), (70, .iload_n 1, 0, 0, 0), (71, .imul, 0, 0, 0), (72, .iload_n 2, 0, 0, 0), (73, .iadd, 0, 0, 0), (74, .iload_n 3, 0, 0, 0), (75, .ifCond .eq 12, 87, 0, 0), (78, .aload_n 0, 0, 0, 0), (79, .iload_n 1, 0, 0, 0), (80, .iload_n 2, 0, 0, 0), (81, .invokevirtual 262, 0, 0, 0), (84, .goto 4, 88, 0, 0), (87, .iconst 0, 0, 0, 0), (88, .iastore, 144, 0, 0), (89, .aload_n 0, 0, 0, 0), (90, .getfield 74, 740, 0, 0), (93, .bipush 12, 0, 12, 0), (95, .iload_n 1, 0, 0, 0), (96, .imul, 0, 0, 0), (97, .iload_n 2, 0, 0, 0), (98, .iadd, 0, 0, 0), (99, .iload_n 3, 0, 0, 0), (100, .ifCond .eq 12, 112, 0, 0), (103, .aload_n 0, 0, 0, 0), (104, .iload_n 1, 0, 0, 0), (105, .iload_n 2, 0, 0, 0), (106, .invokevirtual 327, 0, 0, 0), (109, .goto 4, 113, 0, 0), (112, .iconst 0, 0, 0, 0), (113, .iastore, 144, 0, 0), (114, .iinc 2 1, 0, 1, 0), (117, .goto (-70), 47, 0, 0), (120, .iinc 1 1, 0, 1, 0), (123, .goto (-84), 39, 0, 0), (126, .return_, 0, 0, 0)]
set_option maxRecDepth 20000 in
theorem bk_Md_laysFits : BK m_Md_laysFits cd_Md_laysFits := ⟨pl_X12, pk_X12, fun E hE => (show ∀ E ∈ cd_Md_laysFits, decode cX12_laysFits E.1 = .ok (E.2.1, ilen E.2.1) ∧ exE pl_X12 E.1 E.2.1 E.2.2.1 E.2.2.2.1 E.2.2.2.2 = true by decide +kernel) E hE⟩
theorem nk_Md_laysFits : NK m_Md_laysFits 0 := ⟨tw1634, tw123, ⟨by decide +kernel, by decide +kernel⟩, by decide +kernel, Nat.le_of_ble_eq_true rfl⟩
def m_Md_locks : Mth := (yX12_locks, cX12_locks, 7, some .int, RX12)
def cd_Md_locks : List ME := [(0, .iload_n 1, 0, 0, 0), (1, .iconst 0, 0, 0, 0), (2, .iconst 3, 0, 3, 0), (3, .invokestatic 111, 0, 0, 0), (6, .ifCond .ne 5, 11, 0, 0), (9, .iconst (-1), 0, (-1), 0), (10, .ireturn, 0, 0, 0), (11, .aload_n 0, 0, 0, 0), (12, .invokevirtual 330, 0, 0, 0), (15, .iconst 0, 0, 0, 0), (16, .istore_n 2, 0, 0, 0), (17, .iconst (-1), 0, (-1), 0), (18, .istore_n 3, 0, 0, 0), (19, .iconst 0, 0, 0, 0), (20, .istore 4, 0, 0, 0), (22, .iload 4, 0, 0, 0), (24, .bipush 12, 0, 12, 0), (26, .if_icmp .ge 123, 149, 0, 0), (29, .iload 4, 0, 0, 0), (31, .iconst 1, 0, 1, 0), (32, .iadd, 0, 0, 0), (33, .istore 5, 0, 0, 0), (35, .iload 5, 0, 0, 0), (37, .bipush 12, 0, 12, 0), (39, .if_icmp .ge 104, 143, 0, 0), (42, .iload 5, 0, 0, 0), (44, .iconst 1, 0, 1, 0), (45, .iadd, 0, 0, 0), (46, .istore 6, 0, 0, 0), (48, .iload 6, 0, 0, 0), (50, .bipush 12, 0, 12, 0), (52, .if_icmp .ge 85, 137, 0, 0), (55, .aload_n 0, 0, 0, 0), (56, .getfield 68, 738, 0, 0), (59, .iload 4, 0, 0, 0), (61, .iaload, 12, 0, 0), (62, .iload 5, 0, 0, 0), (64, .invokestatic 101, 0, 0, 0), (67, .ifCond .eq 64, 131, 0, 0), (70, .aload_n 0, 0, 0, 0), (71, .getfield 68, 738, 0, 0), (74, .iload 4, 0, 0, 0), (76, .iaload, 12, 0, 0), (77, .iload 6, 0, 0, 0), (79, .invokestatic 101, 0, 0, 0), (82, .ifCond .eq 49, 131, 0, 0), (85, .aload_n 0, 0, 0, 0), (86, .getfield 68, 738, 0, 0), (89, .iload 5, 0, 0, 0), (91, .iaload, 12, 0, 0), (92, .iload 6, 0, 0, 0), (94, .invokestatic 101, 0, 0, 0), (97, .ifCond .ne 6, 103, 0, 0), (100, .goto 31, 131, 0, 0), (103, .iload_n 2, 0, 0, 0), (104, .ifCond .ne 21, 125, 0, 0), (107, .sipush 144, 0, 144, 0), (110, .iload 4, 0, 0, 0), (112, .imul, 0, 0, 0), (113, .bipush 12, 0, 12, 0), (115, .iload 5, 0, 0, 0), (117, .imul, 0, 0, 0), (118, .iadd, 0, 0, 0), (119, .iload 6, 0, 0, 0), (121, .iadd, 0, 0, 0), (122, .goto 4, 126, 0, 0), (125, .iload_n 3, 0, 0, 0), (126, .istore_n 3, 0, 0, 0), (127, .iload_n 2, 0, 0, 0), (128, .iconst 1, 0, 1, 0), (129, .iadd, 0, 0, 0), (130, .istore_n 2, 0, 0, 0), (131, .iinc 6 1, 0, 1, 0), (134, .goto (-86), 48, 0, 0), (137, .iinc 5 1, 0, 1, 0), (140, .goto (-105), 35, 0, 0), (143, .iinc 4 1, 0, 1, 0), (146, .goto (-124), 22, 0, 0), (149, .iload_n 1, 0, 0, 0), (150, .ifCond .ne 7, 157, 0, 0), (153, .iload_n 2, 0, 0, 0), (154, .goto 45, 199, 0, 0), (157, .iload_n 3, 0, 0, 0), (158, .iconst (-1), 0, (-1), 0), (159, .if_icmp .ne 8, 167, 0, 0), (162, .bipush (-2), 0, (-2), 0), (164, .goto 35, 199, 0, 0), (167, .iload_n 1, 0, 0, 0), (168, .iconst 1, 0, 1, 0), (169, .if_icmp .ne 11, 180, 0, 0), (172, .iload_n 3, 0, 0, 0), (173, .sipush 144, 0, 144, 0), (176, .idiv, 0, 0, 0), (177, .goto 22, 199, 0, 0), (180, .iload_n 1, 0, 0, 0), (181, .iconst 2, 0, 2, 0), (182, .if_icmp .ne 13, 195, 0, 0), (185, .iload_n 3, 0, 0, 0), (186, .bipush 12, 0, 12, 0), (188, .idiv, 0, 0, 0), (189, .bipush 12, 0, 12, 0), (191, .irem, 0, 0, 0), (192, .goto 7, 199, 0, 0), (195, .iload_n 3, 0, 0, 0), (196, .bipush 12, 0, 12, 0), (198, .irem, 0, 0, 0), (199, .ireturn, 0, 0, 0)]
set_option maxRecDepth 20000 in
theorem bk_Md_locks : BK m_Md_locks cd_Md_locks := ⟨pl_X12, pk_X12, fun E hE => (show ∀ E ∈ cd_Md_locks, decode cX12_locks E.1 = .ok (E.2.1, ilen E.2.1) ∧ exE pl_X12 E.1 E.2.1 E.2.2.1 E.2.2.2.1 E.2.2.2.2 = true by decide +kernel) E hE⟩
theorem nk_Md_locks : NK m_Md_locks 1 := ⟨tw1630, tw123, ⟨by decide +kernel, by decide +kernel⟩, by decide +kernel, Nat.le_of_ble_eq_true rfl⟩
def m_Md_isOne : Mth := (yX12_isOne, cX12_isOne, 3, some .boolean, RX12)
def cd_Md_isOne : List ME := [(0, .aload_n 0, 0, 0, 0), (1, .iload_n 1, 0, 0, 0), (2, .invokevirtual 108, 0, 0, 0), (5, .ifCond .eq 19, 24, 0, 0), (8, .aload_n 0, 0, 0, 0), (9, .getfield 7, 704, 0, 0), (12, .iconst 0, 0, 0, 0), (13, .iload_n 1, 0, 0, 0), (14, .iadd, 0, 0, 0), (15, .iaload, 1936, 0, 0), (16, .iload_n 2, 0, 0, 0), (17, .if_icmp .ne 7, 24, 0, 0), (20, .iconst 1, 0, 1, 0), (21, .goto 4, 25, 0, 0), (24, .iconst 0, 0, 0, 0), (25, .ireturn, 0, 0, 0)]
set_option maxRecDepth 20000 in
theorem bk_Md_isOne : BK m_Md_isOne cd_Md_isOne := ⟨pl_X12, pk_X12, fun E hE => (show ∀ E ∈ cd_Md_isOne, decode cX12_isOne E.1 = .ok (E.2.1, ilen E.2.1) ∧ exE pl_X12 E.1 E.2.1 E.2.2.1 E.2.2.2.1 E.2.2.2.2 = true by decide +kernel) E hE⟩
theorem nk_Md_isOne : NK m_Md_isOne 2 := ⟨tw1642, tw123, ⟨by decide +kernel, by decide +kernel⟩, by decide +kernel, Nat.le_of_ble_eq_true rfl⟩
def m_Md_mayGet : Mth := (yX12_mayGet, cX12_mayGet, 4, some .boolean, RX12)
def cd_Md_mayGet : List ME := [(0, .aload_n 0, 0, 0, 0), (1, .getfield 68, 738, 0, 0), (4, .iload_n 1, 0, 0, 0), (5, .iaload, 12, 0, 0), (6, .iload_n 2, 0, 0, 0), (7, .invokestatic 101, 0, 0, 0), (10, .ifCond .eq 27, 37, 0, 0), (13, .aload_n 0, 0, 0, 0), (14, .getfield 7, 704, 0, 0), (17, .iconst 0, 0, 0, 0), (18, .iload_n 2, 0, 0, 0), (19, .iadd, 0, 0, 0), (20, .iaload, 1936, 0, 0), (21, .iconst 1, 0, 1, 0), (22, .if_icmp .ne 15, 37, 0, 0), (25, .iload_n 3, 0, 0, 0), (26, .iload_n 2, 0, 0, 0), (27, .invokestatic 101, 0, 0, 0), (30, .ifCond .ne 7, 37, 0, 0), (33, .iconst 1, 0, 1, 0), (34, .goto 4, 38, 0, 0), (37, .iconst 0, 0, 0, 0), (38, .ireturn, 0, 0, 0)]
set_option maxRecDepth 20000 in
theorem bk_Md_mayGet : BK m_Md_mayGet cd_Md_mayGet := ⟨pl_X12, pk_X12, fun E hE => (show ∀ E ∈ cd_Md_mayGet, decode cX12_mayGet E.1 = .ok (E.2.1, ilen E.2.1) ∧ exE pl_X12 E.1 E.2.1 E.2.2.1 E.2.2.2.1 E.2.2.2.2 = true by decide +kernel) E hE⟩
theorem nk_Md_mayGet : NK m_Md_mayGet 3 := ⟨tw1651, tw123, ⟨by decide +kernel, by decide +kernel⟩, by decide +kernel, Nat.le_of_ble_eq_true rfl⟩
def m_Md_laysMost : Mth := (yX12_laysMost, cX12_laysMost, 5, none, RX12)
def cd_Md_laysMost : List ME := [(0, .iconst 0, 0, 0, 0), (1, .istore_n 1, 0, 0, 0), (2, .iload_n 1, 0, 0, 0), (3, .sipush 4096, 0, 4096, 0), (6, .if_icmp .ge 20, 26, 0, 0), (9, .aload_n 0, 0, 0, 0), (10, .getfield 78, 741, 0, 0), (13, .ldc_w 333, 0, 49152, 0), (16, .iload_n 1, 0, 0, 0), (17, .iadd, 0, 0, 0), (18, .iconst 0, 0, 0, 0), (19, .iastore, 53248, 0, 0), (20, .iinc 1 1, 0, 1, 0), (23, .goto (-21), 2, 0, 0), (26, .bipush 11, 0, 11, 0), (28, .istore_n 1, 0, 0, 0), (29, .iload_n 1, 0, 0, 0), (30, .ifCond .lt 129, 159, 0, 0), (33, .iconst 0, 0, 0, 0), (34, .istore_n 2, 0, 0, 0), (35, .iload_n 2, 0, 0, 0), (36, .sipush 4096, 0, 4096, 0), (39, .if_icmp .ge 114, 153, 0, 0), (42, .aload_n 0, 0, 0, 0), (43, .getfield 78, 741, 0, 0), (46, .sipush 4096, 0, 4096, 0), (49, .iload_n 1, 0, 0, 0), (50, .iconst 1, 0, 1, 0), (51, .iadd, 0, 0, 0), (52, .imul, 0, 0, 0), (53, .iload_n 2, 0, 0, 0), (54, .iadd, 0, 0, 0), (55, .iaload, 53248, 0, 0), (56, .istore_n 3, 0, 0, 0), (57, .iconst 0, 0, 0, 0), (58, .istore 4, 0, 0, 0), (60, .iload 4, 0, 0, 0), (62, .bipush 12, 0, 12, 0), (64, .if_icmp .ge 70, 134, 0, 0), (67, .aload_n 0, 0, 0, 0), (68, .iload_n 1, 0, 0, 0), (69, .iconst 0, 0, 0, 0), (70, .invokevirtual 334, 0, 0, 0), (73, .ifCond .eq 61, 134, 0, 0), (76, .aload_n 0, 0, 0, 0), (77, .iload_n 1, 0, 0, 0), (78, .iload 4, 0, 0, 0), (80, .iload_n 2, 0, 0, 0), (81, .invokevirtual 337, 0, 0, 0), (84, .ifCond .eq 44, 128, 0, 0), (87, .iload_n 3, 0, 0, 0), (88, .sipush 10000, 0, 10000, 0), (91, .aload_n 0, 0, 0, 0), (92, .getfield 71, 739, 0, 0), (95, .bipush 12, 0, 12, 0), (97, .iload_n 1, 0, 0, 0), (98, .imul, 0, 0, 0), (99, .iload 4, 0, 0, 0), (101, .iadd, 0, 0, 0), (102, .iaload, 144, 0, 0), (103, .isub, 0, 0, 0), (104, .aload_n 0, 0, 0, 0), (105, .getfield 78, 741, 0, 0), (108, .sipush 4096, 0, 4096, 0), (111, .iload_n 1, 0, 0, 0), (112, .iconst 1, 0, 1, 0), (113, .iadd, 0, 0, 0), (114, .imul, 0, 0, 0), (115, .iload_n 2, 0, 0, 0), (116, .iconst 1, 0, 1, 0), (117, .iload 4, 0, 0, 0), (119, .ishl, 0, 0, 0), (120, .ior, 0, 0, 0), (121, .iadd, 0, 0, 0), (122, .iaload, 53248, 0, 0), (123, .iadd, 0, 0, 0), (124, .invokestatic 242, 0, 0, 0), (127, .istore_n 3, 0, 0, 0), (128, .iinc 4 1, 0, 1, 0), (131, .goto (-71), 60, 0, 0), (134, .aload_n 0, 0, 0, 0), (135, .getfield 78, 741, 0, 0), (138, .sipush 4096, 0, 4096, 0), (141, .iload_n 1, 0, 0, 0), (142, .imul, 0, 0, 0), (143, .iload_n 2, 0, 0, 0), (144, .iadd, 0, 0, 0), (145, .iload_n 3, 0, 0, 0), (146, .iastore, 53248, 0, 0), (147, .iinc 2 1, 0, 1, 0), (150, .goto (-115), 35, 0, 0), (153, .iinc 1 (-1), 0, (-1), 0), (156, .goto (-127), 29, 0, 0), (159, .return_, 0, 0, 0)]
set_option maxRecDepth 20000 in
theorem bk_Md_laysMost : BK m_Md_laysMost cd_Md_laysMost := ⟨pl_X12, pk_X12, fun E hE => (show ∀ E ∈ cd_Md_laysMost, decode cX12_laysMost E.1 = .ok (E.2.1, ilen E.2.1) ∧ exE pl_X12 E.1 E.2.1 E.2.2.1 E.2.2.2.1 E.2.2.2.2 = true by decide +kernel) E hE⟩
theorem nk_Md_laysMost : NK m_Md_laysMost 0 := ⟨tw1646, tw123, ⟨by decide +kernel, by decide +kernel⟩, by decide +kernel, Nat.le_of_ble_eq_true rfl⟩
def m_Md_getsBy : Mth := (yX12_getsBy, cX12_getsBy, 6, some .int, RX12)
def cd_Md_getsBy : List ME := [(0, .iconst 0, 0, 0, 0), (1, .istore_n 2, 0, 0, 0), (2, .bipush 12, 0, 12, 0), (4, .istore_n 3, 0, 0, 0), (5, .iconst 0, 0, 0, 0), (6, .istore 4, 0, 0, 0), (8, .iload 4, 0, 0, 0), (10, .iload_n 1, 0, 0, 0), (11, .if_icmp .gt 120, 131, 0, 0), (14, .aload_n 0, 0, 0, 0), (15, .iload 4, 0, 0, 0), (17, .iconst 0, 0, 0, 0), (18, .invokevirtual 334, 0, 0, 0), (21, .ifCond .ne 6, 27, 0, 0), (24, .goto 101, 125, 0, 0), (27, .aload_n 0, 0, 0, 0), (28, .getfield 78, 741, 0, 0), (31, .sipush 4096, 0, 4096, 0), (34, .iload 4, 0, 0, 0), (36, .imul, 0, 0, 0), (37, .iload_n 2, 0, 0, 0), (38, .iadd, 0, 0, 0), (39, .iaload, 53248, 0, 0), (40, .istore 5, 0, 0, 0), (42, .iconst 0, 0, 0, 0), (43, .istore_n 3, 0, 0, 0), (44, .iload_n 3, 0, 0, 0), (45, .bipush 12, 0, 12, 0), (47, .if_icmp .ge 62, 109, 0, 0), (50, .aload_n 0, 0, 0, 0), (51, .iload 4, 0, 0, 0), (53, .iload_n 3, 0, 0, 0), (54, .iload_n 2, 0, 0, 0), (55, .invokevirtual 337, 0, 0, 0), (58, .ifCond .eq 44, 102, 0, 0), (61, .sipush 10000, 0, 10000, 0), (64, .aload_n 0, 0, 0, 0), (65, .getfield 71, 739, 0, 0), (68, .bipush 12, 0, 12, 0), (70, .iload 4, 0, 0, 0), (72, .imul, 0, 0, 0), (73, .iload_n 3, 0, 0, 0), (74, .iadd, 0, 0, 0), (75, .iaload, 144, 0, 0), (76, .isub, 0, 0, 0), (77, .aload_n 0, 0, 0, 0), (78, .getfield 78, 741, 0, 0), (81, .sipush 4096, 0, 4096, 0), (84, .iload 4, 0, 0, 0), (86, .iconst 1, 0, 1, 0), (87, .iadd, 0, 0, 0), (88, .imul, 0, 0, 0), (89, .iload_n 2, 0, 0, 0), (90, .iconst 1, 0, 1, 0), (91, .iload_n 3, 0, 0, 0), (92, .ishl, 0, 0, 0), (93, .ior, 0, 0, 0), (94, .iadd, 0, 0, 0), (95, .iaload, 53248, 0, 0), (96, .iadd, 0, 0, 0), (97, .iload 5, 0, 0, 0), (99, .if_icmp .eq 10, 109, 0, 0), (102, .iload_n 3, 0, 0, 0), (103, .iconst 1, 0, 1, 0), (104, .iadd, 0, 0, 0), (105, .istore_n 3, 0, 0, 0), (106, .goto (-62), 44, 0, 0), (109, .iload_n 3, 0, 0, 0), (110, .bipush 12, 0, 12, 0), (112, .if_icmp .ne 7, 119, 0, 0), (115, .iload_n 2, 0, 0, 0), (116, .goto 8, 124, 0, 0), (119, .iload_n 2, 0, 0, 0), (120, .iconst 1, 0, 1, 0), (121, .iload_n 3, 0, 0, 0), (122, .ishl, 0, 0, 0), (123, .ior, 0, 0, 0), (124, .istore_n 2, 0, 0, 0), (125, .iinc 4 1, 0, 1, 0), (128, .goto (-120), 8, 0, 0), (131, .iload_n 3, 0, 0, 0), (132, .bipush 12, 0, 12, 0), (134, .if_icmp .ne 8, 142, 0, 0), (137, .bipush (-2), 0, (-2), 0), (139, .goto 4, 143, 0, 0), (142, .iload_n 3, 0, 0, 0), (143, .ireturn, 0, 0, 0)]
set_option maxRecDepth 20000 in
theorem bk_Md_getsBy : BK m_Md_getsBy cd_Md_getsBy := ⟨pl_X12, pk_X12, fun E hE => (show ∀ E ∈ cd_Md_getsBy, decode cX12_getsBy E.1 = .ok (E.2.1, ilen E.2.1) ∧ exE pl_X12 E.1 E.2.1 E.2.2.1 E.2.2.2.1 E.2.2.2.2 = true by decide +kernel) E hE⟩
theorem nk_Md_getsBy : NK m_Md_getsBy 1 := ⟨tw1655, tw123, ⟨by decide +kernel, by decide +kernel⟩, by decide +kernel, Nat.le_of_ble_eq_true rfl⟩
def m_Md_most : Mth := (yX12_most, cX12_most, 3, some .int, RX12)
def cd_Md_most : List ME := [(0, .iload_n 1, 0, 0, 0), (1, .bipush 20, 0, 20, 0), (3, .bipush 21, 0, 21, 0), (5, .invokestatic 111, 0, 0, 0), (8, .ifCond .ne 14, 22, 0, 0), (11, .aload_n 0, 0, 0, 0), (12, .iload_n 1, 0, 0, 0), (13, .iconst 0, 0, 0, 0), (14, .invokevirtual 334, 0, 0, 0), (17, .ifCond .ne 5, 22, 0, 0), (20, .iconst (-1), 0, (-1), 0), (21, .ireturn, 0, 0, 0), (22, .aload_n 0, 0, 0, 0), (23, .invokevirtual 330, 0, 0, 0), (26, .aload_n 0, 0, 0, 0), (27, .invokevirtual 340, 0, 0, 0), (30, .aload_n 0, 0, 0, 0), (31, .getfield 78, 741, 0, 0), (34, .iconst 0, 0, 0, 0), (35, .iaload, 53248, 0, 0), (36, .sipush 9999, 0, 9999, 0), (39, .iadd, 0, 0, 0), (40, .sipush 10000, 0, 10000, 0), (43, .idiv, 0, 0, 0), (44, .istore_n 2, 0, 0, 0), (45, .iload_n 1, 0, 0, 0), (46, .bipush 20, 0, 20, 0), (48, .if_icmp .ne 7, 55, 0, 0), (51, .iload_n 2, 0, 0, 0), (52, .goto 29, 81, 0, 0), (55, .iload_n 1, 0, 0, 0), (56, .bipush 21, 0, 21, 0), (58, .if_icmp .ne 18, 76, 0, 0), (61, .sipush 10000, 0, 10000, 0), (64, .iload_n 2, 0, 0, 0), (65, .imul, 0, 0, 0), (66, .aload_n 0, 0, 0, 0), (67, .getfield 78, 741, 0, 0), (70, .iconst 0, 0, 0, 0), (71, .iaload, 53248, 0, 0), (72, .isub, 0, 0, 0), (73, .goto 8, 81, 0, 0), (76, .aload_n 0, 0, 0, 0), (77, .iload_n 1, 0, 0, 0), (78, .invokevirtual 343, 0, 0, 0), (81, .ireturn, 0, 0, 0)]
set_option maxRecDepth 20000 in
theorem bk_Md_most : BK m_Md_most cd_Md_most := ⟨pl_X12, pk_X12, fun E hE => (show ∀ E ∈ cd_Md_most, decode cX12_most E.1 = .ok (E.2.1, ilen E.2.1) ∧ exE pl_X12 E.1 E.2.1 E.2.2.1 E.2.2.2.1 E.2.2.2.2 = true by decide +kernel) E hE⟩
theorem nk_Md_most : NK m_Md_most 1 := ⟨tw1638, tw123, ⟨by decide +kernel, by decide +kernel⟩, by decide +kernel, Nat.le_of_ble_eq_true rfl⟩
def m_Md_nextAsked : Mth := (yX12_nextAsked, cX12_nextAsked, 4, some .int, RX12)
def cd_Md_nextAsked : List ME := [(0, .iconst (-1), 0, (-1), 0), (1, .istore_n 2, 0, 0, 0), (2, .iconst 0, 0, 0, 0), (3, .istore_n 3, 0, 0, 0), (4, .iload_n 3, 0, 0, 0), (5, .bipush 12, 0, 12, 0), (7, .if_icmp .ge 96, 103, 0, 0), (10, .aload_n 0, 0, 0, 0), (11, .getfield 68, 738, 0, 0), (14, .iload_n 1, 0, 0, 0), (15, .iaload, 12, 0, 0), (16, .iload_n 3, 0, 0, 0), (17, .invokestatic 101, 0, 0, 0), (20, .ifCond .eq 77, 97, 0, 0), (23, .aload_n 0, 0, 0, 0), (24, .getfield 7, 704, 0, 0), (27, .iconst 0, 0, 0, 0), (28, .iload_n 3, 0, 0, 0), (29, .iadd, 0, 0, 0), (30, .iaload, 1936, 0, 0), (31, .iconst 1, 0, 1, 0), (32, .if_icmp .ne 65, 97, 0, 0), (35, .aload_n 0, 0, 0, 0), (36, .getfield 81, 742, 0, 0), (39, .iload_n 1, 0, 0, 0), (40, .iaload, 12, 0, 0), (41, .iload_n 3, 0, 0, 0), (42, .invokestatic 101, 0, 0, 0), (45, .ifCond .ne 52, 97, 0, 0), (48, .aload_n 0, 0, 0, 0), (49, .getfield 74, 740, 0, 0), (52, .bipush 12, 0, 12, 0), (54, .iload_n 1, 0, 0, 0), (55, .imul, 0, 0, 0), (56, .iload_n 3, 0, 0, 0), (57, .iadd, 0, 0, 0), (58, .iaload, 144, 0, 0), (59, .ifCond .ne 6, 65, 0, 0), (62, .goto 35, 97, 0, 0), (65, .iload_n 2, 0, 0, 0), (66, .iconst (-1), 0, (-1), 0), (67, .if_icmp .eq 28, 95, 0, 0), (70, .aload_n 0, 0, 0, 0), (71, .getfield 74, 740, 0, 0), (74, .bipush 12, 0, 12, 0), (76, .iload_n 1, 0, 0, 0), (77, .imul, 0, 0, 0), (78, .iload_n 3, 0, 0, 0), (79, .iadd, 0, 0, 0), (80, .iaload, 144, 0, 0), (81, .aload_n 0, 0, 0, 0), (82, .getfield 74, 740, 0, 0), (85, .bipush 12, 0, 12, 0), (87, .iload_n 1, 0, 0, 0), (88, .imul, 0, 0, 0), (89, .iload_n 2, 0, 0, 0), (90, .iadd, 0, 0, 0), (91, .iaload, 144, 0, 0), (92, .if_icmp .le 5, 97, 0, 0), (95, .iload_n 3, 0, 0, 0), (96, .istore_n 2, 0, 0, 0), (97, .iinc 3 1, 0, 1, 0), (100, .goto (-96), 4, 0, 0), (103, .iload_n 2, 0, 0, 0), (104, .ireturn, 0, 0, 0)]
set_option maxRecDepth 20000 in
theorem bk_Md_nextAsked : BK m_Md_nextAsked cd_Md_nextAsked := ⟨pl_X12, pk_X12, fun E hE => (show ∀ E ∈ cd_Md_nextAsked, decode cX12_nextAsked E.1 = .ok (E.2.1, ilen E.2.1) ∧ exE pl_X12 E.1 E.2.1 E.2.2.1 E.2.2.2.1 E.2.2.2.2 = true by decide +kernel) E hE⟩
theorem nk_Md_nextAsked : NK m_Md_nextAsked 1 := ⟨tw1667, tw123, ⟨by decide +kernel, by decide +kernel⟩, by decide +kernel, Nat.le_of_ble_eq_true rfl⟩
def m_Md_keeps : Mth := (yX12_keeps, cX12_keeps, 5, some .boolean, RX12)
def cd_Md_keeps : List ME := [(0, .aload_n 0, 0, 0, 0), (1, .getfield 74, 740, 0, 0), (4, .bipush 12, 0, 12, 0), (6, .iload_n 1, 0, 0, 0), (7, .imul, 0, 0, 0), (8, .iload_n 2, 0, 0, 0), (9, .iadd, 0, 0, 0), (10, .iaload, 144, 0, 0), (11, .istore_n 3, 0, 0, 0), (12, .iload_n 3, 0, 0, 0), (13, .ifCond .ne 5, 18, 0, 0), (16, .iconst 0, 0, 0, 0), (17, .ireturn, 0, 0, 0), (18, .aload_n 0, 0, 0, 0), (19, .getfield 84, 743, 0, 0), (22, .iload_n 1, 0, 0, 0), (23, .iaload, 12, 0, 0), (24, .istore 4, 0, 0, 0), (26, .iload 4, 0, 0, 0), (28, .bipush (-2), 0, (-2), 0), (30, .if_icmp .eq 41, 71, 0, 0), (33, .iload_n 3, 0, 0, 0), (34, .aload_n 0, 0, 0, 0), (35, .getfield 74, 740, 0, 0), (38, .bipush 12, 0, 12, 0), (40, .iload_n 1, 0, 0, 0), (41, .imul, 0, 0, 0), (42, .iload 4, 0, 0, 0), (44, .iadd, 0, 0, 0), (45, .iaload, 144, 0, 0), (46, .if_icmp .gt 25, 71, 0, 0), (49, .iload_n 3, 0, 0, 0), (50, .aload_n 0, 0, 0, 0), (51, .getfield 74, 740, 0, 0), (54, .bipush 12, 0, 12, 0), (56, .iload_n 1, 0, 0, 0), (57, .imul, 0, 0, 0), (58, .iload 4, 0, 0, 0), (60, .iadd, 0, 0, 0), (61, .iaload, 144, 0, 0), (62, .if_icmp .ne 13, 75, 0, 0), (65, .iload_n 2, 0, 0, 0), (66, .iload 4, 0, 0, 0), (68, .if_icmp .ge 7, 75, 0, 0), (71, .iconst 1, 0, 1, 0), (72, .goto 4, 76, 0, 0), (75, .iconst 0, 0, 0, 0), (76, .ireturn, 0, 0, 0)]
set_option maxRecDepth 20000 in
theorem bk_Md_keeps : BK m_Md_keeps cd_Md_keeps := ⟨pl_X12, pk_X12, fun E hE => (show ∀ E ∈ cd_Md_keeps, decode cX12_keeps E.1 = .ok (E.2.1, ilen E.2.1) ∧ exE pl_X12 E.1 E.2.1 E.2.2.1 E.2.2.2.1 E.2.2.2.2 = true by decide +kernel) E hE⟩
theorem nk_Md_keeps : NK m_Md_keeps 2 := ⟨tw1671, tw123, ⟨by decide +kernel, by decide +kernel⟩, by decide +kernel, Nat.le_of_ble_eq_true rfl⟩
def m_Md_laysStable : Mth := (yX12_laysStable, cX12_laysStable, 4, none, RX12)
def cd_Md_laysStable : List ME := [(0, .iconst 0, 0, 0, 0), (1, .istore_n 1, 0, 0, 0), (2, .iload_n 1, 0, 0, 0), (3, .bipush 12, 0, 12, 0), (5, .if_icmp .ge 24, 29, 0, 0), (8, .aload_n 0, 0, 0, 0), (9, .getfield 81, 742, 0, 0), (12, .iload_n 1, 0, 0, 0), (13, .iconst 0, 0, 0, 0), (14, .iastore, 12, 0, 0), (15, .aload_n 0, 0, 0, 0), (16, .getfield 84, 743, 0, 0), (19, .iload_n 1, 0, 0, 0), (20, .bipush (-2), 0, (-2), 0), (22, .iastore, 12, 0, 0), (23, .iinc 1 1, 0, 1, 0), (26, .goto (-24), 2, 0, 0), (29, .iconst 1, 0, 1, 0), (30, .istore_n 1, 0, 0, 0), (31, .iload_n 1, 0, 0, 0), (32, .ifCond .eq 127, 159, 0, 0), (35, .iconst 0, 0, 0, 0), (36, .istore_n 1, 0, 0, 0), (37, .iconst 0, 0, 0, 0), (38, .istore_n 2, 0, 0, 0), (39, .iload_n 2, 0, 0, 0), (40, .bipush 12, 0, 12, 0), (42, .if_icmp .ge 114, 156, 0, 0), (45, .aload_n 0, 0, 0, 0), (46, .iload_n 2, 0, 0, 0), (47, .iconst 0, 0, 0, 0), (48, .invokevirtual 334, 0, 0, 0), (51, .ifCond .eq 99, 150, 0, 0), (54, .aload_n 0, 0, 0, 0), (55, .getfield 84, 743, 0, 0), (58, .iload_n 2, 0, 0, 0), (59, .iaload, 12, 0, 0), (60, .bipush (-2), 0, (-2), 0), (62, .if_icmp .eq 6, 68, 0, 0), (65, .goto 85, 150, 0, 0), (68, .aload_n 0, 0, 0, 0), (69, .iload_n 2, 0, 0, 0), (70, .invokevirtual 346, 0, 0, 0), (73, .istore_n 3, 0, 0, 0), (74, .iload_n 3, 0, 0, 0), (75, .iconst (-1), 0, (-1), 0), (76, .if_icmp .ne 6, 82, 0, 0), (79, .goto 71, 150, 0, 0), (82, .iconst 1, 0, 1, 0), (83, .istore_n 1, 0, 0, 0), (84, .aload_n 0, 0, 0, 0), (85, .getfield 81, 742, 0, 0), (88, .iload_n 2, 0, 0, 0), (89, .aload_n 0, 0, 0, 0), (90, .getfield 81, 742, 0, 0), (93, .iload_n 2, 0, 0, 0), (94, .iaload, 12, 0, 0), (95, .iconst 1, 0, 1, 0), (96, .iload_n 3, 0, 0, 0), (97, .ishl, 0, 0, 0), (98, .ior, 0, 0, 0), (99, .iastore, 12, 0, 0), (100, .aload_n 0, 0, 0, 0), (101, .iload_n 3, 0, 0, 0), (102, .iload_n 2, 0, 0, 0), (103, .invokevirtual 349, 0, 0, 0), (106, .ifCond .ne 6, 112, 0, 0), (109, .goto 41, 150, 0, 0), (112, .aload_n 0, 0, 0, 0), (113, .getfield 84, 743, 0, 0), (116, .iload_n 3, 0, 0, 0), (117, .iaload, 12, 0, 0), (118, .bipush (-2), 0, (-2), 0), (120, .if_icmp .eq 16, 136, 0, 0), (123, .aload_n 0, 0, 0, 0), (124, .getfield 84, 743, 0, 0), (127, .aload_n 0, 0, 0, 0), (128, .getfield 84, 743, 0, 0), (131, .iload_n 3, 0, 0, 0), (132, .iaload, 12, 0, 0), (133, .bipush (-2), 0, (-2), 0), (135, .iastore, 12, 0, 0), (136, .aload_n 0, 0, 0, 0), (137, .getfield 84, 743, 0, 0), (140, .iload_n 2, 0, 0, 0), (141, .iload_n 3, 0, 0, 0), (142, .iastore, 12, 0, 0), (143, .aload_n 0, 0, 0, 0), (144, .getfield 84, 743, 0, 0), (147, .iload_n 3, 0, 0, 0), (148, .iload_n 2, 0, 0, 0), (149, .iastore, 12, 0, 0), (150, .iinc 2 1, 0, 1, 0), (153, .goto (-114), 39, 0, 0), (156, .goto (-125), 31, 0, 0), (159, .return_, 0, 0, 0)]
set_option maxRecDepth 20000 in
theorem bk_Md_laysStable : BK m_Md_laysStable cd_Md_laysStable := ⟨pl_X12, pk_X12, fun E hE => (show ∀ E ∈ cd_Md_laysStable, decode cX12_laysStable E.1 = .ok (E.2.1, ilen E.2.1) ∧ exE pl_X12 E.1 E.2.1 E.2.2.1 E.2.2.2.1 E.2.2.2.2 = true by decide +kernel) E hE⟩
theorem nk_Md_laysStable : NK m_Md_laysStable 0 := ⟨tw1663, tw123, ⟨by decide +kernel, by decide +kernel⟩, by decide +kernel, Nat.le_of_ble_eq_true rfl⟩
def m_Md_stable : Mth := (yX12_stable, cX12_stable, 4, some .int, RX12)
def cd_Md_stable : List ME := [(0, .iload_n 1, 0, 0, 0), (1, .bipush 20, 0, 20, 0), (3, .if_icmp .eq 13, 16, 0, 0), (6, .aload_n 0, 0, 0, 0), (7, .iload_n 1, 0, 0, 0), (8, .invokevirtual 108, 0, 0, 0), (11, .ifCond .ne 5, 16, 0, 0), (14, .iconst (-1), 0, (-1), 0), (15, .ireturn, 0, 0, 0), (16, .aload_n 0, 0, 0, 0), (17, .invokevirtual 330, 0, 0, 0), (20, .aload_n 0, 0, 0, 0), (21, .invokevirtual 352, 0, 0, 0), (24, .iload_n 1, 0, 0, 0), (25, .bipush 20, 0, 20, 0), (27, .if_icmp .eq 10, 37, 0, 0), (30, .aload_n 0, 0, 0, 0), (31, .getfield 84, 743, 0, 0), (34, .iload_n 1, 0, 0, 0), (35, .iaload, 12, 0, 0), (36, .ireturn, 0, 0, 0), (37, .iconst 0, 0, 0, 0), (38, .istore_n 2, 0, 0, 0), (39, .iconst 0, 0, 0, 0), (40, .istore_n 3, 0, 0, 0), (41, .iload_n 3, 0, 0, 0), (42, .bipush 12, 0, 12, 0), (44, .if_icmp .ge 27, 71, 0, 0), (47, .iload_n 2, 0, 0, 0), (48, .aload_n 0, 0, 0, 0), (49, .getfield 84, 743, 0, 0), (52, .iload_n 3, 0, 0, 0), (53, .iaload, 12, 0, 0), (54, .iload_n 3, 0, 0, 0), (55, .if_icmp .le 7, 62, 0, 0), (58, .iconst 1, 0, 1, 0), (59, .goto 4, 63, 0, 0), (62, .iconst 0, 0, 0, 0), (63, .iadd, 0, 0, 0), (64, .istore_n 2, 0, 0, 0), (65, .iinc 3 1, 0, 1, 0), (68, .goto (-27), 41, 0, 0), (71, .iload_n 2, 0, 0, 0), (72, .ireturn, 0, 0, 0)]
set_option maxRecDepth 20000 in
theorem bk_Md_stable : BK m_Md_stable cd_Md_stable := ⟨pl_X12, pk_X12, fun E hE => (show ∀ E ∈ cd_Md_stable, decode cX12_stable E.1 = .ok (E.2.1, ilen E.2.1) ∧ exE pl_X12 E.1 E.2.1 E.2.2.1 E.2.2.2.1 E.2.2.2.2 = true by decide +kernel) E hE⟩
theorem nk_Md_stable : NK m_Md_stable 1 := ⟨tw1659, tw123, ⟨by decide +kernel, by decide +kernel⟩, by decide +kernel, Nat.le_of_ble_eq_true rfl⟩
def m_Md_likesWed : Mth := (yX12_likesWed, cX12_likesWed, 2, some .int, RX12)
def cd_Md_likesWed : List ME := [(0, .aload_n 0, 0, 0, 0), (1, .getfield 7, 704, 0, 0), (4, .bipush 24, 0, 24, 0), (6, .iload_n 1, 0, 0, 0), (7, .iadd, 0, 0, 0), (8, .iaload, 1936, 0, 0), (9, .bipush (-2), 0, (-2), 0), (11, .if_icmp .ne 7, 18, 0, 0), (14, .iconst 0, 0, 0, 0), (15, .goto 17, 32, 0, 0), (18, .aload_n 0, 0, 0, 0), (19, .iload_n 1, 0, 0, 0), (20, .aload_n 0, 0, 0, 0), (21, .getfield 7, 704, 0, 0), (24, .bipush 24, 0, 24, 0), (26, .iload_n 1, 0, 0, 0), (27, .iadd, 0, 0, 0), (28, .iaload, 1936, 0, 0), (29, .invokevirtual 327, 0, 0, 0), (32, .ireturn, 0, 0, 0)]
set_option maxRecDepth 20000 in
theorem bk_Md_likesWed : BK m_Md_likesWed cd_Md_likesWed := ⟨pl_X12, pk_X12, fun E hE => (show ∀ E ∈ cd_Md_likesWed, decode cX12_likesWed E.1 = .ok (E.2.1, ilen E.2.1) ∧ exE pl_X12 E.1 E.2.1 E.2.2.1 E.2.2.2.1 E.2.2.2.2 = true by decide +kernel) E hE⟩
theorem nk_Md_likesWed : NK m_Md_likesWed 1 := ⟨tw1679, tw123, ⟨by decide +kernel, by decide +kernel⟩, by decide +kernel, Nat.le_of_ble_eq_true rfl⟩
def m_Md_unrest : Mth := (yX12_unrest, cX12_unrest, 6, some .int, RX12)
def cd_Md_unrest : List ME := [(0, .iload_n 1, 0, 0, 0), (1, .iconst 0, 0, 0, 0), (2, .iconst 2, 0, 2, 0), (3, .invokestatic 111, 0, 0, 0), (6, .ifCond .ne 5, 11, 0, 0), (9, .iconst (-1), 0, (-1), 0), (10, .ireturn, 0, 0, 0), (11, .aload_n 0, 0, 0, 0), (12, .invokevirtual 330, 0, 0, 0), (15, .iconst 0, 0, 0, 0), (16, .istore_n 2, 0, 0, 0), (17, .iconst (-1), 0, (-1), 0), (18, .istore_n 3, 0, 0, 0), (19, .iconst 0, 0, 0, 0), (20, .istore 4, 0, 0, 0), (22, .iload 4, 0, 0, 0), (24, .bipush 12, 0, 12, 0), (26, .if_icmp .ge 146, 172, 0, 0), (29, .iconst 0, 0, 0, 0), (30, .istore 5, 0, 0, 0), (32, .iload 5, 0, 0, 0), (34, .bipush 12, 0, 12, 0), (36, .if_icmp .ge 130, 166, 0, 0), (39, .aload_n 0, 0, 0, 0), (40, .iload 4, 0, 0, 0), (42, .iconst 0, 0, 0, 0), (43, .invokevirtual 334, 0, 0, 0), (46, .ifCond .eq 114, 160, 0, 0), (49, .aload_n 0, 0, 0, 0), (50, .iload 5, 0, 0, 0), (52, .iconst 1, 0, 1, 0), (53, .invokevirtual 334, 0, 0, 0), (56, .ifCond .eq 104, 160, 0, 0), (59, .aload_n 0, 0, 0, 0), (60, .getfield 68, 738, 0, 0), (63, .iload 4, 0, 0, 0), (65, .iaload, 12, 0, 0), (66, .iload 5, 0, 0, 0), (68, .invokestatic 101, 0, 0, 0), (71, .ifCond .eq 89, 160, 0, 0), (74, .aload_n 0, 0, 0, 0), (75, .getfield 7, 704, 0, 0), (78, .bipush 24, 0, 24, 0), (80, .iload 4, 0, 0, 0), (82, .iadd, 0, 0, 0), (83, .iaload, 1936, 0, 0), (84, .iload 5, 0, 0, 0), (86, .if_icmp .ne 6, 92, 0, 0), (89, .goto 71, 160, 0, 0), (92, .aload_n 0, 0, 0, 0), (93, .getfield 74, 740, 0, 0), (96, .bipush 12, 0, 12, 0), (98, .iload 4, 0, 0, 0), (100, .imul, 0, 0, 0), (101, .iload 5, 0, 0, 0), (103, .iadd, 0, 0, 0), (104, .iaload, 144, 0, 0), (105, .aload_n 0, 0, 0, 0), (106, .iload 4, 0, 0, 0), (108, .invokevirtual 355, 0, 0, 0), (111, .if_icmp .le 49, 160, 0, 0), (114, .aload_n 0, 0, 0, 0), (115, .getfield 74, 740, 0, 0), (118, .bipush 12, 0, 12, 0), (120, .iload 5, 0, 0, 0), (122, .imul, 0, 0, 0), (123, .iload 4, 0, 0, 0), (125, .iadd, 0, 0, 0), (126, .iaload, 144, 0, 0), (127, .aload_n 0, 0, 0, 0), (128, .iload 5, 0, 0, 0), (130, .invokevirtual 355, 0, 0, 0), (133, .if_icmp .gt 6, 139, 0, 0), (136, .goto 24, 160, 0, 0), (139, .iload_n 2, 0, 0, 0), (140, .ifCond .ne 14, 154, 0, 0), (143, .bipush 12, 0, 12, 0), (145, .iload 4, 0, 0, 0), (147, .imul, 0, 0, 0), (148, .iload 5, 0, 0, 0), (150, .iadd, 0, 0, 0), (151, .goto 4, 155, 0, 0), (154, .iload_n 3, 0, 0, 0), (155, .istore_n 3, 0, 0, 0), (156, .iload_n 2, 0, 0, 0), (157, .iconst 1, 0, 1, 0), (158, .iadd, 0, 0, 0), (159, .istore_n 2, 0, 0, 0), (160, .iinc 5 1, 0, 1, 0), (163, .goto (-131), 32, 0, 0), (166, .iinc 4 1, 0, 1, 0), (169, .goto (-147), 22, 0, 0), (172, .iload_n 1, 0, 0, 0), (173, .ifCond .ne 7, 180, 0, 0), (176, .iload_n 2, 0, 0, 0), (177, .goto 29, 206, 0, 0), (180, .iload_n 3, 0, 0, 0), (181, .iconst (-1), 0, (-1), 0), (182, .if_icmp .ne 8, 190, 0, 0), (185, .bipush (-2), 0, (-2), 0), (187, .goto 19, 206, 0, 0), (190, .iload_n 1, 0, 0, 0), (191, .iconst 1, 0, 1, 0), (192, .if_icmp .ne 10, 202, 0, 0), (195, .iload_n 3, 0, 0, 0), (196, .bipush 12, 0, 12, 0), (198, .idiv, 0, 0, 0), (199, .goto 7, 206, 0, 0), (202, .iload_n 3, 0, 0, 0), (203, .bipush 12, 0, 12, 0), (205, .irem, 0, 0, 0), (206, .ireturn, 0, 0, 0)]
set_option maxRecDepth 20000 in
theorem bk_Md_unrest : BK m_Md_unrest cd_Md_unrest := ⟨pl_X12, pk_X12, fun E hE => (show ∀ E ∈ cd_Md_unrest, decode cX12_unrest E.1 = .ok (E.2.1, ilen E.2.1) ∧ exE pl_X12 E.1 E.2.1 E.2.2.1 E.2.2.2.1 E.2.2.2.2 = true by decide +kernel) E hE⟩
theorem nk_Md_unrest : NK m_Md_unrest 1 := ⟨tw1675, tw123, ⟨by decide +kernel, by decide +kernel⟩, by decide +kernel, Nat.le_of_ble_eq_true rfl⟩
def m_Md_areBounds : Mth := (yX12_areBounds, cX12_areBounds, 5, some .boolean, RX12)
def cd_Md_areBounds : List ME := [(0, .iconst 0, 0, 0, 0), (1, .istore_n 2, 0, 0, 0), (2, .iconst 0, 0, 0, 0), (3, .istore_n 3, 0, 0, 0), (4, .iload_n 3, 0, 0, 0), (5, .iload_n 1, 0, 0, 0), (6, .if_icmp .ge 35, 41, 0, 0), (9, .aload_n 0, 0, 0, 0), (10, .getfield 19, 707, 0, 0), (13, .iload_n 3, 0, 0, 0), (14, .baload, 260, 0, 0), (15, .iconst 0, 0, 0, 0), (16, .bipush 99, 0, 99, 0), (18, .invokestatic 111, 0, 0, 0), (21, .ifCond .ne 5, 26, 0, 0), (24, .iconst 0, 0, 0, 0), (25, .ireturn, 0, 0, 0), (26, .iload_n 2, 0, 0, 0), (27, .aload_n 0, 0, 0, 0), (28, .getfield 19, 707, 0, 0), (31, .iload_n 3, 0, 0, 0), (32, .baload, 260, 0, 0), (33, .iadd, 0, 0, 0), (34, .istore_n 2, 0, 0, 0), (35, .iinc 3 1, 0, 1, 0), (38, .goto (-34), 4, 0, 0), (41, .iconst 0, 0, 0, 0), (42, .istore_n 3, 0, 0, 0), (43, .iload_n 3, 0, 0, 0), (44, .iload_n 1, 0, 0, 0), (45, .if_icmp .ge 54, 99, 0, 0), (48, .iconst 0, 0, 0, 0), (49, .istore 4, 0, 0, 0), (51, .iload 4, 0, 0, 0), (53, .iload_n 1, 0, 0, 0), (54, .if_icmp .ge 39, 93, 0, 0), (57, .iload_n 3, 0, 0, 0), (58, .iload 4, 0, 0, 0), (60, .if_icmp .eq 27, 87, 0, 0), (63, .aload_n 0, 0, 0, 0), (64, .getfield 19, 707, 0, 0), (67, .iload_n 1, 0, 0, 0), (68, .iload_n 1, 0, 0, 0), (69, .iload_n 3, 0, 0, 0), (70, .imul, 0, 0, 0), (71, .iadd, 0, 0, 0), (72, .iload 4, 0, 0, 0), (74, .iadd, 0, 0, 0), (75, .baload, 260, 0, 0), (76, .iconst 1, 0, 1, 0), (77, .bipush 20, 0, 20, 0), (79, .invokestatic 111, 0, 0, 0), (82, .ifCond .ne 5, 87, 0, 0), (85, .iconst 0, 0, 0, 0), (86, .ireturn, 0, 0, 0), (87, .iinc 4 1, 0, 1, 0), (90, .goto (-39), 51, 0, 0), (93, .iinc 3 1, 0, 1, 0), (96, .goto (-53), 43, 0, 0), (99, .iload_n 2, 0, 0, 0), (100, .ifCond .le 7, 107, 0, 0), (103, .iconst 1, 0, 1, 0), (104, .goto 4, 108, 0, 0), (107, .iconst 0, 0, 0, 0), (108, .ireturn, 0, 0, 0)]
set_option maxRecDepth 20000 in
theorem bk_Md_areBounds : BK m_Md_areBounds cd_Md_areBounds := ⟨pl_X12, pk_X12, fun E hE => (show ∀ E ∈ cd_Md_areBounds, decode cX12_areBounds E.1 = .ok (E.2.1, ilen E.2.1) ∧ exE pl_X12 E.1 E.2.1 E.2.2.1 E.2.2.2.1 E.2.2.2.2 = true by decide +kernel) E hE⟩
theorem nk_Md_areBounds : NK m_Md_areBounds 1 := ⟨tw1687, tw123, ⟨by decide +kernel, by decide +kernel⟩, by decide +kernel, Nat.le_of_ble_eq_true rfl⟩
def m_Md_readsRow : Mth := (yX12_readsRow, cX12_readsRow, 6, some .boolean, RX12)
def cd_Md_readsRow : List ME := [(0, .iload_n 2, 0, 0, 0), (1, .istore_n 3, 0, 0, 0), (2, .iconst 1, 0, 1, 0), (3, .istore 4, 0, 0, 0), (5, .aload_n 0, 0, 0, 0), (6, .getfield 87, 744, 0, 0), (9, .iconst 0, 0, 0, 0), (10, .iconst 0, 0, 0, 0), (11, .iastore, 6, 0, 0), (12, .iload_n 1, 0, 0, 0), (13, .iconst 1, 0, 1, 0), (14, .isub, 0, 0, 0), (15, .istore 5, 0, 0, 0), (17, .iload 5, 0, 0, 0), (19, .ifCond .le 54, 73, 0, 0), (22, .aload_n 0, 0, 0, 0), (23, .getfield 87, 744, 0, 0), (26, .iload 5, 0, 0, 0), (28, .iload_n 3, 0, 0, 0), (29, .iload_n 1, 0, 0, 0), (30, .irem, 0, 0, 0), (31, .iastore, 6, 0, 0), (32, .iload_n 3, 0, 0, 0), (33, .iload_n 1, 0, 0, 0), (34, .idiv, 0, 0, 0), (35, .istore_n 3, 0, 0, 0), (36, .iload 4, 0, 0, 0), (38, .aload_n 0, 0, 0, 0), (39, .getfield 87, 744, 0, 0), (42, .iload 5, 0, 0, 0), (44, .iaload, 6, 0, 0), (45, .invokestatic 101, 0, 0, 0), (48, .ifCond .eq 5, 53, 0, 0), (51, .iconst 0, 0, 0, 0), (52, .ireturn, 0, 0, 0), (53, .iload 4, 0, 0, 0), (55, .iconst 1, 0, 1, 0), (56, .aload_n 0, 0, 0, 0), (57, .getfield 87, 744, 0, 0), (60, .iload 5, 0, 0, 0), (62, .iaload, 6, 0, 0), (63, .ishl, 0, 0, 0), (64, .ior, 0, 0, 0), (65, .istore 4, 0, 0, 0), (67, .iinc 5 (-1), 0, (-1), 0), (70, .goto (-53), 17, 0, 0), (73, .iconst 1, 0, 1, 0), (74, .ireturn, 0, 0, 0)]
set_option maxRecDepth 20000 in
theorem bk_Md_readsRow : BK m_Md_readsRow cd_Md_readsRow := ⟨pl_X12, pk_X12, fun E hE => (show ∀ E ∈ cd_Md_readsRow, decode cX12_readsRow E.1 = .ok (E.2.1, ilen E.2.1) ∧ exE pl_X12 E.1 E.2.1 E.2.2.1 E.2.2.2.1 E.2.2.2.2 = true by decide +kernel) E hE⟩
theorem nk_Md_readsRow : NK m_Md_readsRow 2 := ⟨tw1691, tw123, ⟨by decide +kernel, by decide +kernel⟩, by decide +kernel, Nat.le_of_ble_eq_true rfl⟩
def m_Md_sumBy : Mth := (yX12_sumBy, cX12_sumBy, 5, some .int, RX12)
def cd_Md_sumBy : List ME := [(0, .iconst 0, 0, 0, 0), (1, .istore_n 2, 0, 0, 0), (2, .iconst 0, 0, 0, 0), (3, .istore_n 3, 0, 0, 0), (4, .iconst 1, 0, 1, 0), (5, .istore 4, 0, 0, 0), (7, .iload 4, 0, 0, 0), (9, .iload_n 1, 0, 0, 0), (10, .if_icmp .ge 55, 65, 0, 0), (13, .iload_n 2, 0, 0, 0), (14, .aload_n 0, 0, 0, 0), (15, .getfield 19, 707, 0, 0), (18, .iload_n 1, 0, 0, 0), (19, .iload_n 1, 0, 0, 0), (20, .aload_n 0, 0, 0, 0), (21, .getfield 87, 744, 0, 0), (24, .iload 4, 0, 0, 0), (26, .iconst 1, 0, 1, 0), (27, .isub, 0, 0, 0), (28, .iaload, 6, 0, 0), (29, .imul, 0, 0, 0), (30, .iadd, 0, 0, 0), (31, .aload_n 0, 0, 0, 0), (32, .getfield 87, 744, 0, 0), (35, .iload 4, 0, 0, 0), (37, .iaload, 6, 0, 0), (38, .iadd, 0, 0, 0), (39, .baload, 260, 0, 0), (40, .iadd, 0, 0, 0), (41, .istore_n 2, 0, 0, 0), (42, .iload_n 3, 0, 0, 0), (43, .iload_n 2, 0, 0, 0), (44, .aload_n 0, 0, 0, 0), (45, .getfield 19, 707, 0, 0), (48, .aload_n 0, 0, 0, 0), (49, .getfield 87, 744, 0, 0), (52, .iload 4, 0, 0, 0), (54, .iaload, 6, 0, 0), (55, .baload, 260, 0, 0), (56, .imul, 0, 0, 0), (57, .iadd, 0, 0, 0), (58, .istore_n 3, 0, 0, 0), (59, .iinc 4 1, 0, 1, 0), (62, .goto (-55), 7, 0, 0), (65, .iload_n 3, 0, 0, 0), (66, .ireturn, 0, 0, 0)]
set_option maxRecDepth 20000 in
theorem bk_Md_sumBy : BK m_Md_sumBy cd_Md_sumBy := ⟨pl_X12, pk_X12, fun E hE => (show ∀ E ∈ cd_Md_sumBy, decode cX12_sumBy E.1 = .ok (E.2.1, ilen E.2.1) ∧ exE pl_X12 E.1 E.2.1 E.2.2.1 E.2.2.2.1 E.2.2.2.2 = true by decide +kernel) E hE⟩
theorem nk_Md_sumBy : NK m_Md_sumBy 1 := ⟨tw1695, tw123, ⟨by decide +kernel, by decide +kernel⟩, by decide +kernel, Nat.le_of_ble_eq_true rfl⟩
def m_Md_gcd : Mth := (yX12_gcd, cX12_gcd, 5, some .int, RX12)
def cd_Md_gcd : List ME := [(0, .iload_n 0, 0, 0, 0), (1, .istore_n 2, 0, 0, 0), (2, .iload_n 1, 0, 0, 0), (3, .istore_n 3, 0, 0, 0), (4, .iload_n 3, 0, 0, 0), (5, .ifCond .eq 16, 21, 0, 0), (8, .iload_n 2, 0, 0, 0), (9, .iload_n 3, 0, 0, 0), (10, .irem, 0, 0, 0), (11, .istore 4, 0, 0, 0), (13, .iload_n 3, 0, 0, 0), (14, .istore_n 2, 0, 0, 0), (15, .iload 4, 0, 0, 0), (17, .istore_n 3, 0, 0, 0), (18, .goto (-14), 4, 0, 0), (21, .iload_n 2, 0, 0, 0), (22, .ireturn, 0, 0, 0)]
set_option maxRecDepth 20000 in
theorem bk_Md_gcd : BK m_Md_gcd cd_Md_gcd := ⟨pl_X12, pk_X12, fun E hE => (show ∀ E ∈ cd_Md_gcd, decode cX12_gcd E.1 = .ok (E.2.1, ilen E.2.1) ∧ exE pl_X12 E.1 E.2.1 E.2.2.1 E.2.2.2.1 E.2.2.2.2 = true by decide +kernel) E hE⟩
theorem nk_Md_gcd : NK m_Md_gcd 2 := ⟨tw1698, tw123, ⟨by decide +kernel, by decide +kernel⟩, by decide +kernel, Nat.le_of_ble_eq_true rfl⟩
def m_Md_search : Mth := (yX12_search, cX12_search, 8, some .int, RX12)
def cd_Md_search : List ME := [(0, .iload_n 1, 0, 0, 0), (1, .iconst 2, 0, 2, 0), (2, .bipush 6, 0, 6, 0), (4, .invokestatic 111, 0, 0, 0), (7, .ifCond .eq 15, 22, 0, 0), (10, .iload_n 1, 0, 0, 0), (11, .iload_n 1, 0, 0, 0), (12, .iload_n 1, 0, 0, 0), (13, .imul, 0, 0, 0), (14, .iadd, 0, 0, 0), (15, .aload_n 0, 0, 0, 0), (16, .getfield 126, 708, 0, 0), (19, .if_icmp .le 5, 24, 0, 0), (22, .iconst (-1), 0, (-1), 0), (23, .ireturn, 0, 0, 0), (24, .aload_n 0, 0, 0, 0), (25, .iconst 0, 0, 0, 0), (26, .putfield 126, 708, 0, 0), (29, .aload_n 0, 0, 0, 0), (30, .iload_n 1, 0, 0, 0), (31, .invokevirtual 358, 0, 0, 0), (34, .ifCond .ne 6, 40, 0, 0), (37, .bipush (-2), 0, (-2), 0), (39, .ireturn, 0, 0, 0), (40, .iload_n 2, 0, 0, 0), (41, .bipush 20, 0, 20, 0), (43, .bipush 21, 0, 21, 0), (45, .invokestatic 111, 0, 0, 0), (48, .ifCond .ne 17, 65, 0, 0), (51, .iload_n 2, 0, 0, 0), (52, .iconst 0, 0, 0, 0), (53, .iload_n 1, 0, 0, 0), (54, .iconst 1, 0, 1, 0), (55, .isub, 0, 0, 0), (56, .invokestatic 111, 0, 0, 0), (59, .ifCond .ne 6, 65, 0, 0), (62, .bipush (-3), 0, (-3), 0), (64, .ireturn, 0, 0, 0), (65, .iconst 1, 0, 1, 0), (66, .istore_n 3, 0, 0, 0), (67, .iconst 1, 0, 1, 0), (68, .istore 4, 0, 0, 0), (70, .iload 4, 0, 0, 0), (72, .iload_n 1, 0, 0, 0), (73, .if_icmp .ge 13, 86, 0, 0), (76, .iload_n 3, 0, 0, 0), (77, .iload_n 1, 0, 0, 0), (78, .imul, 0, 0, 0), (79, .istore_n 3, 0, 0, 0), (80, .iinc 4 1, 0, 1, 0), (83, .goto (-13), 70, 0, 0), (86, .iconst (-1), 0, (-1), 0), (87, .istore 4, 0, 0, 0), (89, .ldc 245, 0, 1000000000, 0), (91, .istore 5, 0, 0, 0), (93, .iconst 0, 0, 0, 0), (94, .istore 6, 0, 0, 0), (96, .iload 6, 0, 0, 0), (98, .iload_n 3, 0, 0, 0), (99, .if_icmp .ge 43, 142, 0, 0), (102, .aload_n 0, 0, 0, 0), (103, .iload_n 1, 0, 0, 0), (104, .iload 6, 0, 0, 0), (106, .invokevirtual 361, 0, 0, 0), (109, .ifCond .eq 27, 136, 0, 0), (112, .aload_n 0, 0, 0, 0), (113, .iload_n 1, 0, 0, 0), (114, .invokevirtual 364, 0, 0, 0), (117, .iload 5, 0, 0, 0), (119, .if_icmp .lt 6, 125, 0, 0), (122, .goto 14, 136, 0, 0), (125, .aload_n 0, 0, 0, 0), (126, .iload_n 1, 0, 0, 0), (127, .invokevirtual 364, 0, 0, 0), (130, .istore 5, 0, 0, 0), (132, .iload 6, 0, 0, 0), (134, .istore 4, 0, 0, 0), (136, .iinc 6 1, 0, 1, 0), (139, .goto (-43), 96, 0, 0), (142, .aload_n 0, 0, 0, 0), (143, .iload_n 1, 0, 0, 0), (144, .iload 4, 0, 0, 0), (146, .invokevirtual 361, 0, 0, 0), (149, .pop, 0, 0, 0), (150, .iload_n 2, 0, 0, 0), (151, .bipush 20, 0, 20, 0), (153, .if_icmp .ge 10, 163, 0, 0), (156, .aload_n 0, 0, 0, 0), (157, .getfield 87, 744, 0, 0), (160, .iload_n 2, 0, 0, 0), (161, .iaload, 6, 0, 0), (162, .ireturn, 0, 0, 0), (163, .iconst 0, 0, 0, 0), (164, .istore 6, 0, 0, 0), (166, .iconst 0, 0, 0, 0), (167, .istore 7, 0, 0, 0), (169, .iload 7, 0, 0, 0), (171, .iload_n 1, 0, 0, 0), (172, .if_icmp .ge 21, 193, 0, 0), (175, .iload 6, 0, 0, 0), (177, .aload_n 0, 0, 0, 0), (178, .getfield 19, 707, 0, 0), (181, .iload 7, 0, 0, 0), (183, .baload, 260, 0, 0), (184, .iadd, 0, 0, 0), (185, .istore 6, 0, 0, 0), (187, .iinc 7 1, 0, 1, 0), (190, .goto (-21), 169, 0, 0), (193, .iload 5, 0, 0, 0), (195, .iload 6, 0, 0, 0), (197, .invokestatic 367, 0, 0, 0), (200, .istore 7, 0, 0, 0), (202, .iload_n 2, 0, 0, 0), (203, .bipush 20, 0, 20, 0), (205, .if_icmp .ne 11, 216, 0, 0), (208, .iload 5, 0, 0, 0), (210, .iload 7, 0, 0, 0), (212, .idiv, 0, 0, 0), (213, .goto 8, 221, 0, 0), (216, .iload 6, 0, 0, 0), (218, .iload 7, 0, 0, 0), (220, .idiv, 0, 0, 0), (221, .ireturn, 0, 0, 0)]
set_option maxRecDepth 20000 in
theorem bk_Md_search : BK m_Md_search cd_Md_search := ⟨pl_X12, pk_X12, fun E hE => (show ∀ E ∈ cd_Md_search, decode cX12_search E.1 = .ok (E.2.1, ilen E.2.1) ∧ exE pl_X12 E.1 E.2.1 E.2.2.1 E.2.2.2.1 E.2.2.2.2 = true by decide +kernel) E hE⟩
theorem nk_Md_search : NK m_Md_search 2 := ⟨tw1683, tw123, ⟨by decide +kernel, by decide +kernel⟩, by decide +kernel, Nat.le_of_ble_eq_true rfl⟩
def m_Md_workAt : Mth := (yX12_workAt, cX12_workAt, 4, some .int, RX12)
def cd_Md_workAt : List ME := [(0, .aload_n 0, 0, 0, 0), (1, .getfield 91, 745, 0, 0), (4, .sipush 3721, 0, 3721, 0), (7, .iload_n 1, 0, 0, 0), (8, .imul, 0, 0, 0), (9, .bipush 61, 0, 61, 0), (11, .iload_n 2, 0, 0, 0), (12, .imul, 0, 0, 0), (13, .iadd, 0, 0, 0), (14, .iload_n 3, 0, 0, 0), (15, .iadd, 0, 0, 0), (16, .iaload, 33489, 0, 0), (17, .ireturn, 0, 0, 0)]
set_option maxRecDepth 20000 in
theorem bk_Md_workAt : BK m_Md_workAt cd_Md_workAt := ⟨pl_X12, pk_X12, fun E hE => (show ∀ E ∈ cd_Md_workAt, decode cX12_workAt E.1 = .ok (E.2.1, ilen E.2.1) ∧ exE pl_X12 E.1 E.2.1 E.2.2.1 E.2.2.2.1 E.2.2.2.2 = true by decide +kernel) E hE⟩
theorem nk_Md_workAt : NK m_Md_workAt 3 := ⟨tw1714, tw123, ⟨by decide +kernel, by decide +kernel⟩, by decide +kernel, Nat.le_of_ble_eq_true rfl⟩
def m_Md_workBy : Mth := (yX12_workBy, cX12_workBy, 8, some .int, RX12)
def cd_Md_workBy : List ME := [(0, .iload_n 3, 0, 0, 0), (1, .iload_n 2, 0, 0, 0), (2, .aload_n 0, 0, 0, 0), (3, .aload_n 0, 0, 0, 0), (4, .getfield 370, 748, 0, 0), (7, .bipush 7, 0, 7, 0), (9, .iload_n 1, 0, 0, 0), (10, .isub, 0, 0, 0), (11, .invokevirtual 236, 0, 0, 0), (14, .iadd, 0, 0, 0), (15, .invokestatic 239, 0, 0, 0), (18, .isub, 0, 0, 0), (19, .istore 5, 0, 0, 0), (21, .aload_n 0, 0, 0, 0), (22, .getfield 373, 749, 0, 0), (25, .iconst (-1), 0, (-1), 0), (26, .if_icmp .ne 8, 34, 0, 0), (29, .iload 4, 0, 0, 0), (31, .goto 23, 54, 0, 0), (34, .iload 4, 0, 0, 0), (36, .iload_n 2, 0, 0, 0), (37, .aload_n 0, 0, 0, 0), (38, .aload_n 0, 0, 0, 0), (39, .getfield 373, 749, 0, 0), (42, .bipush 7, 0, 7, 0), (44, .iload_n 1, 0, 0, 0), (45, .isub, 0, 0, 0), (46, .invokevirtual 236, 0, 0, 0), (49, .iadd, 0, 0, 0), (50, .invokestatic 239, 0, 0, 0), (53, .isub, 0, 0, 0), (54, .istore 6, 0, 0, 0), (56, .iload 5, 0, 0, 0), (58, .ifCond .lt 8, 66, 0, 0), (61, .iload 6, 0, 0, 0), (63, .ifCond .ge 6, 69, 0, 0), (66, .ldc 245, 0, 1000000000, 0), (68, .ireturn, 0, 0, 0), (69, .aload_n 0, 0, 0, 0), (70, .iload_n 1, 0, 0, 0), (71, .iconst 1, 0, 1, 0), (72, .iadd, 0, 0, 0), (73, .iload 5, 0, 0, 0), (75, .iload 6, 0, 0, 0), (77, .invokevirtual 376, 0, 0, 0), (80, .istore 7, 0, 0, 0), (82, .iload 7, 0, 0, 0), (84, .ldc 245, 0, 1000000000, 0), (86, .if_icmp .ne 8, 94, 0, 0), (89, .ldc 245, 0, 1000000000, 0), (91, .goto 20, 111, 0, 0), (94, .iload 7, 0, 0, 0), (96, .iload_n 2, 0, 0, 0), (97, .aload_n 0, 0, 0, 0), (98, .aload_n 0, 0, 0, 0), (99, .getfield 379, 747, 0, 0), (102, .iload_n 1, 0, 0, 0), (103, .invokevirtual 236, 0, 0, 0), (106, .isub, 0, 0, 0), (107, .invokestatic 239, 0, 0, 0), (110, .iadd, 0, 0, 0), (111, .ireturn, 0, 0, 0)]
set_option maxRecDepth 20000 in
theorem bk_Md_workBy : BK m_Md_workBy cd_Md_workBy := ⟨pl_X12, pk_X12, fun E hE => (show ∀ E ∈ cd_Md_workBy, decode cX12_workBy E.1 = .ok (E.2.1, ilen E.2.1) ∧ exE pl_X12 E.1 E.2.1 E.2.2.1 E.2.2.2.1 E.2.2.2.2 = true by decide +kernel) E hE⟩
theorem nk_Md_workBy : NK m_Md_workBy 4 := ⟨tw1710, tw123, ⟨by decide +kernel, by decide +kernel⟩, by decide +kernel, Nat.le_of_ble_eq_true rfl⟩
def m_Md_laysWork : Mth := (yX12_laysWork, cX12_laysWork, 7, none, RX12)
def cd_Md_laysWork : List ME := [(0, .iconst 0, 0, 0, 0), (1, .istore_n 2, 0, 0, 0), (2, .iload_n 2, 0, 0, 0), (3, .bipush 60, 0, 60, 0), (5, .if_icmp .gt 38, 43, 0, 0), (8, .iconst 0, 0, 0, 0), (9, .istore_n 3, 0, 0, 0), (10, .iload_n 3, 0, 0, 0), (11, .iload_n 1, 0, 0, 0), (12, .if_icmp .gt 25, 37, 0, 0), (15, .aload_n 0, 0, 0, 0), (16, .getfield 91, 745, 0, 0), (19, .sipush 29768, 0, 29768, 0), (22, .bipush 61, 0, 61, 0), (24, .iload_n 2, 0, 0, 0), (25, .imul, 0, 0, 0), (26, .iadd, 0, 0, 0), (27, .iload_n 3, 0, 0, 0), (28, .iadd, 0, 0, 0), (29, .iconst 0, 0, 0, 0), (30, .iastore, 33489, 0, 0), (31, .iinc 3 1, 0, 1, 0), (34, .goto (-24), 10, 0, 0), (37, .iinc 2 1, 0, 1, 0), (40, .goto (-38), 2, 0, 0), (43, .bipush 7, 0, 7, 0), (45, .istore_n 2, 0, 0, 0), (46, .iload_n 2, 0, 0, 0), (47, .ifCond .lt 96, 143, 0, 0), (50, .iconst 0, 0, 0, 0), (51, .istore_n 3, 0, 0, 0), (52, .iload_n 3, 0, 0, 0), (53, .bipush 60, 0, 60, 0), (55, .if_icmp .gt 82, 137, 0, 0), (58, .iconst 0, 0, 0, 0), (59, .istore 4, 0, 0, 0), (61, .iload 4, 0, 0, 0), (63, .iload_n 1, 0, 0, 0), (64, .if_icmp .gt 67, 131, 0, 0), (67, .ldc 245, 0, 1000000000, 0), (69, .istore 5, 0, 0, 0), (71, .bipush (-9), 0, (-9), 0), (73, .istore 6, 0, 0, 0), (75, .iload 6, 0, 0, 0), (77, .bipush 9, 0, 9, 0), (79, .if_icmp .gt 26, 105, 0, 0), (82, .iload 5, 0, 0, 0), (84, .aload_n 0, 0, 0, 0), (85, .iload_n 2, 0, 0, 0), (86, .iload 6, 0, 0, 0), (88, .iload_n 3, 0, 0, 0), (89, .iload 4, 0, 0, 0), (91, .invokevirtual 382, 0, 0, 0), (94, .invokestatic 249, 0, 0, 0), (97, .istore 5, 0, 0, 0), (99, .iinc 6 1, 0, 1, 0), (102, .goto (-27), 75, 0, 0), (105, .aload_n 0, 0, 0, 0), (106, .getfield 91, 745, 0, 0), (109, .sipush 3721, 0, 3721, 0), (112, .iload_n 2, 0, 0, 0), (113, .imul, 0, 0, 0), (114, .bipush 61, 0, 61, 0), (116, .iload_n 3, 0, 0, 0), (117, .imul, 0, 0, 0), (118, .iadd, 0, 0, 0), (119, .iload 4, 0, 0, 0), (121, .iadd, 0, 0, 0), (122, .iload 5, 0, 0, 0), (124, .iastore, 33489, 0, 0), (125, .iinc 4 1, 0, 1, 0), (128, .goto (-67), 61, 0, 0), (131, .iinc 3 1, 0, 1, 0), (134, .goto (-82), 52, 0, 0), (137, .iinc 2 (-1), 0, (-1), 0), (140, .goto (-94), 46, 0, 0), (143, .return_, 0, 0, 0)]
set_option maxRecDepth 20000 in
theorem bk_Md_laysWork : BK m_Md_laysWork cd_Md_laysWork := ⟨pl_X12, pk_X12, fun E hE => (show ∀ E ∈ cd_Md_laysWork, decode cX12_laysWork E.1 = .ok (E.2.1, ilen E.2.1) ∧ exE pl_X12 E.1 E.2.1 E.2.2.1 E.2.2.2.1 E.2.2.2.2 = true by decide +kernel) E hE⟩
theorem nk_Md_laysWork : NK m_Md_laysWork 1 := ⟨tw1706, tw123, ⟨by decide +kernel, by decide +kernel⟩, by decide +kernel, Nat.le_of_ble_eq_true rfl⟩
def m_Md_laysSanded : Mth := (yX12_laysSanded, cX12_laysSanded, 7, none, RX12)
def cd_Md_laysSanded : List ME := [(0, .iload_n 1, 0, 0, 0), (1, .istore_n 3, 0, 0, 0), (2, .iload_n 2, 0, 0, 0), (3, .istore 4, 0, 0, 0), (5, .iconst 0, 0, 0, 0), (6, .istore 5, 0, 0, 0), (8, .iload 5, 0, 0, 0), (10, .bipush 8, 0, 8, 0), (12, .if_icmp .ge 113, 125, 0, 0), (15, .bipush (-9), 0, (-9), 0), (17, .istore 6, 0, 0, 0), (19, .aload_n 0, 0, 0, 0), (20, .iload 5, 0, 0, 0), (22, .iload 6, 0, 0, 0), (24, .iload_n 3, 0, 0, 0), (25, .iload 4, 0, 0, 0), (27, .invokevirtual 382, 0, 0, 0), (30, .aload_n 0, 0, 0, 0), (31, .iload 5, 0, 0, 0), (33, .iload_n 3, 0, 0, 0), (34, .iload 4, 0, 0, 0), (36, .invokevirtual 376, 0, 0, 0), (39, .if_icmp .eq 12, 51, 0, 0), (42, .iload 6, 0, 0, 0), (44, .iconst 1, 0, 1, 0), (45, .iadd, 0, 0, 0), (46, .istore 6, 0, 0, 0), (48, .goto (-29), 19, 0, 0), (51, .aload_n 0, 0, 0, 0), (52, .getfield 94, 746, 0, 0), (55, .iload 5, 0, 0, 0), (57, .iload 6, 0, 0, 0), (59, .iastore, 8, 0, 0), (60, .iload_n 3, 0, 0, 0), (61, .iload 6, 0, 0, 0), (63, .aload_n 0, 0, 0, 0), (64, .aload_n 0, 0, 0, 0), (65, .getfield 370, 748, 0, 0), (68, .bipush 7, 0, 7, 0), (70, .iload 5, 0, 0, 0), (72, .isub, 0, 0, 0), (73, .invokevirtual 236, 0, 0, 0), (76, .iadd, 0, 0, 0), (77, .invokestatic 239, 0, 0, 0), (80, .isub, 0, 0, 0), (81, .istore_n 3, 0, 0, 0), (82, .aload_n 0, 0, 0, 0), (83, .getfield 373, 749, 0, 0), (86, .iconst (-1), 0, (-1), 0), (87, .if_icmp .ne 8, 95, 0, 0), (90, .iload 4, 0, 0, 0), (92, .goto 25, 117, 0, 0), (95, .iload 4, 0, 0, 0), (97, .iload 6, 0, 0, 0), (99, .aload_n 0, 0, 0, 0), (100, .aload_n 0, 0, 0, 0), (101, .getfield 373, 749, 0, 0), (104, .bipush 7, 0, 7, 0), (106, .iload 5, 0, 0, 0), (108, .isub, 0, 0, 0), (109, .invokevirtual 236, 0, 0, 0), (112, .iadd, 0, 0, 0), (113, .invokestatic 239, 0, 0, 0), (116, .isub, 0, 0, 0), (117, .istore 4, 0, 0, 0), (119, .iinc 5 1, 0, 1, 0), (122, .goto (-114), 8, 0, 0), (125, .return_, 0, 0, 0)]
set_option maxRecDepth 20000 in
theorem bk_Md_laysSanded : BK m_Md_laysSanded cd_Md_laysSanded := ⟨pl_X12, pk_X12, fun E hE => (show ∀ E ∈ cd_Md_laysSanded, decode cX12_laysSanded E.1 = .ok (E.2.1, ilen E.2.1) ∧ exE pl_X12 E.1 E.2.1 E.2.2.1 E.2.2.2.1 E.2.2.2.2 = true by decide +kernel) E hE⟩
theorem nk_Md_laysSanded : NK m_Md_laysSanded 2 := ⟨tw1718, tw123, ⟨by decide +kernel, by decide +kernel⟩, by decide +kernel, Nat.le_of_ble_eq_true rfl⟩
def m_Md_slackOfSanded : Mth := (yX12_slackOfSanded, cX12_slackOfSanded, 4, some .int, RX12)
def cd_Md_slackOfSanded : List ME := [(0, .iconst 0, 0, 0, 0), (1, .istore_n 2, 0, 0, 0), (2, .iconst 0, 0, 0, 0), (3, .istore_n 3, 0, 0, 0), (4, .iload_n 3, 0, 0, 0), (5, .bipush 8, 0, 8, 0), (7, .if_icmp .ge 31, 38, 0, 0), (10, .iload_n 2, 0, 0, 0), (11, .aload_n 0, 0, 0, 0), (12, .getfield 94, 746, 0, 0), (15, .iload_n 3, 0, 0, 0), (16, .iaload, 8, 0, 0), (17, .aload_n 0, 0, 0, 0), (18, .iload_n 1, 0, 0, 0), (19, .bipush 7, 0, 7, 0), (21, .iload_n 3, 0, 0, 0), (22, .isub, 0, 0, 0), (23, .invokevirtual 236, 0, 0, 0), (26, .iadd, 0, 0, 0), (27, .invokestatic 239, 0, 0, 0), (30, .iadd, 0, 0, 0), (31, .istore_n 2, 0, 0, 0), (32, .iinc 3 1, 0, 1, 0), (35, .goto (-31), 4, 0, 0), (38, .iconst 0, 0, 0, 0), (39, .iload_n 2, 0, 0, 0), (40, .aload_n 0, 0, 0, 0), (41, .getfield 7, 704, 0, 0), (44, .bipush 72, 0, 72, 0), (46, .iload_n 1, 0, 0, 0), (47, .iadd, 0, 0, 0), (48, .iaload, 1936, 0, 0), (49, .isub, 0, 0, 0), (50, .aload_n 0, 0, 0, 0), (51, .getfield 7, 704, 0, 0), (54, .bipush 72, 0, 72, 0), (56, .aload_n 0, 0, 0, 0), (57, .getfield 379, 747, 0, 0), (60, .iadd, 0, 0, 0), (61, .iaload, 1936, 0, 0), (62, .isub, 0, 0, 0), (63, .invokestatic 242, 0, 0, 0), (66, .ireturn, 0, 0, 0)]
set_option maxRecDepth 20000 in
theorem bk_Md_slackOfSanded : BK m_Md_slackOfSanded cd_Md_slackOfSanded := ⟨pl_X12, pk_X12, fun E hE => (show ∀ E ∈ cd_Md_slackOfSanded, decode cX12_slackOfSanded E.1 = .ok (E.2.1, ilen E.2.1) ∧ exE pl_X12 E.1 E.2.1 E.2.2.1 E.2.2.2.1 E.2.2.2.2 = true by decide +kernel) E hE⟩
theorem nk_Md_slackOfSanded : NK m_Md_slackOfSanded 1 := ⟨tw1722, tw123, ⟨by decide +kernel, by decide +kernel⟩, by decide +kernel, Nat.le_of_ble_eq_true rfl⟩
def m_Md_sanding : Mth := (yX12_sanding, cX12_sanding, 13, some .int, RX12)
def cd_Md_sanding : List ME := [(0, .iload_n 1, 0, 0, 0), (1, .invokestatic 97, 0, 0, 0), (4, .ifCond .eq 50, 54, 0, 0), (7, .iload_n 2, 0, 0, 0), (8, .invokestatic 97, 0, 0, 0), (11, .ifCond .eq 43, 54, 0, 0), (14, .iload_n 1, 0, 0, 0), (15, .iload_n 2, 0, 0, 0), (16, .if_icmp .eq 38, 54, 0, 0), (19, .iload_n 3, 0, 0, 0), (20, .ifCond .lt 34, 54, 0, 0), (23, .iload 4, 0, 0, 0), (25, .iconst (-1), 0, (-1), 0), (26, .if_icmp .eq 30, 56, 0, 0), (29, .iload 4, 0, 0, 0), (31, .invokestatic 97, 0, 0, 0), (34, .ifCond .eq 20, 54, 0, 0), (37, .iload 4, 0, 0, 0), (39, .iload_n 2, 0, 0, 0), (40, .if_icmp .eq 14, 54, 0, 0), (43, .iload 4, 0, 0, 0), (45, .iload_n 1, 0, 0, 0), (46, .if_icmp .eq 8, 54, 0, 0), (49, .iload 5, 0, 0, 0), (51, .ifCond .ge 5, 56, 0, 0), (54, .iconst (-1), 0, (-1), 0), (55, .ireturn, 0, 0, 0), (56, .iload 6, 0, 0, 0), (58, .iconst 0, 0, 0, 0), (59, .bipush 7, 0, 7, 0), (61, .invokestatic 111, 0, 0, 0), (64, .ifCond .ne 15, 79, 0, 0), (67, .iload 6, 0, 0, 0), (69, .bipush 10, 0, 10, 0), (71, .bipush 11, 0, 11, 0), (73, .invokestatic 111, 0, 0, 0), (76, .ifCond .eq 14, 90, 0, 0), (79, .iload 7, 0, 0, 0), (81, .iconst 0, 0, 0, 0), (82, .bipush 99, 0, 99, 0), (84, .invokestatic 111, 0, 0, 0), (87, .ifCond .ne 5, 92, 0, 0), (90, .iconst (-1), 0, (-1), 0), (91, .ireturn, 0, 0, 0), (92, .iload_n 3, 0, 0, 0), (93, .bipush 60, 0, 60, 0), (95, .if_icmp .gt 70, 165, 0, 0), (98, .iload_n 3, 0, 0, 0), (99, .aload_n 0, 0, 0, 0), (100, .getfield 7, 704, 0, 0), (103, .bipush 72, 0, 72, 0), (105, .iload_n 1, 0, 0, 0), (106, .iadd, 0, 0, 0), (107, .iaload, 1936, 0, 0), (108, .iadd, 0, 0, 0), (109, .aload_n 0, 0, 0, 0), (110, .getfield 7, 704, 0, 0), (113, .bipush 72, 0, 72, 0), (115, .iload_n 2, 0, 0, 0), (116, .iadd, 0, 0, 0), (117, .iaload, 1936, 0, 0), (118, .iadd, 0, 0, 0), (119, .bipush 60, 0, 60, 0), (121, .if_icmp .gt 44, 165, 0, 0), (124, .iload 4, 0, 0, 0), (126, .iconst (-1), 0, (-1), 0), (127, .if_icmp .eq 40, 167, 0, 0), (130, .iload 5, 0, 0, 0), (132, .bipush 60, 0, 60, 0), (134, .if_icmp .gt 31, 165, 0, 0), (137, .iload 5, 0, 0, 0), (139, .aload_n 0, 0, 0, 0), (140, .getfield 7, 704, 0, 0), (143, .bipush 72, 0, 72, 0), (145, .iload_n 1, 0, 0, 0), (146, .iadd, 0, 0, 0), (147, .iaload, 1936, 0, 0), (148, .iadd, 0, 0, 0), (149, .aload_n 0, 0, 0, 0), (150, .getfield 7, 704, 0, 0), (153, .bipush 72, 0, 72, 0), (155, .iload 4, 0, 0, 0), (157, .iadd, 0, 0, 0), (158, .iaload, 1936, 0, 0), (159, .iadd, 0, 0, 0), (160, .bipush 60, 0, 60, 0), (162, .if_icmp .le 5, 167, 0, 0), (165, .iconst (-1), 0, (-1), 0), (166, .ireturn, 0, 0, 0), (167, .aload_n 0, 0, 0, 0), (168, .iload_n 1, 0, 0, 0), (169, .putfield 379, 747, 0, 0), (172, .aload_n 0, 0, 0, 0), (173, .iload_n 2, 0, 0, 0), (174, .putfield 370, 748, 0, 0), (177, .aload_n 0, 0, 0, 0), (178, .iload 4, 0, 0, 0), (180, .putfield 373, 749, 0, 0), (183, .iload_n 3, 0, 0, 0), (184, .aload_n 0, 0, 0, 0), (185, .getfield 7, 704, 0, 0), (188, .bipush 72, 0, 72, 0), (190, .iload_n 1, 0, 0, 0), (191, .iadd, 0, 0, 0), (192, .iaload, 1936, 0, 0), (193, .iadd, 0, 0, 0), (194, .aload_n 0, 0, 0, 0), (195, .getfield 7, 704, 0, 0), (198, .bipush 72, 0, 72, 0), (200, .iload_n 2, 0, 0, 0), (201, .iadd, 0, 0, 0), (202, .iaload, 1936, 0, 0), (203, .iadd, 0, 0, 0), (204, .istore 8, 0, 0, 0), (206, .iload 4, 0, 0, 0), (208, .iconst (-1), 0, (-1), 0), (209, .if_icmp .ne 7, 216, 0, 0), (212, .iconst 0, 0, 0, 0), (213, .goto 26, 239, 0, 0), (216, .iload 5, 0, 0, 0), (218, .aload_n 0, 0, 0, 0), (219, .getfield 7, 704, 0, 0), (222, .bipush 72, 0, 72, 0), (224, .iload_n 1, 0, 0, 0), (225, .iadd, 0, 0, 0), (226, .iaload, 1936, 0, 0), (227, .iadd, 0, 0, 0), (228, .aload_n 0, 0, 0, 0), (229, .getfield 7, 704, 0, 0), (232, .bipush 72, 0, 72, 0), (234, .iload 4, 0, 0, 0), (236, .iadd, 0, 0, 0), (237, .iaload, 1936, 0, 0), (238, .iadd, 0, 0, 0), (239, .istore 9, 0, 0, 0), (241, .aload_n 0, 0, 0, 0), (242, .iload 4, 0, 0, 0), (244, .iconst (-1), 0, (-1), 0), (245, .if_icmp .ne 7, 252, 0, 0), (248, .iconst 0, 0, 0, 0), (249, .goto 5, 254, 0, 0), (252, .bipush 60, 0, 60, 0), (254, .invokevirtual 386, 0, 0, 0), (257, .aload_n 0, 0, 0, 0), (258, .iconst 0, 0, 0, 0), (259, .iload 8, 0, 0, 0), (261, .iload 9, 0, 0, 0), (263, .invokevirtual 376, 0, 0, 0), (266, .istore 10, 0, 0, 0), (268, .iload 10, 0, 0, 0), (270, .ldc 245, 0, 1000000000, 0), (272, .if_icmp .ne 6, 278, 0, 0), (275, .bipush (-2), 0, (-2), 0), (277, .ireturn, 0, 0, 0), (278, .iload 6, 0, 0, 0), (280, .bipush 10, 0, 10, 0), (282, .if_icmp .ne 6, 288, 0, 0), (285, .iload 10, 0, 0, 0), (287, .ireturn, 0, 0, 0), (288, .aload_n 0, 0, 0, 0), (289, .iload 8, 0, 0, 0), (291, .iload 9, 0, 0, 0), (293, .invokevirtual 389, 0, 0, 0), (296, .iload 6, 0, 0, 0), (298, .bipush 8, 0, 8, 0), (300, .if_icmp .ge 14, 314, 0, 0), (303, .aload_n 0, 0, 0, 0), (304, .getfield 94, 746, 0, 0), (307, .iload 6, 0, 0, 0), (309, .iaload, 8, 0, 0), (310, .bipush 10, 0, 10, 0), (312, .iadd, 0, 0, 0), (313, .ireturn, 0, 0, 0), (314, .iconst 0, 0, 0, 0), (315, .istore 11, 0, 0, 0), (317, .iconst 0, 0, 0, 0), (318, .istore 12, 0, 0, 0), (320, .iload 12, 0, 0, 0), (322, .bipush 12, 0, 12, 0), (324, .if_icmp .ge 41, 365, 0, 0), (327, .aload_n 0, 0, 0, 0), (328, .iload 12, 0, 0, 0), (330, .invokevirtual 105, 0, 0, 0), (333, .ifCond .eq 26, 359, 0, 0), (336, .iload 12, 0, 0, 0), (338, .iload_n 1, 0, 0, 0), (339, .if_icmp .eq 20, 359, 0, 0), (342, .aload_n 0, 0, 0, 0), (343, .iload 12, 0, 0, 0), (345, .invokevirtual 392, 0, 0, 0), (348, .iload 7, 0, 0, 0), (350, .if_icmp .gt 9, 359, 0, 0), (353, .iload 11, 0, 0, 0), (355, .iconst 1, 0, 1, 0), (356, .iadd, 0, 0, 0), (357, .istore 11, 0, 0, 0), (359, .iinc 12 1, 0, 1, 0), (362, .goto (-42), 320, 0, 0), (365, .iload 11, 0, 0, 0), (367, .ireturn, 0, 0, 0)]
set_option maxRecDepth 20000 in
theorem bk_Md_sanding : BK m_Md_sanding cd_Md_sanding := ⟨pl_X12, pk_X12, fun E hE => (show ∀ E ∈ cd_Md_sanding, decode cX12_sanding E.1 = .ok (E.2.1, ilen E.2.1) ∧ exE pl_X12 E.1 E.2.1 E.2.2.1 E.2.2.2.1 E.2.2.2.2 = true by decide +kernel) E hE⟩
theorem nk_Md_sanding : NK m_Md_sanding 7 := ⟨tw1702, tw123, ⟨by decide +kernel, by decide +kernel⟩, by decide +kernel, Nat.le_of_ble_eq_true rfl⟩
def m_Md_slackSteamed : Mth := (yX12_slackSteamed, cX12_slackSteamed, 8, some .int, RX12)
def cd_Md_slackSteamed : List ME := [(0, .iconst 0, 0, 0, 0), (1, .istore 5, 0, 0, 0), (3, .iconst 0, 0, 0, 0), (4, .istore 6, 0, 0, 0), (6, .iload 6, 0, 0, 0), (8, .bipush 8, 0, 8, 0), (10, .if_icmp .ge 57, 67, 0, 0), (13, .aload_n 0, 0, 0, 0), (14, .iload_n 1, 0, 0, 0), (15, .iload 6, 0, 0, 0), (17, .iload_n 3, 0, 0, 0), (18, .iadd, 0, 0, 0), (19, .bipush 8, 0, 8, 0), (21, .irem, 0, 0, 0), (22, .invokevirtual 236, 0, 0, 0), (25, .iload 4, 0, 0, 0), (27, .iadd, 0, 0, 0), (28, .istore 7, 0, 0, 0), (30, .iload 5, 0, 0, 0), (32, .bipush (-9), 0, (-9), 0), (34, .bipush 9, 0, 9, 0), (36, .iload 7, 0, 0, 0), (38, .invokestatic 249, 0, 0, 0), (41, .invokestatic 242, 0, 0, 0), (44, .aload_n 0, 0, 0, 0), (45, .iload_n 2, 0, 0, 0), (46, .bipush 7, 0, 7, 0), (48, .iload 6, 0, 0, 0), (50, .isub, 0, 0, 0), (51, .invokevirtual 236, 0, 0, 0), (54, .iadd, 0, 0, 0), (55, .invokestatic 239, 0, 0, 0), (58, .iadd, 0, 0, 0), (59, .istore 5, 0, 0, 0), (61, .iinc 6 1, 0, 1, 0), (64, .goto (-58), 6, 0, 0), (67, .iconst 0, 0, 0, 0), (68, .iload 5, 0, 0, 0), (70, .aload_n 0, 0, 0, 0), (71, .getfield 7, 704, 0, 0), (74, .bipush 72, 0, 72, 0), (76, .iload_n 1, 0, 0, 0), (77, .iadd, 0, 0, 0), (78, .iaload, 1936, 0, 0), (79, .isub, 0, 0, 0), (80, .aload_n 0, 0, 0, 0), (81, .getfield 7, 704, 0, 0), (84, .bipush 72, 0, 72, 0), (86, .iload_n 2, 0, 0, 0), (87, .iadd, 0, 0, 0), (88, .iaload, 1936, 0, 0), (89, .isub, 0, 0, 0), (90, .invokestatic 242, 0, 0, 0), (93, .ireturn, 0, 0, 0)]
set_option maxRecDepth 20000 in
theorem bk_Md_slackSteamed : BK m_Md_slackSteamed cd_Md_slackSteamed := ⟨pl_X12, pk_X12, fun E hE => (show ∀ E ∈ cd_Md_slackSteamed, decode cX12_slackSteamed E.1 = .ok (E.2.1, ilen E.2.1) ∧ exE pl_X12 E.1 E.2.1 E.2.2.1 E.2.2.2.1 E.2.2.2.2 = true by decide +kernel) E hE⟩
theorem nk_Md_slackSteamed : NK m_Md_slackSteamed 4 := ⟨tw1730, tw123, ⟨by decide +kernel, by decide +kernel⟩, by decide +kernel, Nat.le_of_ble_eq_true rfl⟩
def m_Md_steaming : Mth := (yX12_steaming, cX12_steaming, 9, some .int, RX12)
def cd_Md_steaming : List ME := [(0, .iload_n 1, 0, 0, 0), (1, .invokestatic 97, 0, 0, 0), (4, .ifCond .eq 35, 39, 0, 0), (7, .iload_n 2, 0, 0, 0), (8, .invokestatic 97, 0, 0, 0), (11, .ifCond .eq 28, 39, 0, 0), (14, .iload_n 1, 0, 0, 0), (15, .iload_n 2, 0, 0, 0), (16, .if_icmp .eq 23, 39, 0, 0), (19, .iload_n 3, 0, 0, 0), (20, .iconst 0, 0, 0, 0), (21, .bipush 99, 0, 99, 0), (23, .invokestatic 111, 0, 0, 0), (26, .ifCond .eq 13, 39, 0, 0), (29, .iload 4, 0, 0, 0), (31, .iconst 0, 0, 0, 0), (32, .iconst 2, 0, 2, 0), (33, .invokestatic 111, 0, 0, 0), (36, .ifCond .ne 5, 41, 0, 0), (39, .iconst (-1), 0, (-1), 0), (40, .ireturn, 0, 0, 0), (41, .iconst (-1), 0, (-1), 0), (42, .istore 5, 0, 0, 0), (44, .ldc 245, 0, 1000000000, 0), (46, .istore 6, 0, 0, 0), (48, .iconst 0, 0, 0, 0), (49, .istore 7, 0, 0, 0), (51, .iload 7, 0, 0, 0), (53, .bipush 8, 0, 8, 0), (55, .if_icmp .ge 79, 134, 0, 0), (58, .bipush (-9), 0, (-9), 0), (60, .istore 8, 0, 0, 0), (62, .iload 8, 0, 0, 0), (64, .bipush 9, 0, 9, 0), (66, .if_icmp .gt 62, 128, 0, 0), (69, .iload 7, 0, 0, 0), (71, .iload 8, 0, 0, 0), (73, .invokestatic 239, 0, 0, 0), (76, .iadd, 0, 0, 0), (77, .iload 6, 0, 0, 0), (79, .if_icmp .ge 43, 122, 0, 0), (82, .aload_n 0, 0, 0, 0), (83, .iload_n 1, 0, 0, 0), (84, .iload_n 2, 0, 0, 0), (85, .iload 7, 0, 0, 0), (87, .iload 8, 0, 0, 0), (89, .invokevirtual 395, 0, 0, 0), (92, .iload_n 3, 0, 0, 0), (93, .if_icmp .le 6, 99, 0, 0), (96, .goto 26, 122, 0, 0), (99, .iload 7, 0, 0, 0), (101, .iload 8, 0, 0, 0), (103, .invokestatic 239, 0, 0, 0), (106, .iadd, 0, 0, 0), (107, .istore 6, 0, 0, 0), (109, .bipush 20, 0, 20, 0), (111, .iload 7, 0, 0, 0), (113, .imul, 0, 0, 0), (114, .iload 8, 0, 0, 0), (116, .iadd, 0, 0, 0), (117, .bipush 10, 0, 10, 0), (119, .iadd, 0, 0, 0), (120, .istore 5, 0, 0, 0), (122, .iinc 8 1, 0, 1, 0), (125, .goto (-63), 62, 0, 0), (128, .iinc 7 1, 0, 1, 0), (131, .goto (-80), 51, 0, 0), (134, .iload 5, 0, 0, 0), (136, .iconst (-1), 0, (-1), 0), (137, .if_icmp .ne 8, 145, 0, 0), (140, .bipush (-2), 0, (-2), 0), (142, .goto 32, 174, 0, 0), (145, .iload 4, 0, 0, 0), (147, .ifCond .ne 8, 155, 0, 0), (150, .iload 6, 0, 0, 0), (152, .goto 22, 174, 0, 0), (155, .iload 4, 0, 0, 0), (157, .iconst 1, 0, 1, 0), (158, .if_icmp .ne 11, 169, 0, 0), (161, .iload 5, 0, 0, 0), (163, .bipush 20, 0, 20, 0), (165, .idiv, 0, 0, 0), (166, .goto 8, 174, 0, 0), (169, .iload 5, 0, 0, 0), (171, .bipush 20, 0, 20, 0), (173, .irem, 0, 0, 0), (174, .ireturn, 0, 0, 0)]
set_option maxRecDepth 20000 in
theorem bk_Md_steaming : BK m_Md_steaming cd_Md_steaming := ⟨pl_X12, pk_X12, fun E hE => (show ∀ E ∈ cd_Md_steaming, decode cX12_steaming E.1 = .ok (E.2.1, ilen E.2.1) ∧ exE pl_X12 E.1 E.2.1 E.2.2.1 E.2.2.2.1 E.2.2.2.2 = true by decide +kernel) E hE⟩
theorem nk_Md_steaming : NK m_Md_steaming 4 := ⟨tw1726, tw123, ⟨by decide +kernel, by decide +kernel⟩, by decide +kernel, Nat.le_of_ble_eq_true rfl⟩
def m_Md_worn : Mth := (yX12_worn, cX12_worn, 8, some .int, RX12)
def cd_Md_worn : List ME := [(0, .aload_n 0, 0, 0, 0), (1, .iload_n 1, 0, 0, 0), (2, .invokevirtual 108, 0, 0, 0), (5, .ifCond .eq 30, 35, 0, 0), (8, .aload_n 0, 0, 0, 0), (9, .iload_n 2, 0, 0, 0), (10, .invokevirtual 108, 0, 0, 0), (13, .ifCond .eq 22, 35, 0, 0), (16, .aload_n 0, 0, 0, 0), (17, .getfield 7, 704, 0, 0), (20, .iconst 0, 0, 0, 0), (21, .iload_n 1, 0, 0, 0), (22, .iadd, 0, 0, 0), (23, .iaload, 1936, 0, 0), (24, .aload_n 0, 0, 0, 0), (25, .getfield 7, 704, 0, 0), (28, .iconst 0, 0, 0, 0), (29, .iload_n 2, 0, 0, 0), (30, .iadd, 0, 0, 0), (31, .iaload, 1936, 0, 0), (32, .if_icmp .ne 5, 37, 0, 0), (35, .iconst (-1), 0, (-1), 0), (36, .ireturn, 0, 0, 0), (37, .aload_n 0, 0, 0, 0), (38, .getfield 7, 704, 0, 0), (41, .iconst 0, 0, 0, 0), (42, .iload_n 1, 0, 0, 0), (43, .iadd, 0, 0, 0), (44, .iaload, 1936, 0, 0), (45, .ifCond .ne 7, 52, 0, 0), (48, .iload_n 1, 0, 0, 0), (49, .goto 4, 53, 0, 0), (52, .iload_n 2, 0, 0, 0), (53, .istore_n 3, 0, 0, 0), (54, .iload_n 3, 0, 0, 0), (55, .iload_n 1, 0, 0, 0), (56, .if_icmp .ne 7, 63, 0, 0), (59, .iload_n 2, 0, 0, 0), (60, .goto 4, 64, 0, 0), (63, .iload_n 1, 0, 0, 0), (64, .istore 4, 0, 0, 0), (66, .aload_n 0, 0, 0, 0), (67, .iload_n 3, 0, 0, 0), (68, .iload 4, 0, 0, 0), (70, .invokevirtual 292, 0, 0, 0), (73, .istore 5, 0, 0, 0), (75, .aload_n 0, 0, 0, 0), (76, .getfield 7, 704, 0, 0), (79, .aload_n 0, 0, 0, 0), (80, .getfield 13, 705, 0, 0), (83, .invokestatic 317, 0, 0, 0), (86, .iconst 0, 0, 0, 0), (87, .istore 6, 0, 0, 0), (89, .iload 6, 0, 0, 0), (91, .bipush 100, 0, 100, 0), (93, .if_icmp .ge 37, 130, 0, 0), (96, .aload_n 0, 0, 0, 0), (97, .iload_n 3, 0, 0, 0), (98, .iload 4, 0, 0, 0), (100, .invokevirtual 286, 0, 0, 0), (103, .ifCond .ne 27, 130, 0, 0), (106, .aload_n 0, 0, 0, 0), (107, .iload_n 3, 0, 0, 0), (108, .iload 5, 0, 0, 0), (110, .invokevirtual 295, 0, 0, 0), (113, .aload_n 0, 0, 0, 0), (114, .iload 4, 0, 0, 0), (116, .iload 5, 0, 0, 0), (118, .invokevirtual 295, 0, 0, 0), (121, .iload 6, 0, 0, 0), (123, .iconst 1, 0, 1, 0), (124, .iadd, 0, 0, 0), (125, .istore 6, 0, 0, 0), (127, .goto (-38), 89, 0, 0), (130, .aload_n 0, 0, 0, 0), (131, .iload_n 3, 0, 0, 0), (132, .iload 4, 0, 0, 0), (134, .invokevirtual 286, 0, 0, 0), (137, .istore 7, 0, 0, 0), (139, .aload_n 0, 0, 0, 0), (140, .getfield 13, 705, 0, 0), (143, .aload_n 0, 0, 0, 0), (144, .getfield 7, 704, 0, 0), (147, .invokestatic 317, 0, 0, 0), (150, .iload 7, 0, 0, 0), (152, .ifCond .eq 8, 160, 0, 0), (155, .iload 6, 0, 0, 0), (157, .goto 5, 162, 0, 0), (160, .bipush (-2), 0, (-2), 0), (162, .ireturn, 0, 0, 0)]
set_option maxRecDepth 20000 in
theorem bk_Md_worn : BK m_Md_worn cd_Md_worn := ⟨pl_X12, pk_X12, fun E hE => (show ∀ E ∈ cd_Md_worn, decode cX12_worn E.1 = .ok (E.2.1, ilen E.2.1) ∧ exE pl_X12 E.1 E.2.1 E.2.2.1 E.2.2.2.1 E.2.2.2.2 = true by decide +kernel) E hE⟩
theorem nk_Md_worn : NK m_Md_worn 2 := ⟨tw1734, tw123, ⟨by decide +kernel, by decide +kernel⟩, by decide +kernel, Nat.le_of_ble_eq_true rfl⟩
def m_Md_makes : Mth := (yX12_makes, cX12_makes, 8, some .boolean, RX12)
def cd_Md_makes : List ME := [(0, .iload_n 1, 0, 0, 0), (1, .bipush 14, 0, 14, 0), (3, .idiv, 0, 0, 0), (4, .istore 4, 0, 0, 0), (6, .iload_n 1, 0, 0, 0), (7, .bipush 14, 0, 14, 0), (9, .irem, 0, 0, 0), (10, .bipush 6, 0, 6, 0), (12, .if_icmp .le 7, 19, 0, 0), (15, .iconst 1, 0, 1, 0), (16, .goto 4, 20, 0, 0), (19, .iconst 0, 0, 0, 0), (20, .istore 5, 0, 0, 0), (22, .iload_n 1, 0, 0, 0), (23, .bipush 7, 0, 7, 0), (25, .irem, 0, 0, 0), (26, .iconst 3, 0, 3, 0), (27, .isub, 0, 0, 0), (28, .istore 6, 0, 0, 0), (30, .iconst 0, 0, 0, 0), (31, .istore 7, 0, 0, 0), (33, .iload 7, 0, 0, 0), (35, .bipush 8, 0, 8, 0), (37, .if_icmp .ge 53, 90, 0, 0), (40, .aload_n 0, 0, 0, 0), (41, .iload_n 3, 0, 0, 0), (42, .iload 7, 0, 0, 0), (44, .iload 4, 0, 0, 0), (46, .iadd, 0, 0, 0), (47, .bipush 8, 0, 8, 0), (49, .irem, 0, 0, 0), (50, .invokevirtual 236, 0, 0, 0), (53, .iload 5, 0, 0, 0), (55, .ifCond .eq 14, 69, 0, 0), (58, .aload_n 0, 0, 0, 0), (59, .iload_n 2, 0, 0, 0), (60, .iload 7, 0, 0, 0), (62, .invokevirtual 236, 0, 0, 0), (65, .ineg, 0, 0, 0), (66, .goto 10, 76, 0, 0), (69, .aload_n 0, 0, 0, 0), (70, .iload_n 2, 0, 0, 0), (71, .iload 7, 0, 0, 0), (73, .invokevirtual 236, 0, 0, 0), (76, .iload 6, 0, 0, 0), (78, .iadd, 0, 0, 0), (79, .if_icmp .eq 5, 84, 0, 0), (82, .iconst 0, 0, 0, 0), (83, .ireturn, 0, 0, 0), (84, .iinc 7 1, 0, 1, 0), (87, .goto (-54), 33, 0, 0), (90, .iconst 1, 0, 1, 0), (91, .ireturn, 0, 0, 0)]
set_option maxRecDepth 20000 in
theorem bk_Md_makes : BK m_Md_makes cd_Md_makes := ⟨pl_X12, pk_X12, fun E hE => (show ∀ E ∈ cd_Md_makes, decode cX12_makes E.1 = .ok (E.2.1, ilen E.2.1) ∧ exE pl_X12 E.1 E.2.1 E.2.2.1 E.2.2.2.1 E.2.2.2.2 = true by decide +kernel) E hE⟩
theorem nk_Md_makes : NK m_Md_makes 3 := ⟨tw1746, tw123, ⟨by decide +kernel, by decide +kernel⟩, by decide +kernel, Nat.le_of_ble_eq_true rfl⟩
def m_Md_makesAll : Mth := (yX12_makesAll, cX12_makesAll, 4, some .boolean, RX12)
def cd_Md_makesAll : List ME := [(0, .iconst 0, 0, 0, 0), (1, .istore_n 3, 0, 0, 0), (2, .iload_n 3, 0, 0, 0), (3, .iload_n 2, 0, 0, 0), (4, .if_icmp .ge 37, 41, 0, 0), (7, .aload_n 0, 0, 0, 0), (8, .iload_n 1, 0, 0, 0), (9, .aload_n 0, 0, 0, 0), (10, .getfield 19, 707, 0, 0), (13, .iconst 2, 0, 2, 0), (14, .iload_n 3, 0, 0, 0), (15, .imul, 0, 0, 0), (16, .baload, 260, 0, 0), (17, .aload_n 0, 0, 0, 0), (18, .getfield 19, 707, 0, 0), (21, .iconst 2, 0, 2, 0), (22, .iload_n 3, 0, 0, 0), (23, .imul, 0, 0, 0), (24, .iconst 1, 0, 1, 0), (25, .iadd, 0, 0, 0), (26, .baload, 260, 0, 0), (27, .invokevirtual 398, 0, 0, 0), (30, .ifCond .ne 5, 35, 0, 0), (33, .iconst 0, 0, 0, 0), (34, .ireturn, 0, 0, 0), (35, .iinc 3 1, 0, 1, 0), (38, .goto (-36), 2, 0, 0), (41, .iconst 1, 0, 1, 0), (42, .ireturn, 0, 0, 0)]
set_option maxRecDepth 20000 in
theorem bk_Md_makesAll : BK m_Md_makesAll cd_Md_makesAll := ⟨pl_X12, pk_X12, fun E hE => (show ∀ E ∈ cd_Md_makesAll, decode cX12_makesAll E.1 = .ok (E.2.1, ilen E.2.1) ∧ exE pl_X12 E.1 E.2.1 E.2.2.1 E.2.2.2.1 E.2.2.2.2 = true by decide +kernel) E hE⟩
theorem nk_Md_makesAll : NK m_Md_makesAll 2 := ⟨tw1742, tw123, ⟨by decide +kernel, by decide +kernel⟩, by decide +kernel, Nat.le_of_ble_eq_true rfl⟩
def m_Md_cutter : Mth := (yX12_cutter, cX12_cutter, 6, some .int, RX12)
def cd_Md_cutter : List ME := [(0, .iload_n 1, 0, 0, 0), (1, .iconst 1, 0, 1, 0), (2, .iconst 5, 0, 5, 0), (3, .invokestatic 111, 0, 0, 0), (6, .ifCond .eq 33, 39, 0, 0), (9, .iload_n 2, 0, 0, 0), (10, .iconst 0, 0, 0, 0), (11, .iconst 1, 0, 1, 0), (12, .invokestatic 111, 0, 0, 0), (15, .ifCond .ne 14, 29, 0, 0), (18, .iload_n 2, 0, 0, 0), (19, .bipush 10, 0, 10, 0), (21, .bipush 21, 0, 21, 0), (23, .invokestatic 111, 0, 0, 0), (26, .ifCond .eq 13, 39, 0, 0), (29, .iconst 2, 0, 2, 0), (30, .iload_n 1, 0, 0, 0), (31, .imul, 0, 0, 0), (32, .aload_n 0, 0, 0, 0), (33, .getfield 126, 708, 0, 0), (36, .if_icmp .le 5, 41, 0, 0), (39, .iconst (-1), 0, (-1), 0), (40, .ireturn, 0, 0, 0), (41, .aload_n 0, 0, 0, 0), (42, .iconst 0, 0, 0, 0), (43, .putfield 126, 708, 0, 0), (46, .iconst 0, 0, 0, 0), (47, .istore_n 3, 0, 0, 0), (48, .iload_n 3, 0, 0, 0), (49, .iload_n 1, 0, 0, 0), (50, .if_icmp .ge 63, 113, 0, 0), (53, .aload_n 0, 0, 0, 0), (54, .getfield 19, 707, 0, 0), (57, .iconst 2, 0, 2, 0), (58, .iload_n 3, 0, 0, 0), (59, .imul, 0, 0, 0), (60, .baload, 260, 0, 0), (61, .invokestatic 97, 0, 0, 0), (64, .ifCond .eq 40, 104, 0, 0), (67, .aload_n 0, 0, 0, 0), (68, .getfield 19, 707, 0, 0), (71, .iconst 2, 0, 2, 0), (72, .iload_n 3, 0, 0, 0), (73, .imul, 0, 0, 0), (74, .iconst 1, 0, 1, 0), (75, .iadd, 0, 0, 0), (76, .baload, 260, 0, 0), (77, .invokestatic 97, 0, 0, 0), (80, .ifCond .eq 24, 104, 0, 0), (83, .aload_n 0, 0, 0, 0), (84, .getfield 19, 707, 0, 0), (87, .iconst 2, 0, 2, 0), (88, .iload_n 3, 0, 0, 0), (89, .imul, 0, 0, 0), (90, .baload, 260, 0, 0), (91, .aload_n 0, 0, 0, 0), (92, .getfield 19, 707, 0, 0), (95, .iconst 2, 0, 2, 0), (96, .iload_n 3, 0, 0, 0), (97, .imul, 0, 0, 0), (98, .iconst 1, 0, 1, 0), (99, .iadd, 0, 0, 0), (100, .baload, 260, 0, 0), (101, .if_icmp .ne 6, 107, 0, 0), (104, .bipush (-3), 0, (-3), 0), (106, .ireturn, 0, 0, 0), (107, .iinc 3 1, 0, 1, 0), (110, .goto (-62), 48, 0, 0), (113, .iconst 0, 0, 0, 0), (114, .istore_n 3, 0, 0, 0), (115, .bipush (-2), 0, (-2), 0), (117, .istore 4, 0, 0, 0), (119, .iconst 0, 0, 0, 0), (120, .istore 5, 0, 0, 0), (122, .iload 5, 0, 0, 0), (124, .bipush 112, 0, 112, 0), (126, .if_icmp .ge 39, 165, 0, 0), (129, .aload_n 0, 0, 0, 0), (130, .iload 5, 0, 0, 0), (132, .iload_n 1, 0, 0, 0), (133, .invokevirtual 401, 0, 0, 0), (136, .ifCond .ne 6, 142, 0, 0), (139, .goto 20, 159, 0, 0), (142, .iload_n 3, 0, 0, 0), (143, .ifCond .ne 8, 151, 0, 0), (146, .iload 5, 0, 0, 0), (148, .goto 5, 153, 0, 0), (151, .iload 4, 0, 0, 0), (153, .istore 4, 0, 0, 0), (155, .iload_n 3, 0, 0, 0), (156, .iconst 1, 0, 1, 0), (157, .iadd, 0, 0, 0), (158, .istore_n 3, 0, 0, 0), (159, .iinc 5 1, 0, 1, 0), (162, .goto (-40), 122, 0, 0), (165, .iload_n 2, 0, 0, 0), (166, .iconst 2, 0, 2, 0), (167, .if_icmp .ge 14, 181, 0, 0), (170, .iload_n 2, 0, 0, 0), (171, .ifCond .ne 7, 178, 0, 0), (174, .iload_n 3, 0, 0, 0), (175, .goto 5, 180, 0, 0), (178, .iload 4, 0, 0, 0), (180, .ireturn, 0, 0, 0), (181, .iconst 0, 0, 0, 0), (182, .istore 5, 0, 0, 0), (184, .iload 5, 0, 0, 0), (186, .bipush 12, 0, 12, 0), (188, .if_icmp .ge 34, 222, 0, 0), (191, .iload 4, 0, 0, 0), (193, .bipush (-2), 0, (-2), 0), (195, .if_icmp .eq 27, 222, 0, 0), (198, .aload_n 0, 0, 0, 0), (199, .iload 4, 0, 0, 0), (201, .iload_n 2, 0, 0, 0), (202, .bipush 10, 0, 10, 0), (204, .isub, 0, 0, 0), (205, .iload 5, 0, 0, 0), (207, .invokevirtual 398, 0, 0, 0), (210, .ifCond .eq 6, 216, 0, 0), (213, .iload 5, 0, 0, 0), (215, .ireturn, 0, 0, 0), (216, .iinc 5 1, 0, 1, 0), (219, .goto (-35), 184, 0, 0), (222, .bipush (-2), 0, (-2), 0), (224, .ireturn, 0, 0, 0)]
set_option maxRecDepth 20000 in
theorem bk_Md_cutter : BK m_Md_cutter cd_Md_cutter := ⟨pl_X12, pk_X12, fun E hE => (show ∀ E ∈ cd_Md_cutter, decode cX12_cutter E.1 = .ok (E.2.1, ilen E.2.1) ∧ exE pl_X12 E.1 E.2.1 E.2.2.1 E.2.2.2.1 E.2.2.2.2 = true by decide +kernel) E hE⟩
theorem nk_Md_cutter : NK m_Md_cutter 2 := ⟨tw1738, tw123, ⟨by decide +kernel, by decide +kernel⟩, by decide +kernel, Nat.le_of_ble_eq_true rfl⟩
def m_Md_areSame : Mth := (yX12_areSame, cX12_areSame, 4, some .boolean, RX12)
def cd_Md_areSame : List ME := [(0, .iconst 0, 0, 0, 0), (1, .istore_n 3, 0, 0, 0), (2, .iload_n 3, 0, 0, 0), (3, .bipush 8, 0, 8, 0), (5, .if_icmp .ge 26, 31, 0, 0), (8, .aload_n 0, 0, 0, 0), (9, .iload_n 1, 0, 0, 0), (10, .iload_n 3, 0, 0, 0), (11, .invokevirtual 236, 0, 0, 0), (14, .aload_n 0, 0, 0, 0), (15, .iload_n 2, 0, 0, 0), (16, .iload_n 3, 0, 0, 0), (17, .invokevirtual 236, 0, 0, 0), (20, .if_icmp .eq 5, 25, 0, 0), (23, .iconst 0, 0, 0, 0), (24, .ireturn, 0, 0, 0), (25, .iinc 3 1, 0, 1, 0), (28, .goto (-26), 2, 0, 0), (31, .iconst 1, 0, 1, 0), (32, .ireturn, 0, 0, 0)]
set_option maxRecDepth 20000 in
theorem bk_Md_areSame : BK m_Md_areSame cd_Md_areSame := ⟨pl_X12, pk_X12, fun E hE => (show ∀ E ∈ cd_Md_areSame, decode cX12_areSame E.1 = .ok (E.2.1, ilen E.2.1) ∧ exE pl_X12 E.1 E.2.1 E.2.2.1 E.2.2.2.1 E.2.2.2.2 = true by decide +kernel) E hE⟩
theorem nk_Md_areSame : NK m_Md_areSame 2 := ⟨tw1754, tw123, ⟨by decide +kernel, by decide +kernel⟩, by decide +kernel, Nat.le_of_ble_eq_true rfl⟩
def m_Md_copies : Mth := (yX12_copies, cX12_copies, 6, some .int, RX12)
def cd_Md_copies : List ME := [(0, .iload_n 1, 0, 0, 0), (1, .iconst 0, 0, 0, 0), (2, .iconst 3, 0, 3, 0), (3, .invokestatic 111, 0, 0, 0), (6, .ifCond .ne 5, 11, 0, 0), (9, .iconst (-1), 0, (-1), 0), (10, .ireturn, 0, 0, 0), (11, .iconst 0, 0, 0, 0), (12, .istore_n 2, 0, 0, 0), (13, .iconst (-1), 0, (-1), 0), (14, .istore_n 3, 0, 0, 0), (15, .iconst 0, 0, 0, 0), (16, .istore 4, 0, 0, 0), (18, .iload 4, 0, 0, 0), (20, .bipush 12, 0, 12, 0), (22, .if_icmp .ge 81, 103, 0, 0), (25, .iload 4, 0, 0, 0), (27, .iconst 1, 0, 1, 0), (28, .iadd, 0, 0, 0), (29, .istore 5, 0, 0, 0), (31, .iload 5, 0, 0, 0), (33, .bipush 12, 0, 12, 0), (35, .if_icmp .ge 62, 97, 0, 0), (38, .aload_n 0, 0, 0, 0), (39, .iload 4, 0, 0, 0), (41, .invokevirtual 105, 0, 0, 0), (44, .ifCond .eq 47, 91, 0, 0), (47, .aload_n 0, 0, 0, 0), (48, .iload 5, 0, 0, 0), (50, .invokevirtual 105, 0, 0, 0), (53, .ifCond .eq 38, 91, 0, 0), (56, .aload_n 0, 0, 0, 0), (57, .iload 4, 0, 0, 0), (59, .iload 5, 0, 0, 0), (61, .invokevirtual 404, 0, 0, 0), (64, .ifCond .ne 6, 70, 0, 0), (67, .goto 24, 91, 0, 0), (70, .iload_n 2, 0, 0, 0), (71, .ifCond .ne 14, 85, 0, 0), (74, .bipush 12, 0, 12, 0), (76, .iload 4, 0, 0, 0), (78, .imul, 0, 0, 0), (79, .iload 5, 0, 0, 0), (81, .iadd, 0, 0, 0), (82, .goto 4, 86, 0, 0), (85, .iload_n 3, 0, 0, 0), (86, .istore_n 3, 0, 0, 0), (87, .iload_n 2, 0, 0, 0), (88, .iconst 1, 0, 1, 0), (89, .iadd, 0, 0, 0), (90, .istore_n 2, 0, 0, 0), (91, .iinc 5 1, 0, 1, 0), (94, .goto (-63), 31, 0, 0), (97, .iinc 4 1, 0, 1, 0), (100, .goto (-82), 18, 0, 0), (103, .iload_n 1, 0, 0, 0), (104, .ifCond .ne 5, 109, 0, 0), (107, .iload_n 2, 0, 0, 0), (108, .ireturn, 0, 0, 0), (109, .iload_n 3, 0, 0, 0), (110, .iconst (-1), 0, (-1), 0), (111, .if_icmp .ne 6, 117, 0, 0), (114, .bipush (-2), 0, (-2), 0), (116, .ireturn, 0, 0, 0), (117, .iload_n 3, 0, 0, 0), (118, .bipush 12, 0, 12, 0), (120, .idiv, 0, 0, 0), (121, .istore 4, 0, 0, 0), (123, .iload_n 3, 0, 0, 0), (124, .bipush 12, 0, 12, 0), (126, .irem, 0, 0, 0), (127, .istore 5, 0, 0, 0), (129, .iload_n 1, 0, 0, 0), (130, .iconst 1, 0, 1, 0), (131, .if_icmp .ne 8, 139, 0, 0), (134, .iload 4, 0, 0, 0), (136, .goto 43, 179, 0, 0), (139, .iload_n 1, 0, 0, 0), (140, .iconst 2, 0, 2, 0), (141, .if_icmp .ne 8, 149, 0, 0), (144, .iload 5, 0, 0, 0), (146, .goto 33, 179, 0, 0), (149, .aload_n 0, 0, 0, 0), (150, .getfield 7, 704, 0, 0), (153, .bipush 72, 0, 72, 0), (155, .iload 4, 0, 0, 0), (157, .iadd, 0, 0, 0), (158, .iaload, 1936, 0, 0), (159, .aload_n 0, 0, 0, 0), (160, .getfield 7, 704, 0, 0), (163, .bipush 72, 0, 72, 0), (165, .iload 5, 0, 0, 0), (167, .iadd, 0, 0, 0), (168, .iaload, 1936, 0, 0), (169, .if_icmp .ge 8, 177, 0, 0), (172, .iload 4, 0, 0, 0), (174, .goto 5, 179, 0, 0), (177, .iload 5, 0, 0, 0), (179, .ireturn, 0, 0, 0)]
set_option maxRecDepth 20000 in
theorem bk_Md_copies : BK m_Md_copies cd_Md_copies := ⟨pl_X12, pk_X12, fun E hE => (show ∀ E ∈ cd_Md_copies, decode cX12_copies E.1 = .ok (E.2.1, ilen E.2.1) ∧ exE pl_X12 E.1 E.2.1 E.2.2.1 E.2.2.2.1 E.2.2.2.2 = true by decide +kernel) E hE⟩
theorem nk_Md_copies : NK m_Md_copies 1 := ⟨tw1750, tw123, ⟨by decide +kernel, by decide +kernel⟩, by decide +kernel, Nat.le_of_ble_eq_true rfl⟩
def m_Md_mate : Mth := (yX12_mate, cX12_mate, 3, some .int, RX12)
def cd_Md_mate : List ME := [(0, .iload_n 1, 0, 0, 0), (1, .invokestatic 97, 0, 0, 0), (4, .ifCond .eq 28, 32, 0, 0), (7, .iload_n 2, 0, 0, 0), (8, .iconst 0, 0, 0, 0), (9, .bipush 7, 0, 7, 0), (11, .invokestatic 111, 0, 0, 0), (14, .ifCond .eq 18, 32, 0, 0), (17, .bipush 10, 0, 10, 0), (19, .aload_n 0, 0, 0, 0), (20, .iload_n 1, 0, 0, 0), (21, .bipush 7, 0, 7, 0), (23, .iload_n 2, 0, 0, 0), (24, .isub, 0, 0, 0), (25, .invokevirtual 236, 0, 0, 0), (28, .isub, 0, 0, 0), (29, .goto 4, 33, 0, 0), (32, .iconst (-1), 0, (-1), 0), (33, .ireturn, 0, 0, 0)]
set_option maxRecDepth 20000 in
theorem bk_Md_mate : BK m_Md_mate cd_Md_mate := ⟨pl_X12, pk_X12, fun E hE => (show ∀ E ∈ cd_Md_mate, decode cX12_mate E.1 = .ok (E.2.1, ilen E.2.1) ∧ exE pl_X12 E.1 E.2.1 E.2.2.1 E.2.2.2.1 E.2.2.2.2 = true by decide +kernel) E hE⟩
theorem nk_Md_mate : NK m_Md_mate 2 := ⟨tw1758, tw123, ⟨by decide +kernel, by decide +kernel⟩, by decide +kernel, Nat.le_of_ble_eq_true rfl⟩
def m_Md_seed : Mth := (yX12_seed, cX12_seed, 2, some .boolean, RX12)
def cd_Md_seed : List ME := [(0, .iload_n 1, 0, 0, 0), (1, .iconst 0, 0, 0, 0), (2, .ldc_w 407, 0, 65535, 0), (5, .invokestatic 111, 0, 0, 0), (8, .ifCond .ne 5, 13, 0, 0), (11, .iconst 0, 0, 0, 0), (12, .ireturn, 0, 0, 0), (13, .aload_n 0, 0, 0, 0), (14, .getfield 7, 704, 0, 0), (17, .bipush 111, 0, 111, 0), (19, .iload_n 1, 0, 0, 0), (20, .iastore, 1936, 0, 0), (21, .iconst 1, 0, 1, 0), (22, .ireturn, 0, 0, 0)]
set_option maxRecDepth 20000 in
theorem bk_Md_seed : BK m_Md_seed cd_Md_seed := ⟨pl_X12, pk_X12, fun E hE => (show ∀ E ∈ cd_Md_seed, decode cX12_seed E.1 = .ok (E.2.1, ilen E.2.1) ∧ exE pl_X12 E.1 E.2.1 E.2.2.1 E.2.2.2.1 E.2.2.2.2 = true by decide +kernel) E hE⟩
theorem nk_Md_seed : NK m_Md_seed 1 := ⟨tw1762, tw123, ⟨by decide +kernel, by decide +kernel⟩, by decide +kernel, Nat.le_of_ble_eq_true rfl⟩
def m_Md_keep : Mth := (yX12_keep, cX12_keep, 1, some .int, RX12)
def cd_Md_keep : List ME := [(0, .aload_n 0, 0, 0, 0), (1, .iconst 1, 0, 1, 0), (2, .putfield 408, 750, 0, 0), (5, .aload_n 0, 0, 0, 0), (6, .getfield 7, 704, 0, 0), (9, .aload_n 0, 0, 0, 0), (10, .getfield 16, 706, 0, 0), (13, .invokestatic 317, 0, 0, 0), (16, .aload_n 0, 0, 0, 0), (17, .invokevirtual 321, 0, 0, 0), (20, .ireturn, 0, 0, 0)]
set_option maxRecDepth 20000 in
theorem bk_Md_keep : BK m_Md_keep cd_Md_keep := ⟨pl_X12, pk_X12, fun E hE => (show ∀ E ∈ cd_Md_keep, decode cX12_keep E.1 = .ok (E.2.1, ilen E.2.1) ∧ exE pl_X12 E.1 E.2.1 E.2.2.1 E.2.2.2.1 E.2.2.2.2 = true by decide +kernel) E hE⟩
theorem nk_Md_keep : NK m_Md_keep 0 := ⟨tw1767, tw123, ⟨by decide +kernel, by decide +kernel⟩, by decide +kernel, Nat.le_of_ble_eq_true rfl⟩
def m_Md_undo : Mth := (yX12_undo, cX12_undo, 1, some .boolean, RX12)
def cd_Md_undo : List ME := [(0, .aload_n 0, 0, 0, 0), (1, .getfield 408, 750, 0, 0), (4, .ifCond .ne 5, 9, 0, 0), (7, .iconst 0, 0, 0, 0), (8, .ireturn, 0, 0, 0), (9, .aload_n 0, 0, 0, 0), (10, .getfield 16, 706, 0, 0), (13, .aload_n 0, 0, 0, 0), (14, .getfield 7, 704, 0, 0), (17, .invokestatic 317, 0, 0, 0), (20, .iconst 1, 0, 1, 0), (21, .ireturn, 0, 0, 0)]
set_option maxRecDepth 20000 in
theorem bk_Md_undo : BK m_Md_undo cd_Md_undo := ⟨pl_X12, pk_X12, fun E hE => (show ∀ E ∈ cd_Md_undo, decode cX12_undo E.1 = .ok (E.2.1, ilen E.2.1) ∧ exE pl_X12 E.1 E.2.1 E.2.2.1 E.2.2.2.1 E.2.2.2.2 = true by decide +kernel) E hE⟩
theorem nk_Md_undo : NK m_Md_undo 0 := ⟨tw1771, tw123, ⟨by decide +kernel, by decide +kernel⟩, by decide +kernel, Nat.le_of_ble_eq_true rfl⟩
def m_Md_check : Mth := (yX12_check, cX12_check, 4, some .int, RX12)
def cd_Md_check : List ME := [(0, .iload_n 1, 0, 0, 0), (1, .invokestatic 97, 0, 0, 0), (4, .ifCond .eq 21, 25, 0, 0), (7, .iload_n 2, 0, 0, 0), (8, .iconst 0, 0, 0, 0), (9, .bipush 8, 0, 8, 0), (11, .invokestatic 111, 0, 0, 0), (14, .ifCond .eq 11, 25, 0, 0), (17, .iload_n 2, 0, 0, 0), (18, .aload_n 0, 0, 0, 0), (19, .getfield 126, 708, 0, 0), (22, .if_icmp .le 6, 28, 0, 0), (25, .bipush (-2), 0, (-2), 0), (27, .ireturn, 0, 0, 0), (28, .aload_n 0, 0, 0, 0), (29, .iconst 0, 0, 0, 0), (30, .putfield 126, 708, 0, 0), (33, .iconst 0, 0, 0, 0), (34, .istore_n 3, 0, 0, 0), (35, .iload_n 3, 0, 0, 0), (36, .iload_n 2, 0, 0, 0), (37, .if_icmp .ge 33, 70, 0, 0), (40, .aload_n 0, 0, 0, 0), (41, .getfield 19, 707, 0, 0), (44, .iload_n 3, 0, 0, 0), (45, .baload, 260, 0, 0), (46, .sipush 255, 0, 255, 0), (49, .iand, 0, 0, 0), (50, .aload_n 0, 0, 0, 0), (51, .iload_n 1, 0, 0, 0), (52, .iload_n 3, 0, 0, 0), (53, .invokevirtual 236, 0, 0, 0), (56, .bipush 9, 0, 9, 0), (58, .iadd, 0, 0, 0), (59, .if_icmp .eq 5, 64, 0, 0), (62, .iload_n 3, 0, 0, 0), (63, .ireturn, 0, 0, 0), (64, .iinc 3 1, 0, 1, 0), (67, .goto (-32), 35, 0, 0), (70, .iconst (-1), 0, (-1), 0), (71, .ireturn, 0, 0, 0)]
set_option maxRecDepth 20000 in
theorem bk_Md_check : BK m_Md_check cd_Md_check := ⟨pl_X12, pk_X12, fun E hE => (show ∀ E ∈ cd_Md_check, decode cX12_check E.1 = .ok (E.2.1, ilen E.2.1) ∧ exE pl_X12 E.1 E.2.1 E.2.2.1 E.2.2.2.1 E.2.2.2.2 = true by decide +kernel) E hE⟩
theorem nk_Md_check : NK m_Md_check 2 := ⟨tw1775, tw123, ⟨by decide +kernel, by decide +kernel⟩, by decide +kernel, Nat.le_of_ble_eq_true rfl⟩
def m_Md_count : Mth := (yX12_count, cX12_count, 4, some .int, RX12)
def cd_Md_count : List ME := [(0, .iload_n 1, 0, 0, 0), (44, .aload_n 0, 0, 0, 0), (45, .getfield 7, 704, 0, 0), (48, .bipush 110, 0, 110, 0), (50, .iaload, 1936, 0, 0), (51, .ireturn, 0, 0, 0), (52, .aload_n 0, 0, 0, 0), (53, .getfield 7, 704, 0, 0), (56, .bipush 108, 0, 108, 0), (58, .iaload, 1936, 0, 0), (59, .ireturn, 0, 0, 0), (60, .aload_n 0, 0, 0, 0), (61, .getfield 7, 704, 0, 0), (64, .bipush 109, 0, 109, 0), (66, .iaload, 1936, 0, 0), (67, .ireturn, 0, 0, 0), (68, .aload_n 0, 0, 0, 0), (69, .invokevirtual 321, 0, 0, 0), (72, .ireturn, 0, 0, 0), (73, .aload_n 0, 0, 0, 0), (74, .getfield 225, 717, 0, 0), (77, .ireturn, 0, 0, 0), (78, .aload_n 0, 0, 0, 0), (79, .getfield 126, 708, 0, 0), (82, .ireturn, 0, 0, 0), (83, .aload_n 0, 0, 0, 0), (84, .getfield 7, 704, 0, 0), (87, .bipush 111, 0, 111, 0), (89, .iaload, 1936, 0, 0), (90, .ireturn, 0, 0, 0), (91, .iload_n 1, 0, 0, 0), (92, .bipush 10, 0, 10, 0), (94, .bipush 15, 0, 15, 0), (96, .invokestatic 111, 0, 0, 0), (99, .ifCond .ne 5, 104, 0, 0), (102, .iconst (-1), 0, (-1), 0), (103, .ireturn, 0, 0, 0), (104, .iconst 0, 0, 0, 0), (105, .istore_n 2, 0, 0, 0), (106, .iconst 0, 0, 0, 0), (107, .istore_n 3, 0, 0, 0), (108, .iload_n 3, 0, 0, 0), (109, .bipush 12, 0, 12, 0), (111, .if_icmp .ge 39, 150, 0, 0), (114, .aload_n 0, 0, 0, 0), (115, .iload_n 3, 0, 0, 0), (116, .invokevirtual 108, 0, 0, 0), (119, .ifCond .eq 25, 144, 0, 0), (122, .aload_n 0, 0, 0, 0), (123, .getfield 7, 704, 0, 0), (126, .bipush 12, 0, 12, 0), (128, .iload_n 3, 0, 0, 0), (129, .iadd, 0, 0, 0), (130, .iaload, 1936, 0, 0), (131, .iload_n 1, 0, 0, 0), (132, .bipush 10, 0, 10, 0), (134, .isub, 0, 0, 0), (135, .if_icmp .ne 9, 144, 0, 0), (138, .iload_n 2, 0, 0, 0), (139, .iconst 1, 0, 1, 0), (140, .iload_n 3, 0, 0, 0), (141, .ishl, 0, 0, 0), (142, .ior, 0, 0, 0), (143, .istore_n 2, 0, 0, 0), (144, .iinc 3 1, 0, 1, 0), (147, .goto (-39), 108, 0, 0), (150, .iload_n 2, 0, 0, 0), (151, .ireturn, 0, 0, 0)]
set_option maxRecDepth 20000 in
theorem bk_Md_count : BK m_Md_count cd_Md_count := ⟨pl_X12, pk_X12, fun E hE => (show ∀ E ∈ cd_Md_count, decode cX12_count E.1 = .ok (E.2.1, ilen E.2.1) ∧ exE pl_X12 E.1 E.2.1 E.2.2.1 E.2.2.2.1 E.2.2.2.2 = true by decide +kernel) E hE⟩
theorem nk_Md_count : NK m_Md_count 1 := ⟨tw1779, tw123, ⟨by decide +kernel, by decide +kernel⟩, by decide +kernel, Nat.le_of_ble_eq_true rfl⟩
def m_LawReader_readNumber : Mth := (yX5_readNumber, cX5_readNumber, 4, some .boolean, RX5)
def cd_LawReader_readNumber : List ME := [(0, .iconst 0, 0, 0, 0), (1, .istore_n 1, 0, 0, 0), (2, .iconst 0, 0, 0, 0), (3, .istore_n 2, 0, 0, 0), (4, .iload_n 2, 0, 0, 0), (5, .iconst 5, 0, 5, 0), (6, .if_icmp .gt 60, 66, 0, 0), (9, .aload_n 0, 0, 0, 0), (10, .invokevirtual 35, 0, 0, 0), (13, .istore_n 3, 0, 0, 0), (14, .iload_n 3, 0, 0, 0), (15, .bipush 48, 0, 48, 0), (17, .if_icmp .lt 49, 66, 0, 0), (20, .iload_n 3, 0, 0, 0), (21, .bipush 57, 0, 57, 0), (23, .if_icmp .le 6, 29, 0, 0), (26, .goto 40, 66, 0, 0), (29, .iload_n 2, 0, 0, 0), (30, .iconst 5, 0, 5, 0), (31, .if_icmp .ne 9, 40, 0, 0), (34, .aload_n 0, 0, 0, 0), (35, .iconst 2, 0, 2, 0), (36, .invokevirtual 39, 0, 0, 0), (39, .ireturn, 0, 0, 0), (40, .iload_n 1, 0, 0, 0), (41, .bipush 10, 0, 10, 0), (43, .imul, 0, 0, 0), (44, .iload_n 3, 0, 0, 0), (45, .iadd, 0, 0, 0), (46, .bipush 48, 0, 48, 0), (48, .isub, 0, 0, 0), (49, .istore_n 1, 0, 0, 0), (50, .aload_n 0, 0, 0, 0), (51, .dup, 0, 0, 0), (52, .getfield 43, 322, 0, 0), (55, .iconst 1, 0, 1, 0), (56, .iadd, 0, 0, 0), (57, .putfield 43, 322, 0, 0), (60, .iinc 2 1, 0, 1, 0), (63, .goto (-59), 4, 0, 0), (66, .aload_n 0, 0, 0, 0), (67, .getfield 9, 324, 0, 0), (70, .iconst 1, 0, 1, 0), (71, .invokevirtual 64, 0, 0, 0), (74, .aload_n 0, 0, 0, 0), (75, .getfield 9, 324, 0, 0), (78, .iload_n 1, 0, 0, 0), (79, .invokevirtual 64, 0, 0, 0), (82, .iconst 1, 0, 1, 0), (83, .ireturn, 0, 0, 0)]
set_option maxRecDepth 20000 in
theorem bk_LawReader_readNumber : BK m_LawReader_readNumber cd_LawReader_readNumber := ⟨pl_X5, pk_X5, fun E hE => (show ∀ E ∈ cd_LawReader_readNumber, decode cX5_readNumber E.1 = .ok (E.2.1, ilen E.2.1) ∧ exE pl_X5 E.1 E.2.1 E.2.2.1 E.2.2.2.1 E.2.2.2.2 = true by decide +kernel) E hE⟩
theorem nk_LawReader_readNumber : NK m_LawReader_readNumber 0 := ⟨tw749, tw116, ⟨by decide +kernel, by decide +kernel⟩, by decide +kernel, Nat.le_of_ble_eq_true rfl⟩
def m_String_isLatin1_t1 : Mth := (yJ0_isLatin1_aae02, cJ0_isLatin1_aae02, 1, some .boolean, RJ0)
def cd_String_isLatin1_t1 : List ME := [(3, .ifCond .eq 14, 17, 0, 0), (6, .aload_n 0, 0, 0, 0), (10, .ifCond .ne 7, 17, 0, 0), (13, .iconst 1, 0, 1, 0), (14, .goto 4, 18, 0, 0), (17, .iconst 0, 0, 0, 0), (18, .ireturn, 0, 0, 0)]
set_option maxRecDepth 20000 in
theorem bk_String_isLatin1_t1 : BK m_String_isLatin1_t1 cd_String_isLatin1_t1 := ⟨pl_J0, pk_J0, fun E hE => (show ∀ E ∈ cd_String_isLatin1_t1, decode cJ0_isLatin1_aae02 E.1 = .ok (E.2.1, ilen E.2.1) ∧ exE pl_J0 E.1 E.2.1 E.2.2.1 E.2.2.2.1 E.2.2.2.2 = true by decide +kernel) E hE⟩
theorem nk_String_isLatin1_t1 : NK m_String_isLatin1_t1 0 := ⟨tw643, tw124, ⟨by decide +kernel, by decide +kernel⟩, by decide +kernel, Nat.le_of_ble_eq_true rfl⟩
def m_String_coder_t1 : Mth := (yJ0_coder_7d493, cJ0_coder_7d493, 1, some .byte, RJ0)
def cd_String_coder_t1 : List ME := [(3, .ifCond .eq 10, 13, 0, 0), (6, .aload_n 0, 0, 0, 0), (10, .goto 4, 14, 0, 0), (13, .iconst 1, 0, 1, 0), (14, .ireturn, 0, 0, 0)]
set_option maxRecDepth 20000 in
theorem bk_String_coder_t1 : BK m_String_coder_t1 cd_String_coder_t1 := ⟨pl_J0, pk_J0, fun E hE => (show ∀ E ∈ cd_String_coder_t1, decode cJ0_coder_7d493 E.1 = .ok (E.2.1, ilen E.2.1) ∧ exE pl_J0 E.1 E.2.1 E.2.2.1 E.2.2.2.1 E.2.2.2.2 = true by decide +kernel) E hE⟩
theorem nk_String_coder_t1 : NK m_String_coder_t1 0 := ⟨tw653, tw124, ⟨by decide +kernel, by decide +kernel⟩, by decide +kernel, Nat.le_of_ble_eq_true rfl⟩
def m_String_length_t1 : Mth := (yJ0_length_8abf5, cJ0_length_8abf5, 1, some .int, RJ0)
def cd_String_length_t1 : List ME := [(0, .aload_n 0, 0, 0, 0), (4, .arraylength, 11, 11, 0), (5, .aload_n 0, 0, 0, 0), (6, .invokevirtual 335, 0, 0, 0), (9, .ishr, 0, 0, 0), (10, .ireturn, 0, 0, 0)]
set_option maxRecDepth 20000 in
theorem bk_String_length_t1 : BK m_String_length_t1 cd_String_length_t1 := ⟨pl_J0, pk_J0, fun E hE => (show ∀ E ∈ cd_String_length_t1, decode cJ0_length_8abf5 E.1 = .ok (E.2.1, ilen E.2.1) ∧ exE pl_J0 E.1 E.2.1 E.2.2.1 E.2.2.2.1 E.2.2.2.2 = true by decide +kernel) E hE⟩
theorem nk_String_length_t1 : NK m_String_length_t1 0 := ⟨tw649, tw124, ⟨by decide +kernel, by decide +kernel⟩, by decide +kernel, Nat.le_of_ble_eq_true rfl⟩
def m_StringLatin1_indexOfChar_t1 : Mth := (yJ1_indexOfChar_4cfef, cJ1_indexOfChar_4cfef, 6, some .int, RJ1)
def cd_StringLatin1_indexOfChar_t1 : List ME := [(0, .iload_n 1, 0, 0, 0), (1, .i2b, 0, 0, 0), (2, .istore 4, 0, 0, 0), (4, .iload_n 2, 0, 0, 0), (5, .istore 5, 0, 0, 0), (7, .iload 5, 0, 0, 0), (9, .iload_n 3, 0, 0, 0), (10, .if_icmp .ge 21, 31, 0, 0), (13, .aload_n 0, 0, 0, 0), (14, .iload 5, 0, 0, 0), (16, .baload, 11, 0, 0), (17, .iload 4, 0, 0, 0), (19, .if_icmp .ne 6, 25, 0, 0), (22, .iload 5, 0, 0, 0), (24, .ireturn, 0, 0, 0), (25, .iinc 5 1, 0, 1, 0), (28, .goto (-21), 7, 0, 0), (31, .iconst (-1), 0, (-1), 0), (32, .ireturn, 0, 0, 0)]
set_option maxRecDepth 20000 in
theorem bk_StringLatin1_indexOfChar_t1 : BK m_StringLatin1_indexOfChar_t1 cd_StringLatin1_indexOfChar_t1 := ⟨pl_J1, pk_J1, fun E hE => (show ∀ E ∈ cd_StringLatin1_indexOfChar_t1, decode cJ1_indexOfChar_4cfef E.1 = .ok (E.2.1, ilen E.2.1) ∧ exE pl_J1 E.1 E.2.1 E.2.2.1 E.2.2.2.1 E.2.2.2.2 = true by decide +kernel) E hE⟩
theorem nk_StringLatin1_indexOfChar_t1 : NK m_StringLatin1_indexOfChar_t1 4 := ⟨tw668, tw125, ⟨by decide +kernel, by decide +kernel⟩, by decide +kernel, Nat.le_of_ble_eq_true rfl⟩
def m_StringLatin1_indexOf_t1 : Mth := (yJ1_indexOf_4cfef, cJ1_indexOf_4cfef, 4, some .int, RJ1)
def cd_StringLatin1_indexOf_t1 : List ME := [(0, .iload_n 1, 0, 0, 0), (1, .invokestatic 88, 0, 0, 0), (4, .ifCond .ne 5, 9, 0, 0), (7, .iconst (-1), 0, (-1), 0), (8, .ireturn, 0, 0, 0), (9, .iload_n 2, 0, 0, 0), (10, .iconst 0, 0, 0, 0), (11, .invokestatic 92, 0, 0, 0), (14, .istore_n 2, 0, 0, 0), (15, .iload_n 3, 0, 0, 0), (16, .aload_n 0, 0, 0, 0), (17, .arraylength, 11, 11, 0), (18, .invokestatic 38, 0, 0, 0), (21, .istore_n 3, 0, 0, 0), (22, .iload_n 2, 0, 0, 0), (23, .iload_n 3, 0, 0, 0), (24, .if_icmp .lt 5, 29, 0, 0), (27, .iconst (-1), 0, (-1), 0), (28, .ireturn, 0, 0, 0), (29, .aload_n 0, 0, 0, 0), (30, .iload_n 1, 0, 0, 0), (31, .iload_n 2, 0, 0, 0), (32, .iload_n 3, 0, 0, 0), (33, .invokestatic 95, 0, 0, 0), (36, .ireturn, 0, 0, 0)]
set_option maxRecDepth 20000 in
theorem bk_StringLatin1_indexOf_t1 : BK m_StringLatin1_indexOf_t1 cd_StringLatin1_indexOf_t1 := ⟨pl_J1, pk_J1, fun E hE => (show ∀ E ∈ cd_StringLatin1_indexOf_t1, decode cJ1_indexOf_4cfef E.1 = .ok (E.2.1, ilen E.2.1) ∧ exE pl_J1 E.1 E.2.1 E.2.2.1 E.2.2.2.1 E.2.2.2.2 = true by decide +kernel) E hE⟩
theorem nk_StringLatin1_indexOf_t1 : NK m_StringLatin1_indexOf_t1 4 := ⟨tw656, tw125, ⟨by decide +kernel, by decide +kernel⟩, by decide +kernel, Nat.le_of_ble_eq_true rfl⟩
def m_String_indexOf_ii_t1 : Mth := (yJ0_indexOf_7cf53, cJ0_indexOf_7cf53, 3, some .int, RJ0)
def cd_String_indexOf_ii_t1 : List ME := [(0, .aload_n 0, 0, 0, 0), (1, .invokevirtual 492, 0, 0, 0), (4, .ifCond .eq 19, 23, 0, 0), (7, .aload_n 0, 0, 0, 0), (11, .iload_n 1, 0, 0, 0), (12, .iload_n 2, 0, 0, 0), (13, .aload_n 0, 0, 0, 0), (14, .invokevirtual 505, 0, 0, 0), (17, .invokestatic 637, 0, 0, 0), (20, .goto 16, 36, 0, 0), (36, .ireturn, 0, 0, 0)]
set_option maxRecDepth 20000 in
theorem bk_String_indexOf_ii_t1 : BK m_String_indexOf_ii_t1 cd_String_indexOf_ii_t1 := ⟨pl_J0, pk_J0, fun E hE => (show ∀ E ∈ cd_String_indexOf_ii_t1, decode cJ0_indexOf_7cf53 E.1 = .ok (E.2.1, ilen E.2.1) ∧ exE pl_J0 E.1 E.2.1 E.2.2.1 E.2.2.2.1 E.2.2.2.2 = true by decide +kernel) E hE⟩
theorem nk_String_indexOf_ii_t1 : NK m_String_indexOf_ii_t1 2 := ⟨tw639, tw124, ⟨by decide +kernel, by decide +kernel⟩, by decide +kernel, Nat.le_of_ble_eq_true rfl⟩
def m_String_indexOf_i_t1 : Mth := (yJ0_indexOf_0f7a4, cJ0_indexOf_0f7a4, 2, some .int, RJ0)
def cd_String_indexOf_i_t1 : List ME := [(0, .aload_n 0, 0, 0, 0), (1, .iload_n 1, 0, 0, 0), (2, .iconst 0, 0, 0, 0), (3, .invokevirtual 633, 0, 0, 0), (6, .ireturn, 0, 0, 0)]
set_option maxRecDepth 20000 in
theorem bk_String_indexOf_i_t1 : BK m_String_indexOf_i_t1 cd_String_indexOf_i_t1 := ⟨pl_J0, pk_J0, fun E hE => (show ∀ E ∈ cd_String_indexOf_i_t1, decode cJ0_indexOf_0f7a4 E.1 = .ok (E.2.1, ilen E.2.1) ∧ exE pl_J0 E.1 E.2.1 E.2.2.1 E.2.2.2.1 E.2.2.2.2 = true by decide +kernel) E hE⟩
theorem nk_String_indexOf_i_t1 : NK m_String_indexOf_i_t1 1 := ⟨tw635, tw124, ⟨by decide +kernel, by decide +kernel⟩, by decide +kernel, Nat.le_of_ble_eq_true rfl⟩
def m_LawReader_land : Mth := (yX5_land, cX5_land, 2, none, RX5)
def cd_LawReader_land : List ME := [(0, .iload_n 1, 0, 0, 0), (1, .ifCond .lt 26, 27, 0, 0), (4, .iload_n 1, 0, 0, 0), (5, .sipush 512, 0, 512, 0), (8, .if_icmp .ge 19, 27, 0, 0), (11, .aload_n 0, 0, 0, 0), (12, .getfield 9, 324, 0, 0), (15, .getfield 92, 256, 0, 0), (18, .iload_n 1, 0, 0, 0), (19, .aload_n 0, 0, 0, 0), (20, .getfield 9, 324, 0, 0), (23, .getfield 19, 261, 0, 0), (26, .iastore, 512, 0, 0), (27, .return_, 0, 0, 0)]
set_option maxRecDepth 20000 in
theorem bk_LawReader_land : BK m_LawReader_land cd_LawReader_land := ⟨pl_X5, pk_X5, fun E hE => (show ∀ E ∈ cd_LawReader_land, decode cX5_land E.1 = .ok (E.2.1, ilen E.2.1) ∧ exE pl_X5 E.1 E.2.1 E.2.2.1 E.2.2.2.1 E.2.2.2.2 = true by decide +kernel) E hE⟩
theorem nk_LawReader_land : NK m_LawReader_land 1 := ⟨tw778, tw116, ⟨by decide +kernel, by decide +kernel⟩, by decide +kernel, Nat.le_of_ble_eq_true rfl⟩
def m_LawReader_emitJump : Mth := (yX5_emitJump, cX5_emitJump, 3, some .int, RX5)
def cd_LawReader_emitJump : List ME := [(0, .aload_n 0, 0, 0, 0), (1, .iload_n 2, 0, 0, 0), (2, .invokevirtual 86, 0, 0, 0), (5, .aload_n 0, 0, 0, 0), (6, .getfield 9, 324, 0, 0), (9, .iload_n 1, 0, 0, 0), (10, .invokevirtual 64, 0, 0, 0), (13, .aload_n 0, 0, 0, 0), (14, .getfield 9, 324, 0, 0), (17, .iconst 0, 0, 0, 0), (18, .invokevirtual 64, 0, 0, 0), (21, .aload_n 0, 0, 0, 0), (22, .getfield 9, 324, 0, 0), (25, .getfield 19, 261, 0, 0), (28, .iconst 1, 0, 1, 0), (29, .isub, 0, 0, 0), (30, .ireturn, 0, 0, 0)]
set_option maxRecDepth 20000 in
theorem bk_LawReader_emitJump : BK m_LawReader_emitJump cd_LawReader_emitJump := ⟨pl_X5, pk_X5, fun E hE => (show ∀ E ∈ cd_LawReader_emitJump, decode cX5_emitJump E.1 = .ok (E.2.1, ilen E.2.1) ∧ exE pl_X5 E.1 E.2.1 E.2.2.1 E.2.2.2.1 E.2.2.2.2 = true by decide +kernel) E hE⟩
theorem nk_LawReader_emitJump : NK m_LawReader_emitJump 2 := ⟨tw774, tw116, ⟨by decide +kernel, by decide +kernel⟩, by decide +kernel, Nat.le_of_ble_eq_true rfl⟩
def m_LawReader_readSum : Mth := (yX5_readSum, cX5_readSum, 4, some .boolean, RX5)
def cd_LawReader_readSum : List ME := [(0, .iconst 0, 0, 0, 0), (1, .istore_n 2, 0, 0, 0), (2, .iconst 0, 0, 0, 0), (3, .istore_n 3, 0, 0, 0), (4, .iload_n 3, 0, 0, 0), (5, .aload_n 0, 0, 0, 0), (6, .getfield 76, 321, 0, 0), (9, .if_icmp .gt 60, 69, 0, 0), (12, .aload_n 0, 0, 0, 0), (13, .iload_n 1, 0, 0, 0), (14, .invokevirtual 99, 0, 0, 0), (17, .ifCond .ne 5, 22, 0, 0), (20, .iconst 0, 0, 0, 0), (21, .ireturn, 0, 0, 0), (22, .iload_n 2, 0, 0, 0), (23, .ifCond .eq 11, 34, 0, 0), (26, .aload_n 0, 0, 0, 0), (27, .getfield 9, 324, 0, 0), (30, .iload_n 2, 0, 0, 0), (31, .invokevirtual 64, 0, 0, 0), (34, .aload_n 0, 0, 0, 0), (35, .invokevirtual 35, 0, 0, 0), (38, .istore_n 2, 0, 0, 0), (39, .iload_n 2, 0, 0, 0), (40, .bipush 43, 0, 43, 0), (42, .if_icmp .eq 11, 53, 0, 0), (45, .iload_n 2, 0, 0, 0), (46, .bipush 45, 0, 45, 0), (48, .if_icmp .eq 5, 53, 0, 0), (51, .iconst 1, 0, 1, 0), (52, .ireturn, 0, 0, 0), (53, .aload_n 0, 0, 0, 0), (54, .dup, 0, 0, 0), (55, .getfield 43, 322, 0, 0), (58, .iconst 1, 0, 1, 0), (59, .iadd, 0, 0, 0), (60, .putfield 43, 322, 0, 0), (63, .iinc 3 1, 0, 1, 0), (66, .goto (-62), 4, 0, 0), (69, .aload_n 0, 0, 0, 0), (70, .iconst 1, 0, 1, 0), (71, .invokevirtual 39, 0, 0, 0), (74, .ireturn, 0, 0, 0)]
set_option maxRecDepth 20000 in
theorem bk_LawReader_readSum : BK m_LawReader_readSum cd_LawReader_readSum := ⟨pl_X5, pk_X5, fun E hE => (show ∀ E ∈ cd_LawReader_readSum, decode cX5_readSum E.1 = .ok (E.2.1, ilen E.2.1) ∧ exE pl_X5 E.1 E.2.1 E.2.2.1 E.2.2.2.1 E.2.2.2.2 = true by decide +kernel) E hE⟩
theorem nk_LawReader_readSum : NK m_LawReader_readSum 1 := ⟨tw733, tw116, ⟨by decide +kernel, by decide +kernel⟩, by decide +kernel, Nat.le_of_ble_eq_true rfl⟩
def m_LawReader_readProduct : Mth := (yX5_readProduct, cX5_readProduct, 4, some .boolean, RX5)
def cd_LawReader_readProduct : List ME := [(0, .iconst 0, 0, 0, 0), (1, .istore_n 2, 0, 0, 0), (2, .iconst 0, 0, 0, 0), (3, .istore_n 3, 0, 0, 0), (4, .iload_n 3, 0, 0, 0), (5, .aload_n 0, 0, 0, 0), (6, .getfield 76, 321, 0, 0), (9, .if_icmp .gt 66, 75, 0, 0), (12, .aload_n 0, 0, 0, 0), (13, .iload_n 1, 0, 0, 0), (14, .invokevirtual 102, 0, 0, 0), (17, .ifCond .ne 5, 22, 0, 0), (20, .iconst 0, 0, 0, 0), (21, .ireturn, 0, 0, 0), (22, .iload_n 2, 0, 0, 0), (23, .ifCond .eq 11, 34, 0, 0), (26, .aload_n 0, 0, 0, 0), (27, .getfield 9, 324, 0, 0), (30, .iload_n 2, 0, 0, 0), (31, .invokevirtual 64, 0, 0, 0), (34, .aload_n 0, 0, 0, 0), (35, .invokevirtual 35, 0, 0, 0), (38, .istore_n 2, 0, 0, 0), (39, .iload_n 2, 0, 0, 0), (40, .bipush 42, 0, 42, 0), (42, .if_icmp .eq 17, 59, 0, 0), (45, .iload_n 2, 0, 0, 0), (46, .bipush 47, 0, 47, 0), (48, .if_icmp .eq 11, 59, 0, 0), (51, .iload_n 2, 0, 0, 0), (52, .bipush 37, 0, 37, 0), (54, .if_icmp .eq 5, 59, 0, 0), (57, .iconst 1, 0, 1, 0), (58, .ireturn, 0, 0, 0), (59, .aload_n 0, 0, 0, 0), (60, .dup, 0, 0, 0), (61, .getfield 43, 322, 0, 0), (64, .iconst 1, 0, 1, 0), (65, .iadd, 0, 0, 0), (66, .putfield 43, 322, 0, 0), (69, .iinc 3 1, 0, 1, 0), (72, .goto (-68), 4, 0, 0), (75, .aload_n 0, 0, 0, 0), (76, .iconst 1, 0, 1, 0), (77, .invokevirtual 39, 0, 0, 0), (80, .ireturn, 0, 0, 0)]
set_option maxRecDepth 20000 in
theorem bk_LawReader_readProduct : BK m_LawReader_readProduct cd_LawReader_readProduct := ⟨pl_X5, pk_X5, fun E hE => (show ∀ E ∈ cd_LawReader_readProduct, decode cX5_readProduct E.1 = .ok (E.2.1, ilen E.2.1) ∧ exE pl_X5 E.1 E.2.1 E.2.2.1 E.2.2.2.1 E.2.2.2.2 = true by decide +kernel) E hE⟩
theorem nk_LawReader_readProduct : NK m_LawReader_readProduct 1 := ⟨tw737, tw116, ⟨by decide +kernel, by decide +kernel⟩, by decide +kernel, Nat.le_of_ble_eq_true rfl⟩
def m_LawReader_readFactor : Mth := (yX5_readFactor, cX5_readFactor, 4, some .boolean, RX5)
def cd_LawReader_readFactor : List ME := [(0, .aload_n 0, 0, 0, 0), (1, .invokevirtual 35, 0, 0, 0), (4, .istore_n 2, 0, 0, 0), (5, .iload_n 2, 0, 0, 0), (6, .bipush 91, 0, 91, 0), (8, .if_icmp .ne 50, 58, 0, 0), (11, .iload_n 1, 0, 0, 0), (12, .bipush 6, 0, 6, 0), (14, .if_icmp .lt 9, 23, 0, 0), (17, .aload_n 0, 0, 0, 0), (18, .iconst 5, 0, 5, 0), (19, .invokevirtual 39, 0, 0, 0), (22, .ireturn, 0, 0, 0), (23, .aload_n 0, 0, 0, 0), (24, .dup, 0, 0, 0), (25, .getfield 43, 322, 0, 0), (28, .iconst 1, 0, 1, 0), (29, .iadd, 0, 0, 0), (30, .putfield 43, 322, 0, 0), (33, .aload_n 0, 0, 0, 0), (34, .iload_n 1, 0, 0, 0), (35, .iconst 1, 0, 1, 0), (36, .iadd, 0, 0, 0), (37, .invokevirtual 61, 0, 0, 0), (40, .ifCond .eq 16, 56, 0, 0), (43, .aload_n 0, 0, 0, 0), (44, .bipush 93, 0, 93, 0), (46, .invokevirtual 70, 0, 0, 0), (49, .ifCond .eq 7, 56, 0, 0), (52, .iconst 1, 0, 1, 0), (53, .goto 4, 57, 0, 0), (56, .iconst 0, 0, 0, 0), (57, .ireturn, 0, 0, 0), (58, .iload_n 2, 0, 0, 0), (59, .bipush 48, 0, 48, 0), (61, .if_icmp .lt 14, 75, 0, 0), (64, .iload_n 2, 0, 0, 0), (65, .bipush 57, 0, 57, 0), (67, .if_icmp .gt 8, 75, 0, 0), (70, .aload_n 0, 0, 0, 0), (71, .invokevirtual 105, 0, 0, 0), (74, .ireturn, 0, 0, 0), (75, .aload_n 0, 0, 0, 0), (76, .invokevirtual 32, 0, 0, 0), (79, .ifCond .eq 7, 86, 0, 0), (82, .iconst (-1), 0, (-1), 0), (83, .goto 10, 93, 0, 0), (88, .iload_n 2, 0, 0, 0), (89, .i2c, 0, 0, 0), (90, .invokevirtual 48, 0, 0, 0), (93, .istore_n 3, 0, 0, 0), (94, .iload_n 3, 0, 0, 0), (95, .ifCond .ge 9, 104, 0, 0), (98, .aload_n 0, 0, 0, 0), (99, .iconst 1, 0, 1, 0), (100, .invokevirtual 39, 0, 0, 0), (103, .ireturn, 0, 0, 0), (104, .aload_n 0, 0, 0, 0), (105, .getfield 9, 324, 0, 0), (108, .iconst 2, 0, 2, 0), (109, .invokevirtual 64, 0, 0, 0), (112, .aload_n 0, 0, 0, 0), (113, .getfield 9, 324, 0, 0), (116, .iload_n 3, 0, 0, 0), (117, .invokevirtual 64, 0, 0, 0), (120, .aload_n 0, 0, 0, 0), (121, .dup, 0, 0, 0), (122, .getfield 43, 322, 0, 0), (125, .iconst 1, 0, 1, 0), (126, .iadd, 0, 0, 0), (127, .putfield 43, 322, 0, 0), (130, .iconst 1, 0, 1, 0), (131, .ireturn, 0, 0, 0)]
set_option maxRecDepth 20000 in
theorem bk_LawReader_readFactor : BK m_LawReader_readFactor cd_LawReader_readFactor := ⟨pl_X5, pk_X5, fun E hE => (show ∀ E ∈ cd_LawReader_readFactor, decode cX5_readFactor E.1 = .ok (E.2.1, ilen E.2.1) ∧ exE pl_X5 E.1 E.2.1 E.2.2.1 E.2.2.2.1 E.2.2.2.2 = true by decide +kernel) E hE⟩
theorem nk_LawReader_readFactor : NK m_LawReader_readFactor 1 := ⟨tw741, tw116, ⟨by decide +kernel, by decide +kernel⟩, by decide +kernel, Nat.le_of_ble_eq_true rfl⟩
def m_LawReader_readEither : Mth := (yX5_readEither, cX5_readEither, 4, some .boolean, RX5)
def cd_LawReader_readEither : List ME := [(0, .iconst (-1), 0, (-1), 0), (1, .istore_n 2, 0, 0, 0), (2, .iconst 0, 0, 0, 0), (3, .istore_n 3, 0, 0, 0), (4, .iload_n 3, 0, 0, 0), (5, .aload_n 0, 0, 0, 0), (6, .getfield 76, 321, 0, 0), (9, .if_icmp .gt 49, 58, 0, 0), (12, .aload_n 0, 0, 0, 0), (13, .iload_n 1, 0, 0, 0), (14, .invokevirtual 79, 0, 0, 0), (17, .ifCond .ne 5, 22, 0, 0), (20, .iconst 0, 0, 0, 0), (21, .ireturn, 0, 0, 0), (22, .aload_n 0, 0, 0, 0), (23, .invokevirtual 35, 0, 0, 0), (26, .bipush 124, 0, 124, 0), (28, .if_icmp .eq 6, 34, 0, 0), (31, .goto 27, 58, 0, 0), (34, .aload_n 0, 0, 0, 0), (35, .bipush 124, 0, 124, 0), (37, .iload_n 2, 0, 0, 0), (38, .invokevirtual 82, 0, 0, 0), (41, .istore_n 2, 0, 0, 0), (42, .aload_n 0, 0, 0, 0), (43, .dup, 0, 0, 0), (44, .getfield 43, 322, 0, 0), (47, .iconst 1, 0, 1, 0), (48, .iadd, 0, 0, 0), (49, .putfield 43, 322, 0, 0), (52, .iinc 3 1, 0, 1, 0), (55, .goto (-51), 4, 0, 0), (58, .aload_n 0, 0, 0, 0), (59, .iload_n 2, 0, 0, 0), (60, .invokevirtual 86, 0, 0, 0), (63, .iconst 1, 0, 1, 0), (64, .ireturn, 0, 0, 0)]
set_option maxRecDepth 20000 in
theorem bk_LawReader_readEither : BK m_LawReader_readEither cd_LawReader_readEither := ⟨pl_X5, pk_X5, fun E hE => (show ∀ E ∈ cd_LawReader_readEither, decode cX5_readEither E.1 = .ok (E.2.1, ilen E.2.1) ∧ exE pl_X5 E.1 E.2.1 E.2.2.1 E.2.2.2.1 E.2.2.2.2 = true by decide +kernel) E hE⟩
theorem nk_LawReader_readEither : NK m_LawReader_readEither 1 := ⟨tw758, tw116, ⟨by decide +kernel, by decide +kernel⟩, by decide +kernel, Nat.le_of_ble_eq_true rfl⟩
def m_LawReader_readBoth : Mth := (yX5_readBoth, cX5_readBoth, 4, some .boolean, RX5)
def cd_LawReader_readBoth : List ME := [(0, .iconst (-1), 0, (-1), 0), (1, .istore_n 2, 0, 0, 0), (2, .iconst 0, 0, 0, 0), (3, .istore_n 3, 0, 0, 0), (4, .iload_n 3, 0, 0, 0), (5, .aload_n 0, 0, 0, 0), (6, .getfield 76, 321, 0, 0), (9, .if_icmp .gt 49, 58, 0, 0), (12, .aload_n 0, 0, 0, 0), (13, .iload_n 1, 0, 0, 0), (14, .invokevirtual 89, 0, 0, 0), (17, .ifCond .ne 5, 22, 0, 0), (20, .iconst 0, 0, 0, 0), (21, .ireturn, 0, 0, 0), (22, .aload_n 0, 0, 0, 0), (23, .invokevirtual 35, 0, 0, 0), (26, .bipush 38, 0, 38, 0), (28, .if_icmp .eq 6, 34, 0, 0), (31, .goto 27, 58, 0, 0), (34, .aload_n 0, 0, 0, 0), (35, .bipush 38, 0, 38, 0), (37, .iload_n 2, 0, 0, 0), (38, .invokevirtual 82, 0, 0, 0), (41, .istore_n 2, 0, 0, 0), (42, .aload_n 0, 0, 0, 0), (43, .dup, 0, 0, 0), (44, .getfield 43, 322, 0, 0), (47, .iconst 1, 0, 1, 0), (48, .iadd, 0, 0, 0), (49, .putfield 43, 322, 0, 0), (52, .iinc 3 1, 0, 1, 0), (55, .goto (-51), 4, 0, 0), (58, .aload_n 0, 0, 0, 0), (59, .iload_n 2, 0, 0, 0), (60, .invokevirtual 86, 0, 0, 0), (63, .iconst 1, 0, 1, 0), (64, .ireturn, 0, 0, 0)]
set_option maxRecDepth 20000 in
theorem bk_LawReader_readBoth : BK m_LawReader_readBoth cd_LawReader_readBoth := ⟨pl_X5, pk_X5, fun E hE => (show ∀ E ∈ cd_LawReader_readBoth, decode cX5_readBoth E.1 = .ok (E.2.1, ilen E.2.1) ∧ exE pl_X5 E.1 E.2.1 E.2.2.1 E.2.2.2.1 E.2.2.2.2 = true by decide +kernel) E hE⟩
theorem nk_LawReader_readBoth : NK m_LawReader_readBoth 1 := ⟨tw762, tw116, ⟨by decide +kernel, by decide +kernel⟩, by decide +kernel, Nat.le_of_ble_eq_true rfl⟩
def m_LawReader_readTest : Mth := (yX5_readTest, cX5_readTest, 4, some .boolean, RX5)
def cd_LawReader_readTest : List ME := [(0, .aload_n 0, 0, 0, 0), (1, .invokevirtual 35, 0, 0, 0), (4, .istore_n 2, 0, 0, 0), (5, .iload_n 2, 0, 0, 0), (6, .bipush 33, 0, 33, 0), (8, .if_icmp .eq 9, 17, 0, 0), (11, .iload_n 2, 0, 0, 0), (12, .bipush 40, 0, 40, 0), (14, .if_icmp .ne 10, 24, 0, 0), (17, .aload_n 0, 0, 0, 0), (18, .iload_n 2, 0, 0, 0), (19, .iload_n 1, 0, 0, 0), (20, .invokevirtual 95, 0, 0, 0), (23, .ireturn, 0, 0, 0), (24, .aload_n 0, 0, 0, 0), (25, .iload_n 1, 0, 0, 0), (26, .invokevirtual 61, 0, 0, 0), (29, .ifCond .ne 5, 34, 0, 0), (32, .iconst 0, 0, 0, 0), (33, .ireturn, 0, 0, 0), (34, .aload_n 0, 0, 0, 0), (35, .invokevirtual 35, 0, 0, 0), (38, .istore_n 3, 0, 0, 0), (39, .iload_n 3, 0, 0, 0), (40, .bipush 60, 0, 60, 0), (42, .if_icmp .eq 21, 63, 0, 0), (45, .iload_n 3, 0, 0, 0), (46, .bipush 62, 0, 62, 0), (48, .if_icmp .eq 15, 63, 0, 0), (51, .iload_n 3, 0, 0, 0), (52, .bipush 61, 0, 61, 0), (54, .if_icmp .eq 9, 63, 0, 0), (57, .aload_n 0, 0, 0, 0), (58, .iconst 1, 0, 1, 0), (59, .invokevirtual 39, 0, 0, 0), (62, .ireturn, 0, 0, 0), (63, .aload_n 0, 0, 0, 0), (64, .dup, 0, 0, 0), (65, .getfield 43, 322, 0, 0), (68, .iconst 1, 0, 1, 0), (69, .iadd, 0, 0, 0), (70, .putfield 43, 322, 0, 0), (73, .aload_n 0, 0, 0, 0), (74, .iload_n 1, 0, 0, 0), (75, .invokevirtual 61, 0, 0, 0), (78, .ifCond .ne 5, 83, 0, 0), (81, .iconst 0, 0, 0, 0), (82, .ireturn, 0, 0, 0), (83, .aload_n 0, 0, 0, 0), (84, .getfield 9, 324, 0, 0), (87, .iload_n 3, 0, 0, 0), (88, .invokevirtual 64, 0, 0, 0), (91, .iconst 1, 0, 1, 0), (92, .ireturn, 0, 0, 0)]
set_option maxRecDepth 20000 in
theorem bk_LawReader_readTest : BK m_LawReader_readTest cd_LawReader_readTest := ⟨pl_X5, pk_X5, fun E hE => (show ∀ E ∈ cd_LawReader_readTest, decode cX5_readTest E.1 = .ok (E.2.1, ilen E.2.1) ∧ exE pl_X5 E.1 E.2.1 E.2.2.1 E.2.2.2.1 E.2.2.2.2 = true by decide +kernel) E hE⟩
theorem nk_LawReader_readTest : NK m_LawReader_readTest 1 := ⟨tw766, tw116, ⟨by decide +kernel, by decide +kernel⟩, by decide +kernel, Nat.le_of_ble_eq_true rfl⟩
def m_LawReader_readInner : Mth := (yX5_readInner, cX5_readInner, 3, some .boolean, RX5)
def cd_LawReader_readInner : List ME := [(0, .iload_n 2, 0, 0, 0), (1, .bipush 6, 0, 6, 0), (3, .if_icmp .lt 9, 12, 0, 0), (6, .aload_n 0, 0, 0, 0), (7, .iconst 5, 0, 5, 0), (8, .invokevirtual 39, 0, 0, 0), (11, .ireturn, 0, 0, 0), (12, .aload_n 0, 0, 0, 0), (13, .dup, 0, 0, 0), (14, .getfield 43, 322, 0, 0), (17, .iconst 1, 0, 1, 0), (18, .iadd, 0, 0, 0), (19, .putfield 43, 322, 0, 0), (22, .iload_n 1, 0, 0, 0), (23, .bipush 40, 0, 40, 0), (25, .if_icmp .ne 28, 53, 0, 0), (28, .aload_n 0, 0, 0, 0), (29, .iload_n 2, 0, 0, 0), (30, .iconst 1, 0, 1, 0), (31, .iadd, 0, 0, 0), (32, .invokevirtual 73, 0, 0, 0), (35, .ifCond .eq 16, 51, 0, 0), (38, .aload_n 0, 0, 0, 0), (39, .bipush 41, 0, 41, 0), (41, .invokevirtual 70, 0, 0, 0), (44, .ifCond .eq 7, 51, 0, 0), (47, .iconst 1, 0, 1, 0), (48, .goto 4, 52, 0, 0), (51, .iconst 0, 0, 0, 0), (52, .ireturn, 0, 0, 0), (53, .aload_n 0, 0, 0, 0), (54, .iload_n 2, 0, 0, 0), (55, .iconst 1, 0, 1, 0), (56, .iadd, 0, 0, 0), (57, .invokevirtual 89, 0, 0, 0), (60, .ifCond .ne 5, 65, 0, 0), (63, .iconst 0, 0, 0, 0), (64, .ireturn, 0, 0, 0), (65, .aload_n 0, 0, 0, 0), (66, .getfield 9, 324, 0, 0), (69, .bipush 33, 0, 33, 0), (71, .invokevirtual 64, 0, 0, 0), (74, .iconst 1, 0, 1, 0), (75, .ireturn, 0, 0, 0)]
set_option maxRecDepth 20000 in
theorem bk_LawReader_readInner : BK m_LawReader_readInner cd_LawReader_readInner := ⟨pl_X5, pk_X5, fun E hE => (show ∀ E ∈ cd_LawReader_readInner, decode cX5_readInner E.1 = .ok (E.2.1, ilen E.2.1) ∧ exE pl_X5 E.1 E.2.1 E.2.2.1 E.2.2.2.1 E.2.2.2.2 = true by decide +kernel) E hE⟩
theorem nk_LawReader_readInner : NK m_LawReader_readInner 2 := ⟨tw770, tw116, ⟨by decide +kernel, by decide +kernel⟩, by decide +kernel, Nat.le_of_ble_eq_true rfl⟩
def m_LawReader_readClause : Mth := (yX5_readClause, cX5_readClause, 2, some .boolean, RX5)
def cd_LawReader_readClause : List ME := [(0, .aload_n 0, 0, 0, 0), (1, .getfield 9, 324, 0, 0), (4, .getfield 25, 262, 0, 0), (7, .istore_n 1, 0, 0, 0), (8, .aload_n 0, 0, 0, 0), (9, .invokevirtual 32, 0, 0, 0), (12, .ifCond .ne 16, 28, 0, 0), (17, .aload_n 0, 0, 0, 0), (18, .invokevirtual 35, 0, 0, 0), (21, .i2c, 0, 0, 0), (22, .invokevirtual 48, 0, 0, 0), (25, .ifCond .ge 9, 34, 0, 0), (28, .aload_n 0, 0, 0, 0), (29, .iconst 1, 0, 1, 0), (30, .invokevirtual 39, 0, 0, 0), (33, .ireturn, 0, 0, 0), (34, .iload_n 1, 0, 0, 0), (35, .ifCond .lt 9, 44, 0, 0), (38, .iload_n 1, 0, 0, 0), (39, .bipush 16, 0, 16, 0), (41, .if_icmp .lt 9, 50, 0, 0), (44, .aload_n 0, 0, 0, 0), (45, .iconst 4, 0, 4, 0), (46, .invokevirtual 39, 0, 0, 0), (49, .ireturn, 0, 0, 0), (50, .aload_n 0, 0, 0, 0), (51, .getfield 9, 324, 0, 0), (54, .getfield 54, 257, 0, 0), (57, .iload_n 1, 0, 0, 0), (58, .aload_n 0, 0, 0, 0), (59, .invokevirtual 35, 0, 0, 0), (62, .iastore, 16, 0, 0), (63, .aload_n 0, 0, 0, 0), (64, .getfield 9, 324, 0, 0), (67, .getfield 58, 258, 0, 0), (70, .iload_n 1, 0, 0, 0), (71, .aload_n 0, 0, 0, 0), (72, .getfield 9, 324, 0, 0), (75, .getfield 19, 261, 0, 0), (78, .iastore, 16, 0, 0), (79, .aload_n 0, 0, 0, 0), (80, .dup, 0, 0, 0), (81, .getfield 43, 322, 0, 0), (84, .iconst 1, 0, 1, 0), (85, .iadd, 0, 0, 0), (86, .putfield 43, 322, 0, 0), (89, .aload_n 0, 0, 0, 0), (90, .iconst 0, 0, 0, 0), (91, .invokevirtual 61, 0, 0, 0), (94, .ifCond .ne 5, 99, 0, 0), (97, .iconst 0, 0, 0, 0), (98, .ireturn, 0, 0, 0), (99, .aload_n 0, 0, 0, 0), (100, .getfield 9, 324, 0, 0), (103, .iconst 0, 0, 0, 0), (104, .invokevirtual 64, 0, 0, 0), (107, .aload_n 0, 0, 0, 0), (108, .getfield 9, 324, 0, 0), (111, .getfield 67, 259, 0, 0), (114, .iload_n 1, 0, 0, 0), (115, .aload_n 0, 0, 0, 0), (116, .getfield 9, 324, 0, 0), (119, .getfield 19, 261, 0, 0), (122, .iastore, 16, 0, 0), (123, .aload_n 0, 0, 0, 0), (124, .bipush 40, 0, 40, 0), (126, .invokevirtual 70, 0, 0, 0), (129, .ifCond .eq 20, 149, 0, 0), (132, .aload_n 0, 0, 0, 0), (133, .iconst 1, 0, 1, 0), (134, .invokevirtual 73, 0, 0, 0), (137, .ifCond .eq 12, 149, 0, 0), (140, .aload_n 0, 0, 0, 0), (141, .bipush 41, 0, 41, 0), (143, .invokevirtual 70, 0, 0, 0), (146, .ifCond .ne 5, 151, 0, 0), (149, .iconst 0, 0, 0, 0), (150, .ireturn, 0, 0, 0), (151, .aload_n 0, 0, 0, 0), (152, .getfield 9, 324, 0, 0), (155, .iconst 0, 0, 0, 0), (156, .invokevirtual 64, 0, 0, 0), (159, .aload_n 0, 0, 0, 0), (160, .getfield 9, 324, 0, 0), (163, .iload_n 1, 0, 0, 0), (164, .iconst 1, 0, 1, 0), (165, .iadd, 0, 0, 0), (166, .putfield 25, 262, 0, 0), (169, .iconst 1, 0, 1, 0), (170, .ireturn, 0, 0, 0)]
set_option maxRecDepth 20000 in
theorem bk_LawReader_readClause : BK m_LawReader_readClause cd_LawReader_readClause := ⟨pl_X5, pk_X5, fun E hE => (show ∀ E ∈ cd_LawReader_readClause, decode cX5_readClause E.1 = .ok (E.2.1, ilen E.2.1) ∧ exE pl_X5 E.1 E.2.1 E.2.2.1 E.2.2.2.1 E.2.2.2.2 = true by decide +kernel) E hE⟩
theorem nk_LawReader_readClause : NK m_LawReader_readClause 0 := ⟨tw618, tw116, ⟨by decide +kernel, by decide +kernel⟩, by decide +kernel, Nat.le_of_ble_eq_true rfl⟩
def m_LawReader_readLaw : Mth := (yX5_readLaw, cX5_readLaw, 3, some .boolean, RX5)
def cd_LawReader_readLaw : List ME := [(0, .aload_n 0, 0, 0, 0), (1, .iload_n 1, 0, 0, 0), (2, .invokevirtual 15, 0, 0, 0), (5, .aload_n 0, 0, 0, 0), (6, .getfield 9, 324, 0, 0), (9, .iconst 0, 0, 0, 0), (10, .putfield 19, 261, 0, 0), (13, .aload_n 0, 0, 0, 0), (14, .getfield 9, 324, 0, 0), (17, .iconst 0, 0, 0, 0), (18, .putfield 25, 262, 0, 0), (21, .iconst 0, 0, 0, 0), (22, .istore_n 2, 0, 0, 0), (23, .iload_n 2, 0, 0, 0), (24, .bipush 16, 0, 16, 0), (26, .if_icmp .gt 52, 78, 0, 0), (29, .aload_n 0, 0, 0, 0), (30, .invokevirtual 28, 0, 0, 0), (33, .ifCond .ne 5, 38, 0, 0), (36, .iconst 0, 0, 0, 0), (37, .ireturn, 0, 0, 0), (38, .aload_n 0, 0, 0, 0), (39, .invokevirtual 32, 0, 0, 0), (42, .ifCond .eq 5, 47, 0, 0), (45, .iconst 1, 0, 1, 0), (46, .ireturn, 0, 0, 0), (47, .aload_n 0, 0, 0, 0), (48, .invokevirtual 35, 0, 0, 0), (51, .bipush 59, 0, 59, 0), (53, .if_icmp .eq 9, 62, 0, 0), (56, .aload_n 0, 0, 0, 0), (57, .iconst 1, 0, 1, 0), (58, .invokevirtual 39, 0, 0, 0), (61, .ireturn, 0, 0, 0), (62, .aload_n 0, 0, 0, 0), (63, .dup, 0, 0, 0), (64, .getfield 43, 322, 0, 0), (67, .iconst 1, 0, 1, 0), (68, .iadd, 0, 0, 0), (69, .putfield 43, 322, 0, 0), (72, .iinc 2 1, 0, 1, 0), (75, .goto (-52), 23, 0, 0), (78, .aload_n 0, 0, 0, 0), (79, .iconst 1, 0, 1, 0), (80, .invokevirtual 39, 0, 0, 0), (83, .ireturn, 0, 0, 0)]
set_option maxRecDepth 20000 in
theorem bk_LawReader_readLaw : BK m_LawReader_readLaw cd_LawReader_readLaw := ⟨pl_X5, pk_X5, fun E hE => (show ∀ E ∈ cd_LawReader_readLaw, decode cX5_readLaw E.1 = .ok (E.2.1, ilen E.2.1) ∧ exE pl_X5 E.1 E.2.1 E.2.2.1 E.2.2.2.1 E.2.2.2.2 = true by decide +kernel) E hE⟩
theorem nk_LawReader_readLaw : NK m_LawReader_readLaw 1 := ⟨tw608, tw116, ⟨by decide +kernel, by decide +kernel⟩, by decide +kernel, Nat.le_of_ble_eq_true rfl⟩
def m_Pz_law : Mth := (yX11_law, cX11_law, 3, some .int, RX11)
def cd_Pz_law : List ME := [(0, .iload_n 1, 0, 0, 0), (1, .iconst 1, 0, 1, 0), (2, .if_icmp .lt 21, 23, 0, 0), (5, .iload_n 1, 0, 0, 0), (6, .sipush 240, 0, 240, 0), (9, .if_icmp .gt 14, 23, 0, 0), (12, .iload_n 1, 0, 0, 0), (13, .aload_n 0, 0, 0, 0), (14, .getfield 29, 644, 0, 0), (17, .getfield 141, 577, 0, 0), (20, .if_icmp .le 5, 25, 0, 0), (23, .iconst (-1), 0, (-1), 0), (24, .ireturn, 0, 0, 0), (25, .aload_n 0, 0, 0, 0), (26, .getfield 48, 647, 0, 0), (29, .iload_n 1, 0, 0, 0), (30, .invokevirtual 147, 0, 0, 0), (33, .istore_n 2, 0, 0, 0), (34, .aload_n 0, 0, 0, 0), (35, .getfield 29, 644, 0, 0), (38, .iconst 0, 0, 0, 0), (39, .putfield 141, 577, 0, 0), (42, .iload_n 2, 0, 0, 0), (43, .ifCond .ne 11, 54, 0, 0), (46, .aload_n 0, 0, 0, 0), (47, .getfield 48, 647, 0, 0), (50, .getfield 150, 323, 0, 0), (53, .ireturn, 0, 0, 0), (54, .aload_n 0, 0, 0, 0), (55, .getfield 36, 645, 0, 0), (58, .aload_n 0, 0, 0, 0), (59, .getfield 40, 646, 0, 0), (62, .invokevirtual 153, 0, 0, 0), (65, .aload_n 0, 0, 0, 0), (66, .getfield 36, 645, 0, 0), (69, .getfield 156, 262, 0, 0), (72, .ireturn, 0, 0, 0)]
set_option maxRecDepth 20000 in
theorem bk_Pz_law : BK m_Pz_law cd_Pz_law := ⟨pl_X11, pk_X11, fun E hE => (show ∀ E ∈ cd_Pz_law, decode cX11_law E.1 = .ok (E.2.1, ilen E.2.1) ∧ exE pl_X11 E.1 E.2.1 E.2.2.1 E.2.2.2.1 E.2.2.2.2 = true by decide +kernel) E hE⟩
theorem nk_Pz_law : NK m_Pz_law 1 := ⟨tw604, tw111, ⟨by decide +kernel, by decide +kernel⟩, by decide +kernel, Nat.le_of_ble_eq_true rfl⟩
end
section
/-! THE JUDGEMENTS: a contract of a method (Ev), a run within a method (Go) -/
def rmD (d : Nat) : Room := { frames := d, cells := 0, slots := 0, locals := 64 * d }
/-- the objects' addresses are apart -/
def adOK (w : MD) : Prop := ∀ a b, a < shN → b < shN → w.2.2.1 a = w.2.2.1 b → a = b
/-- what may change: the world's objects, and what comes later -/
def AF (w : MD) (sz : Nat) : Nat → Prop := fun q => (∃ a, a < shN ∧ q = w.2.2.1 a) ∨ sz ≤ q
/-- what the tables say, in a state -/
def WS (w : MD) (U : State) : Prop := va_K w.1 vwCl (mtys w) U ∧ (∀ q ∈ nestL, va_Nw (.methodLinkNest q.1 q.2.1 q.2.2.1 q.2.2.2) U) ∧ ∀ (i : Nat) (q : String × Nat × String), strL[i]? = some q → vk_R q.1 q.2.1 q.2.2 (w.2.2.2.1 i) U
def WT (w : MD) (A : Nat → Prop) (U : State) (H : Heap) : Prop := vk_S 2 strN strB w.2.2.2.1 w.2.2.2.2 A U H ∧ va_Z "java/lang/String" "COMPACT_STRINGS" "Z" (.int 1) A U H
theorem WT.moved {w : MD} {A : Nat → Prop} {u U : State} {H : Heap} (hvm : u.vm.Alike U.vm) (h : WT w A u H) : WT w A U H := ⟨vk_S.moved hvm h.1, va_Z.moved hvm h.2⟩
theorem WT.kept {w : MD} {A : Nat → Prop} {U : State} {H H1 : Heap} (h : WT w A U H) (hq : ∀ a : Nat, a < H.size → ¬ A a → H1[a]? = H[a]?) : WT w A U H1 := ⟨h.1.kept hq, h.2.kept hq⟩
theorem WT.narrow {w : MD} {A B : Nat → Prop} {U : State} {H : Heap} (h : WT w A U H) (hAB : ∀ q, B q → A q) : WT w B U H := ⟨h.1.narrow hAB, h.2.narrow hAB⟩
theorem WS.warm {w : MD} {s U : State} (hW : s.WarmedH U.vm) (h : WS w s) : WS w U := ⟨va_K.moved hW.alike h.1, fun q hq => va_Nw.warmM hW (h.2.1 q hq), fun i q hq => vk_R.warm hW (h.2.2 i q hq)⟩
theorem WS.same {w : MD} {s U : State} (hv : U.vm = s.vm) (h : WS w s) : WS w U := ⟨va_K.moved (by rw [hv]; exact Vm.Alike.refl _) h.1, fun q hq => va_Nw.same rfl hv.symm (h.2.1 q hq), fun i q hq => vk_R.same hv (h.2.2 i q hq)⟩
def TBm (N : Mth) : List Cond := .code N.1 N.2.1 N.2.2.1 N.2.2.2.1 :: TBG
/-- the contract: from every state whose heap is this one, the method answers r and leaves that heap -/
def PEv (w : MD) (sz : Nat) (σ : MH) : State → Prop := fun U => U.heap.size = sz ∧ va_P w.1 vwCl (wsO w σ) U.heap ∧ adOK w ∧ WS w U ∧ WT w (AF w sz) U U.heap
def Ev (N : Mth) (d : Nat) (as : List Value) (σ : MH) (r : Option Value) (σ' : MH) : Prop :=
  ∀ (l : Launch) (w : MD) (sz : Nat), Met l N.1 (TBm N) (rmD d) (va_Pc (as.map (mv w)) (PEv w sz σ)) (fun _ st o t => (o = .returned (r.map (mv w)) ∧ va_P w.1 vwCl (wsO w σ') t.heap) ∧ va_F (AF w sz) st t) 0 0 (AF w sz)
/-- where a method's body stands -/
def Cx (M : Mth) (d : Nat) (p : Program) (R : Room) (s : State) (m : MethodId) (args : Array Value) (meth : Method) (c : Code) (w : MD) (A : Nat → Prop) : Prop :=
  p.tables.exec = Jvm.exec ∧ c.code = M.2.1 ∧ c.maxLocals = M.2.2.1 ∧ s.vm.findClass M.2.2.2.2 = some m.cls ∧ (∀ q ∈ TBG, q.before args s = true) ∧ WS w s ∧ WT w A s s.heap ∧ adOK w ∧ (∀ a, a < shN → A (w.2.2.1 a)) ∧ (∀ q, s.heap.size ≤ q → A q) ∧ d ≤ R.frames ∧ 64 * d ≤ R.locals
def retOK (b : ByteArray) (pc : Nat) (S : List Value) : Prop := (S = [] ∧ decode b pc = .ok (.return_, 1)) ∨ (∃ x, S = [.int x] ∧ decode b pc = .ok (.ireturn, 1)) ∨ (∃ x, S = [.long x] ∧ decode b pc = .ok (.lreturn, 1))
def WM (M : Mth) (p : Program) (l : Launch) (e : Env) (R : Room) (s : State) (m : MethodId) (args : Array Value) (below : List Frame) (meth : Method) (c : Code) (w : MD) (A : Nat → Prop) (Q : State → Prop) : MC → Prop
  | (some pc, L, S, σ) => ∀ (H : Heap) (locs : List Loc) (ls : Array Slot), va_P w.1 vwCl (wsO w σ) H → va_S A s.heap H locs → lvm w ls M.2.2.1 L → W p l e R s m args below meth c H locs 0 0 Q (F0 m pc ls (S.map (mv w)))
  | (none, _, S, σ) => ∀ (H : Heap) (locs : List Loc) (ls : Array Slot) (pc : Nat), va_P w.1 vwCl (wsO w σ) H → va_S A s.heap H locs → retOK M.2.1 pc S → W p l e R s m args below meth c H locs 0 0 Q (F0 m pc ls (S.map (mv w)))
def Go (M : Mth) (d : Nat) (a b : MC) : Prop :=
  ∀ (p : Program) (l : Launch) (e : Env) (R : Room) (s : State) (m : MethodId) (args : Array Value) (below : List Frame) (meth : Method) (c : Code) (w : MD) (A : Nat → Prop) (Q : State → Prop), Cx M d p R s m args meth c w A → WM M p l e R s m args below meth c w A Q b → WM M p l e R s m args below meth c w A Q a
theorem Go.rf {M : Mth} {d : Nat} {a : MC} : Go M d a a := fun _ _ _ _ _ _ _ _ _ _ _ _ _ _ h => h
theorem Go.t {M : Mth} {d : Nat} {a b c : MC} (h1 : Go M d a b) (h2 : Go M d b c) : Go M d a c := fun p l e R s m args below meth cc w A Q C h => h1 p l e R s m args below meth cc w A Q C (h2 p l e R s m args below meth cc w A Q C h)
theorem va_D_ws {w : MD} {σ : MH} {A : Nat → Prop} (h : adOK w) (hA : ∀ a, a < shN → A (w.2.2.1 a)) : va_D A (wsO w σ) := by
  refine ⟨fun i j p q hp hq e => ?_, fun k q hq => ?_⟩
  · obtain ⟨h1, e1⟩ := wsO_some hp
    obtain ⟨h2, e2⟩ := wsO_some hq
    rw [e1, e2] at e
    exact h i j h1 h2 e
  · obtain ⟨h1, e1⟩ := wsO_some hq
    rw [e1]
    exact hA k h1
/-- fewer locals are known -/
def lforg : List (Option Value) → List (Option Value) → Bool
  | _, [] => true
  | [], none :: r => lforg [] r
  | [], some _ :: _ => false
  | _ :: a, none :: r => lforg a r
  | none :: _, some _ :: _ => false
  | some _ :: a, some _ :: r => lforg a r
/-- L' knows no more than L does -/
def LSub (L L' : List (Option Value)) : Prop := ∀ (i : Nat) (v : Value), L'[i]? = some (some v) → L[i]? = some (some v)
theorem LSub.nil {L : List (Option Value)} : LSub L [] := fun i v h => by simp at h
theorem LSub.cn {L L' : List (Option Value)} {x : Option Value} (h : LSub L L') : LSub (x :: L) (none :: L') := fun i v hi => by
  cases i with
  | zero => simp at hi
  | succ i => exact h i v hi
theorem LSub.cs {L L' : List (Option Value)} {x : Option Value} (h : LSub L L') : LSub (x :: L) (x :: L') := fun i v hi => by
  cases i with
  | zero => exact hi
  | succ i => exact h i v hi
theorem Go.fg {M : Mth} {d pc : Nat} {L L' : List (Option Value)} {S : List Value} {σ : MH} (h : LSub L L') : Go M d (some pc, L, S, σ) (some pc, L', S, σ) := by
  intro p l e R s m args below meth c w A Q C k H locs ls hP hS hl
  exact k H locs ls hP hS ⟨hl.1, hl.2.1, fun i v hi => hl.2.2 i v (h i v hi)⟩
theorem AF_in {w : MD} {sz : Nat} {A : Nat → Prop} (hA : ∀ a, a < shN → A (w.2.2.1 a)) (hB : ∀ q, sz ≤ q → A q) {sz' : Nat} (hs : sz ≤ sz') : ∀ q, AF w sz' q → A q := by
  intro q h
  rcases h with ⟨a, h1, rfl⟩ | h
  · exact hA a h1
  · exact hB q (Nat.le_trans hs h)
theorem PEv.blind {w : MD} {sz : Nat} {σ : MH} {as : List Value} : FrameBlind (va_Pc as (PEv w sz σ)) := fun _ _ _ _ q => ⟨q.1, q.2.1, q.2.2.1, q.2.2.2.1, q.2.2.2.2.1.same rfl, WT.moved (Vm.Alike.refl _) q.2.2.2.2.2⟩
theorem PEv.at {w : MD} {σ : MH} {s : State} {H : Heap} {A : Nat → Prop} {locs : List Loc} (hWS : WS w s) (hWT : WT w A s s.heap) (had : adOK w) (hA : ∀ a, a < shN → A (w.2.2.1 a)) (hB : ∀ q, s.heap.size ≤ q → A q) (hP : va_P w.1 vwCl (wsO w σ) H) (hS : va_S A s.heap H locs) : ∀ U : State, U.heap = H → s.WarmedH U.vm → PEv w H.size σ U := by
  intro U hU hW
  refine ⟨by rw [hU], by rw [hU]; exact hP, had, hWS.warm hW, ?_⟩
  rw [hU]
  exact WT.moved hW.alike ((hWT.kept hS.2.1).narrow (AF_in hA hB hS.1))
/-- a method's contract out of a run of its body -/
theorem Ev.of {M : Mth} {d : Nat} {as : List Value} {σ σ' : MH} {r : Option Value} {L : List (Option Value)} (hy : plainName M.1.cls = true) (hcls : M.1.cls = M.2.2.2.2)
    (hfit : (lg_sl as).length ≤ M.2.2.1) (hL : ∀ (i : Nat) (v : Value), L[i]? = some (some v) → (i, v) ∈ lv_args 0 as)
    (hret : match r with
      | none => M.2.2.2.1 = none
      | some (.int x) => ∃ ty, M.2.2.2.1 = some ty ∧ narrow ty (.int x) = .int x
      | some (.long _) => M.2.2.2.1 = some .long
      | _ => False)
    (h : Go M d (some 0, L, [], σ) (none, [], r.toList, σ')) : Ev M d as σ r σ' := by
  intro l w sz
  refine Met.ofW (cc := M.2.1) (maxL := M.2.2.1) (ret := M.2.2.2.1) hy rfl ?_
  intro p e s m args below meth c s₁ B hml hv
  obtain ⟨rfl, hsz, hP, had, hWS, hWT⟩ := hv
  have hx := B.exec
  have hb := B.bytes
  have hr := B.returns
  have hts0 := atoms_spec (ws := TBm M) B.pre
  have hts : ∀ q ∈ TBG, q.before ((as.map (mv w)).toArray) s = true := fun q hq => hts0 q (List.mem_cons_of_mem _ hq)
  have hown : s.vm.findClass M.1.cls = some m.cls := findClass_of_methodNamed B.named
  rw [hcls] at hown
  have hlocks := B.notSynchronized
  subst hsz
  have hcat : lg_sl (as.map (mv w)) = lg_sl (as.map (mv w)) := rfl
  have hlen : (lg_sl (as.map (mv w))).length = (lg_sl as).length := by
    have : ∀ vs : List Value, (lg_sl (vs.map (mv w))).length = (lg_sl vs).length := by
      intro vs
      induction vs with
      | nil => rfl
      | cons v vs ih =>
        simp only [lg_sl, List.map_cons, List.flatMap_cons, List.length_append] at ih ⊢
        rw [ih]
        cases v <;> rfl
    exact this as
  have hl0 := lv_entry (as.map (mv w)) (n := M.2.2.1) (by rw [hlen]; exact hfit)
  rw [lg_entry_eq]
  generalize (lg_sl (as.map (mv w)) ++ List.replicate (M.2.2.1 - (lg_sl (as.map (mv w))).length) Slot.unset).toArray = ls at hl0 ⊢
  have hmap : ∀ (vs : List Value) (n : Nat) (q : Nat × Value), q ∈ lv_args n vs → (q.1, mv w q.2) ∈ lv_args n (vs.map (mv w)) := by
    intro vs
    induction vs with
    | nil => intro n q hq; cases hq
    | cons v vs ih =>
      intro n q hq
      simp only [lv_args, List.map_cons] at hq ⊢
      rcases List.mem_cons.mp hq with rfl | hq
      · exact List.mem_cons_self
      · refine List.mem_cons_of_mem _ ?_
        rw [mv_cat]
        exact ih _ q hq
  have hl : lvm w ls M.2.2.1 L := ⟨hl0.1, hl0.2.1, fun i v hi => hl0.2.2 (i, mv w v) (hmap as 0 (i, v) (hL i v hi))⟩
  have hA : ∀ a, a < shN → AF w s.heap.size (w.2.2.1 a) := fun a ha => Or.inl ⟨a, ha, rfl⟩
  have hB : ∀ q, s.heap.size ≤ q → AF w s.heap.size q := fun q hq => Or.inr hq
  have C : Cx M d p (headSpec (TBm M) (rmD d)).room s m ((as.map (mv w)).toArray) meth c w (AF w s.heap.size) := ⟨hx, hb, hml, hown, hts, hWS, hWT, had, hA, hB, Nat.le_refl _, Nat.le_refl _⟩
  refine h p l e _ s m _ below meth c w (AF w s.heap.size) _ C ?_ s.heap [] ls hP va_S.rf hl
  intro H locs ls' pc hP' hS' hR
  have hpost : ∀ t : State, t.heap = H → va_P w.1 vwCl (wsO w σ') t.heap ∧ va_F (AF w s.heap.size) s t := fun t ht => ⟨by rw [ht]; exact hP', hS'.F ht⟩
  rcases hR with ⟨hS0, hd⟩ | ⟨x, hS0, hd⟩ | ⟨x, hS0, hd⟩
  · cases r with
    | some v => cases hS0
    | none =>
      exact W.vret hx hb (hr.trans hret) (fun t ht _ => ⟨⟨rfl, (hpost t ht).1⟩, (hpost t ht).2⟩) hS'.2.2 hd
  · cases r with
    | none => cases hS0
    | some v =>
      cases hS0
      obtain ⟨ty, h1, h2⟩ := hret
      exact W.zret hx hb (hr.trans h1) h2 (fun t ht _ => ⟨⟨rfl, (hpost t ht).1⟩, (hpost t ht).2⟩) hS'.2.2 hd
  · cases r with
    | none => cases hS0
    | some v =>
      cases hS0
      exact W.lret hx hb (hr.trans hret) (fun t ht _ => ⟨⟨rfl, (hpost t ht).1⟩, (hpost t ht).2⟩) hS'.2.2 hd
end
section
/-! ONE INSTRUCTION OF THE SMALL MACHINE, and what it asks; that the machine goes so -/
def jrem (x y : Int32) : Int32 := x - x / y * y
def jlrem (x y : Int64) : Int64 := x - x / y * y
def jshl (x y : Int32) : Int32 := x <<< (y &&& 31)
def jshr (x y : Int32) : Int32 := x >>> (y &&& 31)
def jushr (x y : Int32) : Int32 := (x.toUInt32 >>> (y.toUInt32 &&& Int32.toUInt32 31)).toInt32
def jb (x : Int32) : Int32 := x.toInt8.toInt32
def jc (x : Int32) : Int32 := (x.toUInt32 % 65536).toInt32
def IA (a n : Nat) : Prop := shk a = 20 ∧ shn a = n
def IJ (a n : Nat) : Prop := shk a = 21 ∧ shn a = n
def IB (a n : Nat) : Prop := shk a = 22 ∧ shn a = n
def IR (a n : Nat) : Prop := shk a = 23 ∧ shn a = n
/-- an index within a row -/
def inb (i : Int32) (n : Nat) : Bool := !(decide (i < 0) || Nat.ble n i.toNatClampNeg)
theorem inb_in {i : Int32} {n : Nat} (h : inb i n = true) : vp_in i n := by
  unfold inb at h
  intro q
  rcases q with q | q
  · simp [q] at h
  · simp [Nat.ble_eq.mpr q] at h
def bz (x : Int32) : Bool := x == 0 || x == 1
theorem PL_f {own : String} {P : PL} (h : PLOK own P) {n aux : Nat} (hq : P.1.any (fun q => Nat.beq q.1 n && Nat.beq q.2 aux) = true) : FOK own n aux := by
  obtain ⟨q, hq1, hq2⟩ := List.any_eq_true.mp hq
  simp only [Bool.and_eq_true] at hq2
  have e1 := Nat.eq_of_beq_eq_true hq2.1
  have e2 := Nat.eq_of_beq_eq_true hq2.2
  have := h.1 q hq1
  rw [e1, e2] at this
  exact this
theorem PL_c {own : String} {P : PL} (h : PLOK own P) {n : Nat} {v : Int32} (hq : P.2.1.any (fun q => Nat.beq q.1 n && decide (q.2 = v)) = true) : Cond.constant own n v ∈ TBG := by
  obtain ⟨q, hq1, hq2⟩ := List.any_eq_true.mp hq
  simp only [Bool.and_eq_true, decide_eq_true_eq] at hq2
  have e1 := Nat.eq_of_beq_eq_true hq2.1
  have := h.2.1 q hq1
  rw [e1, hq2.2] at this
  exact this
theorem PL_l {own : String} {P : PL} (h : PLOK own P) {n : Nat} {v : Int64} (hq : P.2.2.1.any (fun q => Nat.beq q.1 n && decide (q.2 = v)) = true) : Cond.constantLong own n v ∈ TBG := by
  obtain ⟨q, hq1, hq2⟩ := List.any_eq_true.mp hq
  simp only [Bool.and_eq_true, decide_eq_true_eq] at hq2
  have e1 := Nat.eq_of_beq_eq_true hq2.1
  have := h.2.2.1 q hq1
  rw [e1, hq2.2] at this
  exact this

def oP : Option Prop → Prop
  | none => True
  | some p => p
def stp (M : Mth) (pc : Nat) (I : Instr) (aux : Nat) (v : Int32) (w : Int64) (L : List (Option Value)) (S : List Value) (σ : MH) : Option (MC × Option Prop) :=
  match I with
  | .iconst n => some ((some (pc + 1), L, .int v :: S, σ), none)
  | .bipush n => some ((some (pc + 2), L, .int v :: S, σ), none)
  | .sipush n => some ((some (pc + 3), L, .int v :: S, σ), none)
  | .ldc n => some ((some (pc + 2), L, .int v :: S, σ), none)
  | .ldc_w n => some ((some (pc + 3), L, .int v :: S, σ), none)
  | .ldc2_w n => some ((some (pc + 3), L, .long w :: S, σ), none)
  | .lconst n => some ((some (pc + 1), L, .long w :: S, σ), none)
  | .aconst_null => some ((some (pc + 1), L, .null :: S, σ), none)
  | .iload n => (match L.getD n none with | some (.int x) => some ((some (pc + 2), L, .int x :: S, σ), none) | _ => none)
  | .iload_n n => (match L.getD n.val none with | some (.int x) => some ((some (pc + 1), L, .int x :: S, σ), none) | _ => none)
  | .lload n => (match L.getD n none with | some (.long x) => some ((some (pc + 2), L, .long x :: S, σ), none) | _ => none)
  | .lload_n n => (match L.getD n.val none with | some (.long x) => some ((some (pc + 1), L, .long x :: S, σ), none) | _ => none)
  | .aload n => (match L.getD n none with | some (.ref x) => some ((some (pc + 2), L, .ref x :: S, σ), none) | some .null => some ((some (pc + 2), L, .null :: S, σ), none) | some (.retAddr x) => some ((some (pc + 2), L, .retAddr x :: S, σ), none) | some (.float x) => some ((some (pc + 2), L, .float x :: S, σ), none) | _ => none)
  | .aload_n n => (match L.getD n.val none with | some (.ref x) => some ((some (pc + 1), L, .ref x :: S, σ), none) | some .null => some ((some (pc + 1), L, .null :: S, σ), none) | some (.retAddr x) => some ((some (pc + 1), L, .retAddr x :: S, σ), none) | some (.float x) => some ((some (pc + 1), L, .float x :: S, σ), none) | _ => none)
  | .iadd => (match S with | .int y :: .int x :: S => some ((some (pc + 1), L, .int (x + y) :: S, σ), none) | _ => none)
  | .isub => (match S with | .int y :: .int x :: S => some ((some (pc + 1), L, .int (x - y) :: S, σ), none) | _ => none)
  | .imul => (match S with | .int y :: .int x :: S => some ((some (pc + 1), L, .int (x * y) :: S, σ), none) | _ => none)
  | .iand => (match S with | .int y :: .int x :: S => some ((some (pc + 1), L, .int (x &&& y) :: S, σ), none) | _ => none)
  | .ior => (match S with | .int y :: .int x :: S => some ((some (pc + 1), L, .int (x ||| y) :: S, σ), none) | _ => none)
  | .ixor => (match S with | .int y :: .int x :: S => some ((some (pc + 1), L, .int (x ^^^ y) :: S, σ), none) | _ => none)
  | .ishl => (match S with | .int y :: .int x :: S => some ((some (pc + 1), L, .int (jshl x y) :: S, σ), none) | _ => none)
  | .ishr => (match S with | .int y :: .int x :: S => some ((some (pc + 1), L, .int (jshr x y) :: S, σ), none) | _ => none)
  | .iushr => (match S with | .int y :: .int x :: S => some ((some (pc + 1), L, .int (jushr x y) :: S, σ), none) | _ => none)
  | .idiv => (match S with | .int y :: .int x :: S => some ((some (pc + 1), L, .int (x / y) :: S, σ), some (y ≠ 0)) | _ => none)
  | .irem => (match S with | .int y :: .int x :: S => some ((some (pc + 1), L, .int (jrem x y) :: S, σ), some (y ≠ 0)) | _ => none)
  | .ladd => (match S with | .long y :: .long x :: S => some ((some (pc + 1), L, .long (x + y) :: S, σ), none) | _ => none)
  | .lsub => (match S with | .long y :: .long x :: S => some ((some (pc + 1), L, .long (x - y) :: S, σ), none) | _ => none)
  | .lmul => (match S with | .long y :: .long x :: S => some ((some (pc + 1), L, .long (x * y) :: S, σ), none) | _ => none)
  | .ldiv => (match S with | .long y :: .long x :: S => some ((some (pc + 1), L, .long (x / y) :: S, σ), some (y ≠ 0)) | _ => none)
  | .lrem => (match S with | .long y :: .long x :: S => some ((some (pc + 1), L, .long (jlrem x y) :: S, σ), some (y ≠ 0)) | _ => none)
  | .lcmp => (match S with | .long y :: .long x :: S => some ((some (pc + 1), L, .int (lg_cmp x y) :: S, σ), none) | _ => none)
  | .ineg => (match S with | .int x :: S => some ((some (pc + 1), L, .int (-x) :: S, σ), none) | _ => none)
  | .i2l => (match S with | .int x :: S => some ((some (pc + 1), L, .long x.toInt64 :: S, σ), none) | _ => none)
  | .l2i => (match S with | .long x :: S => some ((some (pc + 1), L, .int x.toInt32 :: S, σ), none) | _ => none)
  | .i2b => (match S with | .int x :: S => some ((some (pc + 1), L, .int (jb x) :: S, σ), none) | _ => none)
  | .i2c => (match S with | .int x :: S => some ((some (pc + 1), L, .int (jc x) :: S, σ), none) | _ => none)
  | .dup => (match S with | a :: S => if Nat.beq a.category 1 = true then some ((some (pc + 1), L, a :: a :: S, σ), none) else none | _ => none)
  | .pop => (match S with | a :: S => if Nat.beq a.category 1 = true then some ((some (pc + 1), L, S, σ), none) else none | _ => none)
  | .dup2 => (match S with | a :: b :: S => if (Nat.beq a.category 1 && Nat.beq b.category 1) = true then some ((some (pc + 1), L, a :: b :: a :: b :: S, σ), none) else none | _ => none)
  | .goto off => some ((some aux, L, S, σ), none)
  | .iaload => (match S with | .int i :: .ref a :: S => some ((some (pc + 1), L, .int (σ.1 a i.toNatClampNeg) :: S, σ), some (IA a aux ∧ inb i aux = true)) | _ => none)
  | .baload => (match S with | .int i :: .ref a :: S => some ((some (pc + 1), L, .int (σ.1 a i.toNatClampNeg) :: S, σ), some (IB a aux ∧ inb i aux = true)) | _ => none)
  | .laload => (match S with | .int i :: .ref a :: S => some ((some (pc + 1), L, .long (σ.2 a i.toNatClampNeg) :: S, σ), some (IJ a aux ∧ inb i aux = true)) | _ => none)
  | .aaload => (match S with | .int i :: .ref a :: S => some ((some (pc + 1), L, .ref (rfv a i.toNatClampNeg) :: S, σ), some (IR a aux ∧ inb i aux = true)) | _ => none)
  | .iastore => (match S with | .int x :: .int i :: .ref a :: S => some ((some (pc + 1), L, S, sI σ a i.toNatClampNeg x), some (IA a aux ∧ inb i aux = true)) | _ => none)
  | .bastore => (match S with | .int x :: .int i :: .ref a :: S => some ((some (pc + 1), L, S, sI σ a i.toNatClampNeg (vp_nar .byte x)), some (IB a aux ∧ inb i aux = true)) | _ => none)
  | .lastore => (match S with | .long x :: .int i :: .ref a :: S => some ((some (pc + 1), L, S, sJ σ a i.toNatClampNeg x), some (IJ a aux ∧ inb i aux = true)) | _ => none)
  | .arraylength => (match S with | .ref a :: S => some ((some (pc + 1), L, .int v :: S, σ), some (IA a aux)) | _ => none)
  | .getfield n => (match S with | .ref a :: S => some ((some (pc + 3), L, (if fkr (aux / 64) (aux % 64) = true then .ref (rfv a (aux % 64)) else .int (σ.1 a (aux % 64))) :: S, σ), some (shk a = aux / 64)) | _ => none)
  | .putfield n => (match S with | .int x :: .ref a :: S => if (!fkr (aux / 64) (aux % 64) && !fnl (aux / 64) (aux % 64)) = true then some ((some (pc + 3), L, S, sI σ a (aux % 64) x), some (if fzr (aux / 64) (aux % 64) = true then shk a = aux / 64 ∧ bz x = true else shk a = aux / 64)) else none | _ => none)
  | .istore n => (match S with | .int x :: S => if (Nat.blt n M.2.2.1 && nlb L n) = true then some ((some (pc + 2), L.set n (some (.int x)), S, σ), none) else none | _ => none)
  | .istore_n n => (match S with | .int x :: S => if (Nat.blt n.val M.2.2.1 && nlb L n.val) = true then some ((some (pc + 1), L.set n.val (some (.int x)), S, σ), none) else none | _ => none)
  | .astore n => (match S with | .ref x :: S => if (Nat.blt n M.2.2.1 && nlb L n) = true then some ((some (pc + 2), L.set n (some (.ref x)), S, σ), none) else none | _ => none)
  | .astore_n n => (match S with | .ref x :: S => if (Nat.blt n.val M.2.2.1 && nlb L n.val) = true then some ((some (pc + 1), L.set n.val (some (.ref x)), S, σ), none) else none | _ => none)
  | .lstore n => (match S with | .long x :: S => if (Nat.blt (n + 1) M.2.2.1 && nlb L n) = true then some ((some (pc + 2), (L.set n (some (.long x))).set (n + 1) none, S, σ), none) else none | _ => none)
  | .lstore_n n => (match S with | .long x :: S => if (Nat.blt (n.val + 1) M.2.2.1 && nlb L n.val) = true then some ((some (pc + 1), (L.set n.val (some (.long x))).set (n.val + 1) none, S, σ), none) else none | _ => none)
  | .iinc n q => (match L.getD n none with | some (.int x) => if (Nat.blt n M.2.2.1 && nlb L n) = true then some ((some (pc + 3), L.set n (some (.int (x + v))), S, σ), none) else none | _ => none)
  | _ => none
theorem gs_iconst {M : Mth} {d : Nat} {P : PL} {pc aux : Nat} {v : Int32} {w : Int64} {L : List (Option Value)} {S : List Value} {σ : MH} {c1 : MC} {Pr : Option Prop} (hPL : PLOK M.2.2.2.2 P) {n : Int} (hE : okE M P (pc, .iconst n, aux, v, w)) (h : stp M pc (.iconst n) aux v w L S σ = some (c1, Pr)) (hO : oP Pr) : Go M d (some pc, L, S, σ) c1 := by
  cases h
  intro p l e R s m args below meth c w0 A Q C k H locs ls hP hS hl
  exact lv_iconst C.1 C.2.1 hE.1 (of_decide_eq_true hE.2) (k H locs ls hP hS hl)
theorem gs_bipush {M : Mth} {d : Nat} {P : PL} {pc aux : Nat} {v : Int32} {w : Int64} {L : List (Option Value)} {S : List Value} {σ : MH} {c1 : MC} {Pr : Option Prop} (hPL : PLOK M.2.2.2.2 P) {n : Int} (hE : okE M P (pc, .bipush n, aux, v, w)) (h : stp M pc (.bipush n) aux v w L S σ = some (c1, Pr)) (hO : oP Pr) : Go M d (some pc, L, S, σ) c1 := by
  cases h
  intro p l e R s m args below meth c w0 A Q C k H locs ls hP hS hl
  exact lv_bipush C.1 C.2.1 hE.1 (of_decide_eq_true hE.2) (k H locs ls hP hS hl)
theorem gs_sipush {M : Mth} {d : Nat} {P : PL} {pc aux : Nat} {v : Int32} {w : Int64} {L : List (Option Value)} {S : List Value} {σ : MH} {c1 : MC} {Pr : Option Prop} (hPL : PLOK M.2.2.2.2 P) {n : Int} (hE : okE M P (pc, .sipush n, aux, v, w)) (h : stp M pc (.sipush n) aux v w L S σ = some (c1, Pr)) (hO : oP Pr) : Go M d (some pc, L, S, σ) c1 := by
  cases h
  intro p l e R s m args below meth c w0 A Q C k H locs ls hP hS hl
  exact lv_sipush C.1 C.2.1 hE.1 (of_decide_eq_true hE.2) (k H locs ls hP hS hl)
theorem gs_ldc {M : Mth} {d : Nat} {P : PL} {pc aux : Nat} {v : Int32} {w : Int64} {L : List (Option Value)} {S : List Value} {σ : MH} {c1 : MC} {Pr : Option Prop} (hPL : PLOK M.2.2.2.2 P) {n : Nat} (hE : okE M P (pc, .ldc n, aux, v, w)) (h : stp M pc (.ldc n) aux v w L S σ = some (c1, Pr)) (hO : oP Pr) : Go M d (some pc, L, S, σ) c1 := by
  cases h
  intro p l e R s m args below meth c w0 A Q C k H locs ls hP hS hl
  exact lv_ldc C.1 C.2.1 C.2.2.2.1 (C.2.2.2.2.1 _ (PL_c hPL hE.2)) hE.1 (k H locs ls hP hS hl)
theorem gs_ldcw {M : Mth} {d : Nat} {P : PL} {pc aux : Nat} {v : Int32} {w : Int64} {L : List (Option Value)} {S : List Value} {σ : MH} {c1 : MC} {Pr : Option Prop} (hPL : PLOK M.2.2.2.2 P) {n : Nat} (hE : okE M P (pc, .ldc_w n, aux, v, w)) (h : stp M pc (.ldc_w n) aux v w L S σ = some (c1, Pr)) (hO : oP Pr) : Go M d (some pc, L, S, σ) c1 := by
  cases h
  intro p l e R s m args below meth c w0 A Q C k H locs ls hP hS hl
  exact lv_ldcw C.1 C.2.1 C.2.2.2.1 (C.2.2.2.2.1 _ (PL_c hPL hE.2)) hE.1 (k H locs ls hP hS hl)
theorem gs_ldc2 {M : Mth} {d : Nat} {P : PL} {pc aux : Nat} {v : Int32} {w : Int64} {L : List (Option Value)} {S : List Value} {σ : MH} {c1 : MC} {Pr : Option Prop} (hPL : PLOK M.2.2.2.2 P) {n : Nat} (hE : okE M P (pc, .ldc2_w n, aux, v, w)) (h : stp M pc (.ldc2_w n) aux v w L S σ = some (c1, Pr)) (hO : oP Pr) : Go M d (some pc, L, S, σ) c1 := by
  cases h
  intro p l e R s m args below meth c w0 A Q C k H locs ls hP hS hl
  exact lv_ldc2 C.1 C.2.1 C.2.2.2.1 (C.2.2.2.2.1 _ (PL_l hPL hE.2)) hE.1 (k H locs ls hP hS hl)
theorem gs_lconst {M : Mth} {d : Nat} {P : PL} {pc aux : Nat} {v : Int32} {w : Int64} {L : List (Option Value)} {S : List Value} {σ : MH} {c1 : MC} {Pr : Option Prop} (hPL : PLOK M.2.2.2.2 P) {n : Fin 2} (hE : okE M P (pc, .lconst n, aux, v, w)) (h : stp M pc (.lconst n) aux v w L S σ = some (c1, Pr)) (hO : oP Pr) : Go M d (some pc, L, S, σ) c1 := by
  cases h
  intro p l e R s m args below meth c w0 A Q C k H locs ls hP hS hl
  exact lv_lconst C.1 C.2.1 hE.1 (of_decide_eq_true hE.2) (k H locs ls hP hS hl)
theorem gs_null {M : Mth} {d : Nat} {P : PL} {pc aux : Nat} {v : Int32} {w : Int64} {L : List (Option Value)} {S : List Value} {σ : MH} {c1 : MC} {Pr : Option Prop} (hPL : PLOK M.2.2.2.2 P) (hE : okE M P (pc, .aconst_null, aux, v, w)) (h : stp M pc .aconst_null aux v w L S σ = some (c1, Pr)) (hO : oP Pr) : Go M d (some pc, L, S, σ) c1 := by
  cases h
  intro p l e R s m args below meth c w0 A Q C k H locs ls hP hS hl
  exact lv_null C.1 C.2.1 hE.1 (k H locs ls hP hS hl)
theorem gs_iload {M : Mth} {d : Nat} {P : PL} {pc aux : Nat} {v : Int32} {w : Int64} {L : List (Option Value)} {S : List Value} {σ : MH} {c1 : MC} {Pr : Option Prop} (hPL : PLOK M.2.2.2.2 P) {n : Nat} (hE : okE M P (pc, .iload n, aux, v, w)) (h : stp M pc (.iload n) aux v w L S σ = some (c1, Pr)) (hO : oP Pr) : Go M d (some pc, L, S, σ) c1 := by
  unfold stp at h
  dsimp only at h
  split at h
  · rename_i x hm
    cases h
    intro p l e R s m args below meth c w0 A Q C k H locs ls hP hS hl
    exact lv_iload C.1 C.2.1 hE.1 (lvm_get hl hm) (k H locs ls hP hS hl)
  · cases h
theorem gs_iloadn {M : Mth} {d : Nat} {P : PL} {pc aux : Nat} {v : Int32} {w : Int64} {L : List (Option Value)} {S : List Value} {σ : MH} {c1 : MC} {Pr : Option Prop} (hPL : PLOK M.2.2.2.2 P) {n : Fin 4} (hE : okE M P (pc, .iload_n n, aux, v, w)) (h : stp M pc (.iload_n n) aux v w L S σ = some (c1, Pr)) (hO : oP Pr) : Go M d (some pc, L, S, σ) c1 := by
  unfold stp at h
  dsimp only at h
  split at h
  · rename_i x hm
    cases h
    intro p l e R s m args below meth c w0 A Q C k H locs ls hP hS hl
    exact lv_iload_n C.1 C.2.1 hE.1 rfl (lvm_get hl hm) (k H locs ls hP hS hl)
  · cases h
theorem gs_lload {M : Mth} {d : Nat} {P : PL} {pc aux : Nat} {v : Int32} {w : Int64} {L : List (Option Value)} {S : List Value} {σ : MH} {c1 : MC} {Pr : Option Prop} (hPL : PLOK M.2.2.2.2 P) {n : Nat} (hE : okE M P (pc, .lload n, aux, v, w)) (h : stp M pc (.lload n) aux v w L S σ = some (c1, Pr)) (hO : oP Pr) : Go M d (some pc, L, S, σ) c1 := by
  unfold stp at h
  dsimp only at h
  split at h
  · rename_i x hm
    cases h
    intro p l e R s m args below meth c w0 A Q C k H locs ls hP hS hl
    exact lv_lload C.1 C.2.1 hE.1 (lvm_get hl hm) (k H locs ls hP hS hl)
  · cases h
theorem gs_lloadn {M : Mth} {d : Nat} {P : PL} {pc aux : Nat} {v : Int32} {w : Int64} {L : List (Option Value)} {S : List Value} {σ : MH} {c1 : MC} {Pr : Option Prop} (hPL : PLOK M.2.2.2.2 P) {n : Fin 4} (hE : okE M P (pc, .lload_n n, aux, v, w)) (h : stp M pc (.lload_n n) aux v w L S σ = some (c1, Pr)) (hO : oP Pr) : Go M d (some pc, L, S, σ) c1 := by
  unfold stp at h
  dsimp only at h
  split at h
  · rename_i x hm
    cases h
    intro p l e R s m args below meth c w0 A Q C k H locs ls hP hS hl
    exact lv_lload_n C.1 C.2.1 hE.1 rfl (lvm_get hl hm) (k H locs ls hP hS hl)
  · cases h
theorem gs_aload {M : Mth} {d : Nat} {P : PL} {pc aux : Nat} {v : Int32} {w : Int64} {L : List (Option Value)} {S : List Value} {σ : MH} {c1 : MC} {Pr : Option Prop} (hPL : PLOK M.2.2.2.2 P) {n : Nat} (hE : okE M P (pc, .aload n, aux, v, w)) (h : stp M pc (.aload n) aux v w L S σ = some (c1, Pr)) (hO : oP Pr) : Go M d (some pc, L, S, σ) c1 := by
  unfold stp at h
  dsimp only at h
  split at h
  · rename_i x hm
    cases h
    intro p l e R s m args below meth c w0 A Q C k H locs ls hP hS hl
    exact lv_aload C.1 C.2.1 hE.1 (lvm_get hl hm) (k H locs ls hP hS hl)
  · rename_i hm
    cases h
    intro p l e R s m args below meth c w0 A Q C k H locs ls hP hS hl
    exact lv_aloadN C.1 C.2.1 hE.1 (lvm_get hl hm) (k H locs ls hP hS hl)
  · rename_i x hm
    cases h
    intro p l e R s m args below meth c w0 A Q C k H locs ls hP hS hl
    exact lv_aload C.1 C.2.1 hE.1 (lvm_get hl hm) (k H locs ls hP hS hl)
  · rename_i x hm
    cases h
    intro p l e R s m args below meth c w0 A Q C k H locs ls hP hS hl
    exact lv_aload C.1 C.2.1 hE.1 (lvm_get hl hm) (k H locs ls hP hS hl)
  · cases h
theorem gs_aloadn {M : Mth} {d : Nat} {P : PL} {pc aux : Nat} {v : Int32} {w : Int64} {L : List (Option Value)} {S : List Value} {σ : MH} {c1 : MC} {Pr : Option Prop} (hPL : PLOK M.2.2.2.2 P) {n : Fin 4} (hE : okE M P (pc, .aload_n n, aux, v, w)) (h : stp M pc (.aload_n n) aux v w L S σ = some (c1, Pr)) (hO : oP Pr) : Go M d (some pc, L, S, σ) c1 := by
  unfold stp at h
  dsimp only at h
  split at h
  · rename_i x hm
    cases h
    intro p l e R s m args below meth c w0 A Q C k H locs ls hP hS hl
    exact lv_aload_n C.1 C.2.1 hE.1 rfl (lvm_get hl hm) (k H locs ls hP hS hl)
  · rename_i hm
    cases h
    intro p l e R s m args below meth c w0 A Q C k H locs ls hP hS hl
    exact lv_aload_nN C.1 C.2.1 hE.1 rfl (lvm_get hl hm) (k H locs ls hP hS hl)
  · rename_i x hm
    cases h
    intro p l e R s m args below meth c w0 A Q C k H locs ls hP hS hl
    exact lv_aload_n C.1 C.2.1 hE.1 rfl (lvm_get hl hm) (k H locs ls hP hS hl)
  · rename_i x hm
    cases h
    intro p l e R s m args below meth c w0 A Q C k H locs ls hP hS hl
    exact lv_aload_n C.1 C.2.1 hE.1 rfl (lvm_get hl hm) (k H locs ls hP hS hl)
  · cases h
theorem gs_iadd {M : Mth} {d : Nat} {P : PL} {pc aux : Nat} {v : Int32} {w : Int64} {L : List (Option Value)} {S : List Value} {σ : MH} {c1 : MC} {Pr : Option Prop} (hPL : PLOK M.2.2.2.2 P) (hE : okE M P (pc, .iadd, aux, v, w)) (h : stp M pc .iadd aux v w L S σ = some (c1, Pr)) (hO : oP Pr) : Go M d (some pc, L, S, σ) c1 := by
  unfold stp at h
  dsimp only at h
  split at h
  · rename_i y x S
    cases h
    intro p l e R s m args below meth c w0 A Q C k H locs ls hP hS hl
    exact lv_iadd C.1 C.2.1 hE.1 (k H locs ls hP hS hl)
  · cases h
theorem gs_isub {M : Mth} {d : Nat} {P : PL} {pc aux : Nat} {v : Int32} {w : Int64} {L : List (Option Value)} {S : List Value} {σ : MH} {c1 : MC} {Pr : Option Prop} (hPL : PLOK M.2.2.2.2 P) (hE : okE M P (pc, .isub, aux, v, w)) (h : stp M pc .isub aux v w L S σ = some (c1, Pr)) (hO : oP Pr) : Go M d (some pc, L, S, σ) c1 := by
  unfold stp at h
  dsimp only at h
  split at h
  · rename_i y x S
    cases h
    intro p l e R s m args below meth c w0 A Q C k H locs ls hP hS hl
    exact lv_isub C.1 C.2.1 hE.1 (k H locs ls hP hS hl)
  · cases h
theorem gs_imul {M : Mth} {d : Nat} {P : PL} {pc aux : Nat} {v : Int32} {w : Int64} {L : List (Option Value)} {S : List Value} {σ : MH} {c1 : MC} {Pr : Option Prop} (hPL : PLOK M.2.2.2.2 P) (hE : okE M P (pc, .imul, aux, v, w)) (h : stp M pc .imul aux v w L S σ = some (c1, Pr)) (hO : oP Pr) : Go M d (some pc, L, S, σ) c1 := by
  unfold stp at h
  dsimp only at h
  split at h
  · rename_i y x S
    cases h
    intro p l e R s m args below meth c w0 A Q C k H locs ls hP hS hl
    exact lv_imul C.1 C.2.1 hE.1 (k H locs ls hP hS hl)
  · cases h
theorem gs_iand {M : Mth} {d : Nat} {P : PL} {pc aux : Nat} {v : Int32} {w : Int64} {L : List (Option Value)} {S : List Value} {σ : MH} {c1 : MC} {Pr : Option Prop} (hPL : PLOK M.2.2.2.2 P) (hE : okE M P (pc, .iand, aux, v, w)) (h : stp M pc .iand aux v w L S σ = some (c1, Pr)) (hO : oP Pr) : Go M d (some pc, L, S, σ) c1 := by
  unfold stp at h
  dsimp only at h
  split at h
  · rename_i y x S
    cases h
    intro p l e R s m args below meth c w0 A Q C k H locs ls hP hS hl
    exact lv_iand C.1 C.2.1 hE.1 (k H locs ls hP hS hl)
  · cases h
theorem gs_ior {M : Mth} {d : Nat} {P : PL} {pc aux : Nat} {v : Int32} {w : Int64} {L : List (Option Value)} {S : List Value} {σ : MH} {c1 : MC} {Pr : Option Prop} (hPL : PLOK M.2.2.2.2 P) (hE : okE M P (pc, .ior, aux, v, w)) (h : stp M pc .ior aux v w L S σ = some (c1, Pr)) (hO : oP Pr) : Go M d (some pc, L, S, σ) c1 := by
  unfold stp at h
  dsimp only at h
  split at h
  · rename_i y x S
    cases h
    intro p l e R s m args below meth c w0 A Q C k H locs ls hP hS hl
    exact lv_ior C.1 C.2.1 hE.1 (k H locs ls hP hS hl)
  · cases h
theorem gs_ixor {M : Mth} {d : Nat} {P : PL} {pc aux : Nat} {v : Int32} {w : Int64} {L : List (Option Value)} {S : List Value} {σ : MH} {c1 : MC} {Pr : Option Prop} (hPL : PLOK M.2.2.2.2 P) (hE : okE M P (pc, .ixor, aux, v, w)) (h : stp M pc .ixor aux v w L S σ = some (c1, Pr)) (hO : oP Pr) : Go M d (some pc, L, S, σ) c1 := by
  unfold stp at h
  dsimp only at h
  split at h
  · rename_i y x S
    cases h
    intro p l e R s m args below meth c w0 A Q C k H locs ls hP hS hl
    exact lv_ixor C.1 C.2.1 hE.1 (k H locs ls hP hS hl)
  · cases h
theorem gs_ishl {M : Mth} {d : Nat} {P : PL} {pc aux : Nat} {v : Int32} {w : Int64} {L : List (Option Value)} {S : List Value} {σ : MH} {c1 : MC} {Pr : Option Prop} (hPL : PLOK M.2.2.2.2 P) (hE : okE M P (pc, .ishl, aux, v, w)) (h : stp M pc .ishl aux v w L S σ = some (c1, Pr)) (hO : oP Pr) : Go M d (some pc, L, S, σ) c1 := by
  unfold stp at h
  dsimp only at h
  split at h
  · rename_i y x S
    cases h
    intro p l e R s m args below meth c w0 A Q C k H locs ls hP hS hl
    exact lv_ishl C.1 C.2.1 hE.1 (k H locs ls hP hS hl)
  · cases h
theorem gs_ishr {M : Mth} {d : Nat} {P : PL} {pc aux : Nat} {v : Int32} {w : Int64} {L : List (Option Value)} {S : List Value} {σ : MH} {c1 : MC} {Pr : Option Prop} (hPL : PLOK M.2.2.2.2 P) (hE : okE M P (pc, .ishr, aux, v, w)) (h : stp M pc .ishr aux v w L S σ = some (c1, Pr)) (hO : oP Pr) : Go M d (some pc, L, S, σ) c1 := by
  unfold stp at h
  dsimp only at h
  split at h
  · rename_i y x S
    cases h
    intro p l e R s m args below meth c w0 A Q C k H locs ls hP hS hl
    exact lv_ishr C.1 C.2.1 hE.1 (k H locs ls hP hS hl)
  · cases h
theorem gs_iushr {M : Mth} {d : Nat} {P : PL} {pc aux : Nat} {v : Int32} {w : Int64} {L : List (Option Value)} {S : List Value} {σ : MH} {c1 : MC} {Pr : Option Prop} (hPL : PLOK M.2.2.2.2 P) (hE : okE M P (pc, .iushr, aux, v, w)) (h : stp M pc .iushr aux v w L S σ = some (c1, Pr)) (hO : oP Pr) : Go M d (some pc, L, S, σ) c1 := by
  unfold stp at h
  dsimp only at h
  split at h
  · rename_i y x S
    cases h
    intro p l e R s m args below meth c w0 A Q C k H locs ls hP hS hl
    exact lv_iushr C.1 C.2.1 hE.1 rfl (k H locs ls hP hS hl)
  · cases h
theorem gs_idiv {M : Mth} {d : Nat} {P : PL} {pc aux : Nat} {v : Int32} {w : Int64} {L : List (Option Value)} {S : List Value} {σ : MH} {c1 : MC} {Pr : Option Prop} (hPL : PLOK M.2.2.2.2 P) (hE : okE M P (pc, .idiv, aux, v, w)) (h : stp M pc .idiv aux v w L S σ = some (c1, Pr)) (hO : oP Pr) : Go M d (some pc, L, S, σ) c1 := by
  unfold stp at h
  dsimp only at h
  split at h
  · rename_i y x S
    cases h
    dsimp only [oP] at hO
    intro p l e R s m args below meth c w0 A Q C k H locs ls hP hS hl
    exact lv_idiv C.1 C.2.1 hE.1 hO (k H locs ls hP hS hl)
  · cases h
theorem gs_irem {M : Mth} {d : Nat} {P : PL} {pc aux : Nat} {v : Int32} {w : Int64} {L : List (Option Value)} {S : List Value} {σ : MH} {c1 : MC} {Pr : Option Prop} (hPL : PLOK M.2.2.2.2 P) (hE : okE M P (pc, .irem, aux, v, w)) (h : stp M pc .irem aux v w L S σ = some (c1, Pr)) (hO : oP Pr) : Go M d (some pc, L, S, σ) c1 := by
  unfold stp at h
  dsimp only at h
  split at h
  · rename_i y x S
    cases h
    dsimp only [oP] at hO
    intro p l e R s m args below meth c w0 A Q C k H locs ls hP hS hl
    exact lv_irem C.1 C.2.1 hE.1 hO (k H locs ls hP hS hl)
  · cases h
theorem gs_ladd {M : Mth} {d : Nat} {P : PL} {pc aux : Nat} {v : Int32} {w : Int64} {L : List (Option Value)} {S : List Value} {σ : MH} {c1 : MC} {Pr : Option Prop} (hPL : PLOK M.2.2.2.2 P) (hE : okE M P (pc, .ladd, aux, v, w)) (h : stp M pc .ladd aux v w L S σ = some (c1, Pr)) (hO : oP Pr) : Go M d (some pc, L, S, σ) c1 := by
  unfold stp at h
  dsimp only at h
  split at h
  · rename_i y x S
    cases h
    intro p l e R s m args below meth c w0 A Q C k H locs ls hP hS hl
    exact lv_ladd C.1 C.2.1 hE.1 (k H locs ls hP hS hl)
  · cases h
theorem gs_lsub {M : Mth} {d : Nat} {P : PL} {pc aux : Nat} {v : Int32} {w : Int64} {L : List (Option Value)} {S : List Value} {σ : MH} {c1 : MC} {Pr : Option Prop} (hPL : PLOK M.2.2.2.2 P) (hE : okE M P (pc, .lsub, aux, v, w)) (h : stp M pc .lsub aux v w L S σ = some (c1, Pr)) (hO : oP Pr) : Go M d (some pc, L, S, σ) c1 := by
  unfold stp at h
  dsimp only at h
  split at h
  · rename_i y x S
    cases h
    intro p l e R s m args below meth c w0 A Q C k H locs ls hP hS hl
    exact lv_lsub C.1 C.2.1 hE.1 (k H locs ls hP hS hl)
  · cases h
theorem gs_lmul {M : Mth} {d : Nat} {P : PL} {pc aux : Nat} {v : Int32} {w : Int64} {L : List (Option Value)} {S : List Value} {σ : MH} {c1 : MC} {Pr : Option Prop} (hPL : PLOK M.2.2.2.2 P) (hE : okE M P (pc, .lmul, aux, v, w)) (h : stp M pc .lmul aux v w L S σ = some (c1, Pr)) (hO : oP Pr) : Go M d (some pc, L, S, σ) c1 := by
  unfold stp at h
  dsimp only at h
  split at h
  · rename_i y x S
    cases h
    intro p l e R s m args below meth c w0 A Q C k H locs ls hP hS hl
    exact lv_lmul C.1 C.2.1 hE.1 (k H locs ls hP hS hl)
  · cases h
theorem gs_ldiv {M : Mth} {d : Nat} {P : PL} {pc aux : Nat} {v : Int32} {w : Int64} {L : List (Option Value)} {S : List Value} {σ : MH} {c1 : MC} {Pr : Option Prop} (hPL : PLOK M.2.2.2.2 P) (hE : okE M P (pc, .ldiv, aux, v, w)) (h : stp M pc .ldiv aux v w L S σ = some (c1, Pr)) (hO : oP Pr) : Go M d (some pc, L, S, σ) c1 := by
  unfold stp at h
  dsimp only at h
  split at h
  · rename_i y x S
    cases h
    dsimp only [oP] at hO
    intro p l e R s m args below meth c w0 A Q C k H locs ls hP hS hl
    exact lv_ldiv C.1 C.2.1 hE.1 hO (k H locs ls hP hS hl)
  · cases h
theorem gs_lrem {M : Mth} {d : Nat} {P : PL} {pc aux : Nat} {v : Int32} {w : Int64} {L : List (Option Value)} {S : List Value} {σ : MH} {c1 : MC} {Pr : Option Prop} (hPL : PLOK M.2.2.2.2 P) (hE : okE M P (pc, .lrem, aux, v, w)) (h : stp M pc .lrem aux v w L S σ = some (c1, Pr)) (hO : oP Pr) : Go M d (some pc, L, S, σ) c1 := by
  unfold stp at h
  dsimp only at h
  split at h
  · rename_i y x S
    cases h
    dsimp only [oP] at hO
    intro p l e R s m args below meth c w0 A Q C k H locs ls hP hS hl
    exact lv_lrem C.1 C.2.1 hE.1 hO (k H locs ls hP hS hl)
  · cases h
theorem gs_lcmp {M : Mth} {d : Nat} {P : PL} {pc aux : Nat} {v : Int32} {w : Int64} {L : List (Option Value)} {S : List Value} {σ : MH} {c1 : MC} {Pr : Option Prop} (hPL : PLOK M.2.2.2.2 P) (hE : okE M P (pc, .lcmp, aux, v, w)) (h : stp M pc .lcmp aux v w L S σ = some (c1, Pr)) (hO : oP Pr) : Go M d (some pc, L, S, σ) c1 := by
  unfold stp at h
  dsimp only at h
  split at h
  · rename_i y x S
    cases h
    intro p l e R s m args below meth c w0 A Q C k H locs ls hP hS hl
    exact W.lcmp C.1 C.2.1 hE.1 (k H locs ls hP hS hl)
  · cases h
theorem gs_ineg {M : Mth} {d : Nat} {P : PL} {pc aux : Nat} {v : Int32} {w : Int64} {L : List (Option Value)} {S : List Value} {σ : MH} {c1 : MC} {Pr : Option Prop} (hPL : PLOK M.2.2.2.2 P) (hE : okE M P (pc, .ineg, aux, v, w)) (h : stp M pc .ineg aux v w L S σ = some (c1, Pr)) (hO : oP Pr) : Go M d (some pc, L, S, σ) c1 := by
  unfold stp at h
  dsimp only at h
  split at h
  · rename_i x S
    cases h
    intro p l e R s m args below meth c w0 A Q C k H locs ls hP hS hl
    exact lv_ineg C.1 C.2.1 hE.1 (k H locs ls hP hS hl)
  · cases h
theorem gs_i2l {M : Mth} {d : Nat} {P : PL} {pc aux : Nat} {v : Int32} {w : Int64} {L : List (Option Value)} {S : List Value} {σ : MH} {c1 : MC} {Pr : Option Prop} (hPL : PLOK M.2.2.2.2 P) (hE : okE M P (pc, .i2l, aux, v, w)) (h : stp M pc .i2l aux v w L S σ = some (c1, Pr)) (hO : oP Pr) : Go M d (some pc, L, S, σ) c1 := by
  unfold stp at h
  dsimp only at h
  split at h
  · rename_i x S
    cases h
    intro p l e R s m args below meth c w0 A Q C k H locs ls hP hS hl
    exact lv_i2l C.1 C.2.1 hE.1 rfl (k H locs ls hP hS hl)
  · cases h
theorem gs_l2i {M : Mth} {d : Nat} {P : PL} {pc aux : Nat} {v : Int32} {w : Int64} {L : List (Option Value)} {S : List Value} {σ : MH} {c1 : MC} {Pr : Option Prop} (hPL : PLOK M.2.2.2.2 P) (hE : okE M P (pc, .l2i, aux, v, w)) (h : stp M pc .l2i aux v w L S σ = some (c1, Pr)) (hO : oP Pr) : Go M d (some pc, L, S, σ) c1 := by
  unfold stp at h
  dsimp only at h
  split at h
  · rename_i x S
    cases h
    intro p l e R s m args below meth c w0 A Q C k H locs ls hP hS hl
    exact lv_l2i C.1 C.2.1 hE.1 rfl (k H locs ls hP hS hl)
  · cases h
theorem gs_i2b {M : Mth} {d : Nat} {P : PL} {pc aux : Nat} {v : Int32} {w : Int64} {L : List (Option Value)} {S : List Value} {σ : MH} {c1 : MC} {Pr : Option Prop} (hPL : PLOK M.2.2.2.2 P) (hE : okE M P (pc, .i2b, aux, v, w)) (h : stp M pc .i2b aux v w L S σ = some (c1, Pr)) (hO : oP Pr) : Go M d (some pc, L, S, σ) c1 := by
  unfold stp at h
  dsimp only at h
  split at h
  · rename_i x S
    cases h
    intro p l e R s m args below meth c w0 A Q C k H locs ls hP hS hl
    exact lv_i2b C.1 C.2.1 hE.1 rfl (k H locs ls hP hS hl)
  · cases h
theorem gs_i2c {M : Mth} {d : Nat} {P : PL} {pc aux : Nat} {v : Int32} {w : Int64} {L : List (Option Value)} {S : List Value} {σ : MH} {c1 : MC} {Pr : Option Prop} (hPL : PLOK M.2.2.2.2 P) (hE : okE M P (pc, .i2c, aux, v, w)) (h : stp M pc .i2c aux v w L S σ = some (c1, Pr)) (hO : oP Pr) : Go M d (some pc, L, S, σ) c1 := by
  unfold stp at h
  dsimp only at h
  split at h
  · rename_i x S
    cases h
    intro p l e R s m args below meth c w0 A Q C k H locs ls hP hS hl
    exact lv_i2c C.1 C.2.1 hE.1 rfl (k H locs ls hP hS hl)
  · cases h
theorem gs_dup {M : Mth} {d : Nat} {P : PL} {pc aux : Nat} {v : Int32} {w : Int64} {L : List (Option Value)} {S : List Value} {σ : MH} {c1 : MC} {Pr : Option Prop} (hPL : PLOK M.2.2.2.2 P) (hE : okE M P (pc, .dup, aux, v, w)) (h : stp M pc .dup aux v w L S σ = some (c1, Pr)) (hO : oP Pr) : Go M d (some pc, L, S, σ) c1 := by
  unfold stp at h
  dsimp only at h
  split at h
  · rename_i a S
    split at h
    case isFalse => cases h
    rename_i hI
    cases h
    intro p l e R s m args below meth c w0 A Q C k H locs ls hP hS hl
    exact lv_dup C.1 C.2.1 hE.1 ((mv_cat w0 a).trans (Nat.eq_of_beq_eq_true hI)) (k H locs ls hP hS hl)
  · cases h
theorem gs_pop {M : Mth} {d : Nat} {P : PL} {pc aux : Nat} {v : Int32} {w : Int64} {L : List (Option Value)} {S : List Value} {σ : MH} {c1 : MC} {Pr : Option Prop} (hPL : PLOK M.2.2.2.2 P) (hE : okE M P (pc, .pop, aux, v, w)) (h : stp M pc .pop aux v w L S σ = some (c1, Pr)) (hO : oP Pr) : Go M d (some pc, L, S, σ) c1 := by
  unfold stp at h
  dsimp only at h
  split at h
  · rename_i a S
    split at h
    case isFalse => cases h
    rename_i hI
    cases h
    intro p l e R s m args below meth c w0 A Q C k H locs ls hP hS hl
    exact lv_pop C.1 C.2.1 hE.1 ((mv_cat w0 a).trans (Nat.eq_of_beq_eq_true hI)) (k H locs ls hP hS hl)
  · cases h
theorem gs_dup2 {M : Mth} {d : Nat} {P : PL} {pc aux : Nat} {v : Int32} {w : Int64} {L : List (Option Value)} {S : List Value} {σ : MH} {c1 : MC} {Pr : Option Prop} (hPL : PLOK M.2.2.2.2 P) (hE : okE M P (pc, .dup2, aux, v, w)) (h : stp M pc .dup2 aux v w L S σ = some (c1, Pr)) (hO : oP Pr) : Go M d (some pc, L, S, σ) c1 := by
  unfold stp at h
  dsimp only at h
  split at h
  · rename_i a b S
    split at h
    case isFalse => cases h
    rename_i hI
    cases h
    intro p l e R s m args below meth c w0 A Q C k H locs ls hP hS hl
    exact lv_dup2_11 C.1 C.2.1 hE.1 ((mv_cat w0 a).trans (Nat.eq_of_beq_eq_true (Bool.and_eq_true_iff.mp hI).1)) ((mv_cat w0 b).trans (Nat.eq_of_beq_eq_true (Bool.and_eq_true_iff.mp hI).2)) (k H locs ls hP hS hl)
  · cases h
theorem gs_goto {M : Mth} {d : Nat} {P : PL} {pc aux : Nat} {v : Int32} {w : Int64} {L : List (Option Value)} {S : List Value} {σ : MH} {c1 : MC} {Pr : Option Prop} (hPL : PLOK M.2.2.2.2 P) {off : Int} (hE : okE M P (pc, .goto off, aux, v, w)) (h : stp M pc (.goto off) aux v w L S σ = some (c1, Pr)) (hO : oP Pr) : Go M d (some pc, L, S, σ) c1 := by
  cases h
  intro p l e R s m args below meth c w0 A Q C k H locs ls hP hS hl
  exact lv_goto C.1 C.2.1 hE.1 (of_decide_eq_true hE.2) (k H locs ls hP hS hl)
theorem gs_iaload {M : Mth} {d : Nat} {P : PL} {pc aux : Nat} {v : Int32} {w : Int64} {L : List (Option Value)} {S : List Value} {σ : MH} {c1 : MC} {Pr : Option Prop} (hPL : PLOK M.2.2.2.2 P) (hE : okE M P (pc, .iaload, aux, v, w)) (h : stp M pc .iaload aux v w L S σ = some (c1, Pr)) (hO : oP Pr) : Go M d (some pc, L, S, σ) c1 := by
  unfold stp at h
  dsimp only at h
  split at h
  · rename_i i a S
    cases h
    dsimp only [oP] at hO
    intro p l e R s m args below meth c w0 A Q C k H locs ls hP hS hl
    exact va_iald C.1 C.2.1 C.2.2.2.2.2.1.1 hP a 0 ((wsO_get (shk_lt hO.1.1 (by omega))).trans (by rw [ent_i hO.1.1])) rfl (by rw [hO.1.2]; exact inb_in hO.2) hE.1 (k H locs ls hP hS hl)
  · cases h
theorem gs_baload {M : Mth} {d : Nat} {P : PL} {pc aux : Nat} {v : Int32} {w : Int64} {L : List (Option Value)} {S : List Value} {σ : MH} {c1 : MC} {Pr : Option Prop} (hPL : PLOK M.2.2.2.2 P) (hE : okE M P (pc, .baload, aux, v, w)) (h : stp M pc .baload aux v w L S σ = some (c1, Pr)) (hO : oP Pr) : Go M d (some pc, L, S, σ) c1 := by
  unfold stp at h
  dsimp only at h
  split at h
  · rename_i i a S
    cases h
    dsimp only [oP] at hO
    intro p l e R s m args below meth c w0 A Q C k H locs ls hP hS hl
    exact va_bald C.1 C.2.1 C.2.2.2.2.2.1.1 hP a 2 ((wsO_get (shk_lt hO.1.1 (by omega))).trans (by rw [ent_b hO.1.1])) rfl (by rw [hO.1.2]; exact inb_in hO.2) hE.1 (k H locs ls hP hS hl)
  · cases h
theorem gs_laload {M : Mth} {d : Nat} {P : PL} {pc aux : Nat} {v : Int32} {w : Int64} {L : List (Option Value)} {S : List Value} {σ : MH} {c1 : MC} {Pr : Option Prop} (hPL : PLOK M.2.2.2.2 P) (hE : okE M P (pc, .laload, aux, v, w)) (h : stp M pc .laload aux v w L S σ = some (c1, Pr)) (hO : oP Pr) : Go M d (some pc, L, S, σ) c1 := by
  unfold stp at h
  dsimp only at h
  split at h
  · rename_i i a S
    cases h
    dsimp only [oP] at hO
    intro p l e R s m args below meth c w0 A Q C k H locs ls hP hS hl
    exact va_lald C.1 C.2.1 C.2.2.2.2.2.1.1 hP a 1 ((wsO_get (shk_lt hO.1.1 (by omega))).trans (by rw [ent_j hO.1.1])) rfl (by rw [hO.1.2]; exact inb_in hO.2) hE.1 (k H locs ls hP hS hl)
  · cases h
theorem gs_aaload {M : Mth} {d : Nat} {P : PL} {pc aux : Nat} {v : Int32} {w : Int64} {L : List (Option Value)} {S : List Value} {σ : MH} {c1 : MC} {Pr : Option Prop} (hPL : PLOK M.2.2.2.2 P) (hE : okE M P (pc, .aaload, aux, v, w)) (h : stp M pc .aaload aux v w L S σ = some (c1, Pr)) (hO : oP Pr) : Go M d (some pc, L, S, σ) c1 := by
  unfold stp at h
  dsimp only at h
  split at h
  · rename_i i a S
    cases h
    dsimp only [oP] at hO
    intro p l e R s m args below meth c w0 A Q C k H locs ls hP hS hl
    have hlt : i.toNatClampNeg < aux := Nat.not_le.mp fun q => inb_in hO.2 (Or.inr q)
    have hsh := hO.1.2
    have ha : (wsO w0 σ)[a]? = some (w0.2.2.1 a, .inl (w0.2.1.2.2.2, aux, .inr (.inr (.inr (.inr (fun i => some (w0.2.2.1 (rfv a i)))))))) := (wsO_get (shk_lt hO.1.1 (by omega))).trans (by rw [ent_r hO.1.1, hsh])
    exact W.aald (v := .ref (w0.2.2.1 (rfv a i.toNatClampNeg))) (ty := .array .int) C.1 C.2.1 (hP a _ ha) ((C.2.2.2.2.2.1.1.2 3 _ rfl).1 aux (fun j => .ref (w0.2.2.1 (rfv a j)))) rfl (fun q => by cases q) (by show ¬ (i < 0 ∨ (arrV _ _ _).slots.size ≤ _); rw [arrV_size]; exact inb_in hO.2) (by show (arrV _ _ _).slots[_]? = _; rw [arrV_read _ _ hlt]; rfl) rfl rfl hE.1 (k H locs ls hP hS hl)
  · cases h
theorem gs_iastore {M : Mth} {d : Nat} {P : PL} {pc aux : Nat} {v : Int32} {w : Int64} {L : List (Option Value)} {S : List Value} {σ : MH} {c1 : MC} {Pr : Option Prop} (hPL : PLOK M.2.2.2.2 P) (hE : okE M P (pc, .iastore, aux, v, w)) (h : stp M pc .iastore aux v w L S σ = some (c1, Pr)) (hO : oP Pr) : Go M d (some pc, L, S, σ) c1 := by
  unfold stp at h
  dsimp only at h
  split at h
  · rename_i x i a S
    cases h
    dsimp only [oP] at hO
    intro p l e R s m args below meth c w0 A Q C k H locs ls hP hS hl
    exact va_iast C.1 C.2.1 C.2.2.2.2.2.1.1 hP (va_D_ws C.2.2.2.2.2.2.2.1 C.2.2.2.2.2.2.2.2.1) hS a 0 ((wsO_get (shk_lt hO.1.1 (by omega))).trans (by rw [ent_i hO.1.1])) rfl (by rw [hO.1.2]; exact inb_in hO.2) hE.1 (fun H1 locs1 hP1 _ hS1 => k H1 locs1 ls (by rw [← wsO_sI hO.1.1]; exact hP1) hS1 hl)
  · cases h
theorem gs_bastore {M : Mth} {d : Nat} {P : PL} {pc aux : Nat} {v : Int32} {w : Int64} {L : List (Option Value)} {S : List Value} {σ : MH} {c1 : MC} {Pr : Option Prop} (hPL : PLOK M.2.2.2.2 P) (hE : okE M P (pc, .bastore, aux, v, w)) (h : stp M pc .bastore aux v w L S σ = some (c1, Pr)) (hO : oP Pr) : Go M d (some pc, L, S, σ) c1 := by
  unfold stp at h
  dsimp only at h
  split at h
  · rename_i x i a S
    cases h
    dsimp only [oP] at hO
    intro p l e R s m args below meth c w0 A Q C k H locs ls hP hS hl
    exact va_bast C.1 C.2.1 C.2.2.2.2.2.1.1 hP (va_D_ws C.2.2.2.2.2.2.2.1 C.2.2.2.2.2.2.2.2.1) hS a 2 ((wsO_get (shk_lt hO.1.1 (by omega))).trans (by rw [ent_b hO.1.1])) rfl (by rw [hO.1.2]; exact inb_in hO.2) hE.1 (fun H1 locs1 hP1 _ hS1 => k H1 locs1 ls (by rw [← wsO_sB hO.1.1]; exact hP1) hS1 hl)
  · cases h
theorem gs_lastore {M : Mth} {d : Nat} {P : PL} {pc aux : Nat} {v : Int32} {w : Int64} {L : List (Option Value)} {S : List Value} {σ : MH} {c1 : MC} {Pr : Option Prop} (hPL : PLOK M.2.2.2.2 P) (hE : okE M P (pc, .lastore, aux, v, w)) (h : stp M pc .lastore aux v w L S σ = some (c1, Pr)) (hO : oP Pr) : Go M d (some pc, L, S, σ) c1 := by
  unfold stp at h
  dsimp only at h
  split at h
  · rename_i x i a S
    cases h
    dsimp only [oP] at hO
    intro p l e R s m args below meth c w0 A Q C k H locs ls hP hS hl
    exact va_last C.1 C.2.1 C.2.2.2.2.2.1.1 hP (va_D_ws C.2.2.2.2.2.2.2.1 C.2.2.2.2.2.2.2.2.1) hS a 1 ((wsO_get (shk_lt hO.1.1 (by omega))).trans (by rw [ent_j hO.1.1])) rfl (by rw [hO.1.2]; exact inb_in hO.2) hE.1 (fun H1 locs1 hP1 _ hS1 => k H1 locs1 ls (by rw [← wsO_sJ hO.1.1]; exact hP1) hS1 hl)
  · cases h
theorem gs_alen {M : Mth} {d : Nat} {P : PL} {pc aux : Nat} {v : Int32} {w : Int64} {L : List (Option Value)} {S : List Value} {σ : MH} {c1 : MC} {Pr : Option Prop} (hPL : PLOK M.2.2.2.2 P) (hE : okE M P (pc, .arraylength, aux, v, w)) (h : stp M pc .arraylength aux v w L S σ = some (c1, Pr)) (hO : oP Pr) : Go M d (some pc, L, S, σ) c1 := by
  unfold stp at h
  dsimp only at h
  split at h
  · rename_i a S
    cases h
    dsimp only [oP] at hO
    intro p l e R s m args below meth c w0 A Q C k H locs ls hP hS hl
    exact va_alen C.1 C.2.1 C.2.2.2.2.2.1.1 hP a 0 ((wsO_get (shk_lt hO.1 (by omega))).trans (by rw [ent_i hO.1])) rfl (by rw [hO.2]; exact of_decide_eq_true hE.2) hE.1 (k H locs ls hP hS hl)
  · cases h
theorem gs_getfield {M : Mth} {d : Nat} {P : PL} {pc aux : Nat} {v : Int32} {w : Int64} {L : List (Option Value)} {S : List Value} {σ : MH} {c1 : MC} {Pr : Option Prop} (hPL : PLOK M.2.2.2.2 P) {n : Nat} (hE : okE M P (pc, .getfield n, aux, v, w)) (h : stp M pc (.getfield n) aux v w L S σ = some (c1, Pr)) (hO : oP Pr) : Go M d (some pc, L, S, σ) c1 := by
  unfold stp at h
  dsimp only at h
  split at h
  · rename_i a S
    cases h
    dsimp only [oP] at hO
    intro p l e R s m args below meth c w0 A Q C k H locs ls hP hS hl
    obtain ⟨Cn, T, N, ref, h1, h2, h3, h4, h5, h6, h7, h8, h9, h10, h11⟩ := PL_f hPL hE.2
    have hlt : aux / 64 < 20 := h2
    have hsh := h4 a hO
    have ha : (wsO w0 σ)[a]? = some (w0.2.2.1 a, .inr (aux / 64, entF w0 σ a)) := (wsO_get (shk_lt hO (by omega))).trans (by rw [ent_o hO h2])
    refine va_get (D := w0.1) (ci := aux / 64) (C := Cn) (T := T) (N := N) C.1 C.2.1 C.2.2.2.2.1 h5 C.2.2.2.1 C.2.2.2.2.2.1.1 hP a ha h1 (aux % 64) h3 (C.2.2.2.2.1 _ h6) ?_ (v := mv w0 (if fkr (aux / 64) (aux % 64) = true then .ref (rfv a (aux % 64)) else .int (σ.1 a (aux % 64)))) ?_ hE.1 (k H locs ls hP hS hl)
    · rcases h7 with h7 | h7
      · intro x hx; rw [h7]; exact hx
      · intro x hx; exact u_same (C.2.2.2.2.1 _ h7) x hx
    · rw [entF_get (by rw [hsh]; exact h3), hO]
      split <;> rfl
  · cases h
theorem gs_putfield {M : Mth} {d : Nat} {P : PL} {pc aux : Nat} {v : Int32} {w : Int64} {L : List (Option Value)} {S : List Value} {σ : MH} {c1 : MC} {Pr : Option Prop} (hPL : PLOK M.2.2.2.2 P) {n : Nat} (hE : okE M P (pc, .putfield n, aux, v, w)) (h : stp M pc (.putfield n) aux v w L S σ = some (c1, Pr)) (hO : oP Pr) : Go M d (some pc, L, S, σ) c1 := by
  unfold stp at h
  dsimp only at h
  split at h
  · rename_i x a S
    split at h
    case isFalse => cases h
    rename_i hI
    cases h
    dsimp only [oP] at hO
    intro p l e R s m args below meth c w0 A Q C k H locs ls hP hS hl
    obtain ⟨Cn, T, N, ref, h1, h2, h3, h4, h5, h6, h7, h8, h9, ⟨ty, h10⟩, h11⟩ := PL_f hPL hE.2
    obtain ⟨hI1, hI2⟩ := Bool.and_eq_true_iff.mp hI
    have hO1 : fkr (aux / 64) (aux % 64) = false := by simpa using hI1
    have hO2 : fnl (aux / 64) (aux % 64) = false := by simpa using hI2
    have hO3 : fzr (aux / 64) (aux % 64) = true → bz x = true := fun q => by rw [if_pos q] at hO; exact hO.2
    have hO : shk a = aux / 64 := by
      split at hO
      · exact hO.1
      · exact hO
    have hlt : aux / 64 < 20 := h2
    have hsh := h4 a hO
    have ha : (wsO w0 σ)[a]? = some (w0.2.2.1 a, .inr (aux / 64, entF w0 σ a)) := (wsO_get (shk_lt hO (by omega))).trans (by rw [ent_o hO h2])
    have hnf : narrow (if fzr (aux / 64) (aux % 64) = true then .boolean else .int) (.int x) = .int x ∧ fits (if fzr (aux / 64) (aux % 64) = true then .boolean else .int) (.int x) = true := by
      by_cases hz : fzr (aux / 64) (aux % 64) = true
      · rw [if_pos hz]
        have hx := hO3 hz
        unfold bz at hx
        simp only [Bool.or_eq_true, beq_iff_eq] at hx
        rcases hx with rfl | rfl <;> exact ⟨by decide, by decide⟩
      · rw [if_neg hz]
        exact ⟨rfl, rfl⟩
    refine va_put (D := w0.1) (ci := aux / 64) (C := Cn) (T := T) (N := N) C.1 C.2.1 C.2.2.2.2.1 h5 ty h10 h11 C.2.2.2.1 C.2.2.2.2.2.1.1 hP (va_D_ws C.2.2.2.2.2.2.2.1 C.2.2.2.2.2.2.2.2.1) hS a ha h1 (aux % 64) h3 (C.2.2.2.2.1 _ h6) ?_ (h8.symm.trans hO2) (h9 hO1) hnf.1 hnf.2 (by simp [entF]; rw [hsh]; exact h3) hE.1 (fun H1 locs1 hP1 _ hS1 => k H1 locs1 ls (by rw [← wsO_sF hO h2 (by rw [hsh]; exact h3) hO1]; exact hP1) hS1 hl)
    rcases h7 with h7 | h7
    · intro x hx; rw [h7]; exact hx
    · intro x hx; exact u_same (C.2.2.2.2.1 _ h7) x hx
  · cases h
theorem gs_istore {M : Mth} {d : Nat} {P : PL} {pc aux : Nat} {v : Int32} {w : Int64} {L : List (Option Value)} {S : List Value} {σ : MH} {c1 : MC} {Pr : Option Prop} (hPL : PLOK M.2.2.2.2 P) {n : Nat} (hE : okE M P (pc, .istore n, aux, v, w)) (h : stp M pc (.istore n) aux v w L S σ = some (c1, Pr)) (hO : oP Pr) : Go M d (some pc, L, S, σ) c1 := by
  unfold stp at h
  dsimp only at h
  split at h
  · rename_i x S
    split at h
    case isFalse => cases h
    rename_i hI
    cases h
    intro p l e R s m args below meth c w0 A Q C k H locs ls hP hS hl
    obtain ⟨ls', e', h'⟩ := lvm_st1 (v := .int x) hl (blt_lt (Bool.and_eq_true_iff.mp hI).1) rfl (Bool.and_eq_true_iff.mp hI).2
    have hE1 := hE.1
    have hx := C.1
    have hb := C.2.1
    intro T hT X
    obtain ⟨t, a1, b1⟩ := k H locs ls' hP hS h' T hT X
    refine ⟨t, ?_, b1⟩
    dsimp only at hE1
    simp only [mv, List.map_cons] at e' ⊢
    jvm_step X.here [X.here.top, ↓top_set X.here.top, hx, hb, hE1, e', Value.isRef, ilen]
    exact a1
  · cases h
theorem gs_istoren {M : Mth} {d : Nat} {P : PL} {pc aux : Nat} {v : Int32} {w : Int64} {L : List (Option Value)} {S : List Value} {σ : MH} {c1 : MC} {Pr : Option Prop} (hPL : PLOK M.2.2.2.2 P) {n : Fin 4} (hE : okE M P (pc, .istore_n n, aux, v, w)) (h : stp M pc (.istore_n n) aux v w L S σ = some (c1, Pr)) (hO : oP Pr) : Go M d (some pc, L, S, σ) c1 := by
  unfold stp at h
  dsimp only at h
  split at h
  · rename_i x S
    split at h
    case isFalse => cases h
    rename_i hI
    cases h
    intro p l e R s m args below meth c w0 A Q C k H locs ls hP hS hl
    obtain ⟨ls', e', h'⟩ := lvm_st1 (v := .int x) hl (blt_lt (Bool.and_eq_true_iff.mp hI).1) rfl (Bool.and_eq_true_iff.mp hI).2
    have hE1 := hE.1
    have hx := C.1
    have hb := C.2.1
    intro T hT X
    obtain ⟨t, a1, b1⟩ := k H locs ls' hP hS h' T hT X
    refine ⟨t, ?_, b1⟩
    dsimp only at hE1
    simp only [mv, List.map_cons] at e' ⊢
    jvm_step X.here [X.here.top, ↓top_set X.here.top, hx, hb, hE1, e', Value.isRef, ilen]
    exact a1
  · cases h
theorem gs_astore {M : Mth} {d : Nat} {P : PL} {pc aux : Nat} {v : Int32} {w : Int64} {L : List (Option Value)} {S : List Value} {σ : MH} {c1 : MC} {Pr : Option Prop} (hPL : PLOK M.2.2.2.2 P) {n : Nat} (hE : okE M P (pc, .astore n, aux, v, w)) (h : stp M pc (.astore n) aux v w L S σ = some (c1, Pr)) (hO : oP Pr) : Go M d (some pc, L, S, σ) c1 := by
  unfold stp at h
  dsimp only at h
  split at h
  · rename_i x S
    split at h
    case isFalse => cases h
    rename_i hI
    cases h
    intro p l e R s m args below meth c w0 A Q C k H locs ls hP hS hl
    obtain ⟨ls', e', h'⟩ := lvm_st1 (v := .ref x) hl (blt_lt (Bool.and_eq_true_iff.mp hI).1) rfl (Bool.and_eq_true_iff.mp hI).2
    have hE1 := hE.1
    have hx := C.1
    have hb := C.2.1
    intro T hT X
    obtain ⟨t, a1, b1⟩ := k H locs ls' hP hS h' T hT X
    refine ⟨t, ?_, b1⟩
    dsimp only at hE1
    simp only [mv, List.map_cons] at e' ⊢
    jvm_step X.here [X.here.top, ↓top_set X.here.top, hx, hb, hE1, e', Value.isRef, ilen]
    exact a1
  · cases h
theorem gs_astoren {M : Mth} {d : Nat} {P : PL} {pc aux : Nat} {v : Int32} {w : Int64} {L : List (Option Value)} {S : List Value} {σ : MH} {c1 : MC} {Pr : Option Prop} (hPL : PLOK M.2.2.2.2 P) {n : Fin 4} (hE : okE M P (pc, .astore_n n, aux, v, w)) (h : stp M pc (.astore_n n) aux v w L S σ = some (c1, Pr)) (hO : oP Pr) : Go M d (some pc, L, S, σ) c1 := by
  unfold stp at h
  dsimp only at h
  split at h
  · rename_i x S
    split at h
    case isFalse => cases h
    rename_i hI
    cases h
    intro p l e R s m args below meth c w0 A Q C k H locs ls hP hS hl
    obtain ⟨ls', e', h'⟩ := lvm_st1 (v := .ref x) hl (blt_lt (Bool.and_eq_true_iff.mp hI).1) rfl (Bool.and_eq_true_iff.mp hI).2
    have hE1 := hE.1
    have hx := C.1
    have hb := C.2.1
    intro T hT X
    obtain ⟨t, a1, b1⟩ := k H locs ls' hP hS h' T hT X
    refine ⟨t, ?_, b1⟩
    dsimp only at hE1
    simp only [mv, List.map_cons] at e' ⊢
    jvm_step X.here [X.here.top, ↓top_set X.here.top, hx, hb, hE1, e', Value.isRef, ilen]
    exact a1
  · cases h
theorem gs_lstore {M : Mth} {d : Nat} {P : PL} {pc aux : Nat} {v : Int32} {w : Int64} {L : List (Option Value)} {S : List Value} {σ : MH} {c1 : MC} {Pr : Option Prop} (hPL : PLOK M.2.2.2.2 P) {n : Nat} (hE : okE M P (pc, .lstore n, aux, v, w)) (h : stp M pc (.lstore n) aux v w L S σ = some (c1, Pr)) (hO : oP Pr) : Go M d (some pc, L, S, σ) c1 := by
  unfold stp at h
  dsimp only at h
  split at h
  · rename_i x S
    split at h
    case isFalse => cases h
    rename_i hI
    cases h
    intro p l e R s m args below meth c w0 A Q C k H locs ls hP hS hl
    obtain ⟨ls', e', h'⟩ := lvm_st2 (v := .long x) hl (blt_lt (Bool.and_eq_true_iff.mp hI).1) rfl (Bool.and_eq_true_iff.mp hI).2
    have hE1 := hE.1
    have hx := C.1
    have hb := C.2.1
    intro T hT X
    obtain ⟨t, a1, b1⟩ := k H locs ls' hP hS h' T hT X
    refine ⟨t, ?_, b1⟩
    dsimp only at hE1
    simp only [mv, List.map_cons] at e' ⊢
    jvm_step X.here [X.here.top, ↓top_set X.here.top, hx, hb, hE1, e', ilen]
    exact a1
  · cases h
theorem gs_lstoren {M : Mth} {d : Nat} {P : PL} {pc aux : Nat} {v : Int32} {w : Int64} {L : List (Option Value)} {S : List Value} {σ : MH} {c1 : MC} {Pr : Option Prop} (hPL : PLOK M.2.2.2.2 P) {n : Fin 4} (hE : okE M P (pc, .lstore_n n, aux, v, w)) (h : stp M pc (.lstore_n n) aux v w L S σ = some (c1, Pr)) (hO : oP Pr) : Go M d (some pc, L, S, σ) c1 := by
  unfold stp at h
  dsimp only at h
  split at h
  · rename_i x S
    split at h
    case isFalse => cases h
    rename_i hI
    cases h
    intro p l e R s m args below meth c w0 A Q C k H locs ls hP hS hl
    obtain ⟨ls', e', h'⟩ := lvm_st2 (v := .long x) hl (blt_lt (Bool.and_eq_true_iff.mp hI).1) rfl (Bool.and_eq_true_iff.mp hI).2
    have hE1 := hE.1
    have hx := C.1
    have hb := C.2.1
    intro T hT X
    obtain ⟨t, a1, b1⟩ := k H locs ls' hP hS h' T hT X
    refine ⟨t, ?_, b1⟩
    dsimp only at hE1
    simp only [mv, List.map_cons] at e' ⊢
    jvm_step X.here [X.here.top, ↓top_set X.here.top, hx, hb, hE1, e', ilen]
    exact a1
  · cases h
theorem gs_iinc {M : Mth} {d : Nat} {P : PL} {pc aux : Nat} {v : Int32} {w : Int64} {L : List (Option Value)} {S : List Value} {σ : MH} {c1 : MC} {Pr : Option Prop} (hPL : PLOK M.2.2.2.2 P) {n : Nat} {q : Int} (hE : okE M P (pc, .iinc n q, aux, v, w)) (h : stp M pc (.iinc n q) aux v w L S σ = some (c1, Pr)) (hO : oP Pr) : Go M d (some pc, L, S, σ) c1 := by
  unfold stp at h
  dsimp only at h
  split at h
  · rename_i x hm
    split at h
    case isFalse => cases h
    rename_i hI
    cases h
    intro p l e R s m args below meth c w0 A Q C k H locs ls hP hS hl
    obtain ⟨ls', e', h'⟩ := lvm_st1 (v := .int (x + v)) hl (blt_lt (Bool.and_eq_true_iff.mp hI).1) rfl (Bool.and_eq_true_iff.mp hI).2
    have hg := lvm_get hl hm
    have hE1 := hE.1
    have hv : Int32.ofInt q = v := of_decide_eq_true hE.2
    have hx := C.1
    have hb := C.2.1
    intro T hT X
    obtain ⟨t, a1, b1⟩ := k H locs ls' hP hS h' T hT X
    refine ⟨t, ?_, b1⟩
    subst hv
    dsimp only at hE1
    simp only [mv] at e' hg ⊢
    jvm_step X.here [X.here.top, ↓top_set X.here.top, hx, hb, hE1, hg, e', ilen]
    exact a1
  · cases h
/-- one instruction -/
theorem stp_ok {M : Mth} {d : Nat} {P : PL} {pc aux : Nat} {v : Int32} {w : Int64} {L : List (Option Value)} {S : List Value} {σ : MH} {c1 : MC} {Pr : Option Prop} (hPL : PLOK M.2.2.2.2 P) {I : Instr} (hE : okE M P (pc, I, aux, v, w)) (h : stp M pc I aux v w L S σ = some (c1, Pr)) (hO : oP Pr) : Go M d (some pc, L, S, σ) c1 := by
  cases I with
  | iconst _ => exact gs_iconst hPL hE h hO
  | bipush _ => exact gs_bipush hPL hE h hO
  | sipush _ => exact gs_sipush hPL hE h hO
  | ldc _ => exact gs_ldc hPL hE h hO
  | ldc_w _ => exact gs_ldcw hPL hE h hO
  | ldc2_w _ => exact gs_ldc2 hPL hE h hO
  | lconst _ => exact gs_lconst hPL hE h hO
  | aconst_null => exact gs_null hPL hE h hO
  | iload _ => exact gs_iload hPL hE h hO
  | iload_n _ => exact gs_iloadn hPL hE h hO
  | lload _ => exact gs_lload hPL hE h hO
  | lload_n _ => exact gs_lloadn hPL hE h hO
  | aload _ => exact gs_aload hPL hE h hO
  | aload_n _ => exact gs_aloadn hPL hE h hO
  | iadd => exact gs_iadd hPL hE h hO
  | isub => exact gs_isub hPL hE h hO
  | imul => exact gs_imul hPL hE h hO
  | iand => exact gs_iand hPL hE h hO
  | ior => exact gs_ior hPL hE h hO
  | ixor => exact gs_ixor hPL hE h hO
  | ishl => exact gs_ishl hPL hE h hO
  | ishr => exact gs_ishr hPL hE h hO
  | iushr => exact gs_iushr hPL hE h hO
  | idiv => exact gs_idiv hPL hE h hO
  | irem => exact gs_irem hPL hE h hO
  | ladd => exact gs_ladd hPL hE h hO
  | lsub => exact gs_lsub hPL hE h hO
  | lmul => exact gs_lmul hPL hE h hO
  | ldiv => exact gs_ldiv hPL hE h hO
  | lrem => exact gs_lrem hPL hE h hO
  | lcmp => exact gs_lcmp hPL hE h hO
  | ineg => exact gs_ineg hPL hE h hO
  | i2l => exact gs_i2l hPL hE h hO
  | l2i => exact gs_l2i hPL hE h hO
  | i2b => exact gs_i2b hPL hE h hO
  | i2c => exact gs_i2c hPL hE h hO
  | dup => exact gs_dup hPL hE h hO
  | pop => exact gs_pop hPL hE h hO
  | dup2 => exact gs_dup2 hPL hE h hO
  | goto _ => exact gs_goto hPL hE h hO
  | iaload => exact gs_iaload hPL hE h hO
  | baload => exact gs_baload hPL hE h hO
  | laload => exact gs_laload hPL hE h hO
  | aaload => exact gs_aaload hPL hE h hO
  | iastore => exact gs_iastore hPL hE h hO
  | bastore => exact gs_bastore hPL hE h hO
  | lastore => exact gs_lastore hPL hE h hO
  | arraylength => exact gs_alen hPL hE h hO
  | getfield _ => exact gs_getfield hPL hE h hO
  | putfield _ => exact gs_putfield hPL hE h hO
  | istore _ => exact gs_istore hPL hE h hO
  | istore_n _ => exact gs_istoren hPL hE h hO
  | astore _ => exact gs_astore hPL hE h hO
  | astore_n _ => exact gs_astoren hPL hE h hO
  | lstore _ => exact gs_lstore hPL hE h hO
  | lstore_n _ => exact gs_lstoren hPL hE h hO
  | iinc _ _ => exact gs_iinc hPL hE h hO
  | _ => exact absurd h (by simp [stp])
end
section
/-! RUNS OF STRAIGHT CODE, BRANCHES, ENDS, CALLS, LOOPS of the small machine -/
def aP : List Prop → Prop
  | [] => True
  | p :: r => p ∧ aP r
def sgO : Option Prop → List Prop → List Prop
  | none, ps => ps
  | some p, ps => p :: ps
theorem sgO_p {o : Option Prop} {ps : List Prop} (h : aP (sgO o ps)) : oP o ∧ aP ps := by
  cases o with
  | none => exact ⟨trivial, h⟩
  | some p => exact h
def sg (M : Mth) : List ME → Nat → MC → Option (MC × List Prop)
  | _, 0, c => some (c, [])
  | [], _ + 1, _ => none
  | _ :: _, _ + 1, (none, _, _, _) => none
  | E :: r, n + 1, (some pc, L, S, σ) => match Nat.beq pc E.1 with
    | true => match stp M E.1 E.2.1 E.2.2.1 E.2.2.2.1 E.2.2.2.2 L S σ with
      | some (c1, o) => match sg M r n c1 with
        | some (c2, ps) => some (c2, sgO o ps)
        | none => none
      | none => none
    | false => none
theorem sg_ok {M : Mth} {d : Nat} {P : PL} (hPL : PLOK M.2.2.2.2 P) : ∀ (cd : List ME) (n : Nat) (c1 c2 : MC) (ps : List Prop), (∀ E ∈ cd, okE M P E) → sg M cd n c1 = some (c2, ps) → aP ps → Go M d c1 c2 := by
  intro cd
  induction cd with
  | nil =>
    intro n c1 c2 ps _ h _
    cases n with
    | zero => cases h; exact Go.rf
    | succ n => cases h
  | cons E r ih =>
    intro n c1 c2 ps hE h hp
    cases n with
    | zero => cases h; exact Go.rf
    | succ n =>
      obtain ⟨o, L, S, σ⟩ := c1
      cases o with
      | none => cases h
      | some pc =>
        unfold sg at h
        split at h
        · rename_i hb
          have hpc := Nat.eq_of_beq_eq_true hb
          subst hpc
          split at h
          · rename_i c1' o' hst
            split at h
            · rename_i c2' ps' hsg
              cases h
              obtain ⟨h1, h2⟩ := sgO_p hp
              exact Go.t (stp_ok hPL (hE E List.mem_cons_self) hst h1) (ih n c1' c2 ps' (fun F hF => hE F (List.mem_cons_of_mem _ hF)) hsg h2)
            · cases h
          · cases h
        · cases h
theorem Go_sg {M : Mth} {d : Nat} {cd : List ME} (b : BK M cd) (i n : Nat) {c1 c2 : MC} {ps : List Prop} (h : sg M (cd.drop i) n c1 = some (c2, ps)) (hp : aP ps) : Go M d c1 c2 := by
  obtain ⟨P, hPL, hcd⟩ := b
  exact sg_ok hPL (cd.drop i) n c1 c2 ps (fun E hE => hcd E (List.mem_of_mem_drop hE)) h hp
theorem BK_at {M : Mth} {cd : List ME} (b : BK M cd) {i : Nat} {E : ME} (h : (cd.drop i).head? = some E) : ∃ P, PLOK M.2.2.2.2 P ∧ okE M P E := by
  obtain ⟨P, hPL, hcd⟩ := b
  refine ⟨P, hPL, hcd E (List.mem_of_mem_drop (i := i) ?_)⟩
  cases q : cd.drop i with
  | nil => rw [q] at h; cases h
  | cons x r => rw [q] at h; cases h; exact List.mem_cons_self
section BR
variable {M : Mth} {d : Nat} {cd : List ME} {pc aux : Nat} {v : Int32} {w : Int64} {off : Int} {L : List (Option Value)} {S : List Value} {σ : MH} {x y : Int32} {c1 : MC}
theorem Go_icmp_eq (b : BK M cd) (i : Nat) (hE : (cd.drop i).head? = some (pc, .if_icmp .eq off, aux, v, w)) (kt : x = y → Go M d (some aux, L, S, σ) c1) (kf : ¬ x = y → Go M d (some (pc + 3), L, S, σ) c1) : Go M d (some pc, L, .int y :: .int x :: S, σ) c1 := by
  obtain ⟨P, hPL, h1, h2⟩ := BK_at b hE
  intro p l e R s m args below meth c w0 A Q C k H locs ls hP hS hl
  exact lv_icmp_eq C.1 C.2.1 h1 (of_decide_eq_true h2) (fun q => kt q p l e R s m args below meth c w0 A Q C k H locs ls hP hS hl) (fun q => kf q p l e R s m args below meth c w0 A Q C k H locs ls hP hS hl)
theorem Go_icmp_ne (b : BK M cd) (i : Nat) (hE : (cd.drop i).head? = some (pc, .if_icmp .ne off, aux, v, w)) (kt : x ≠ y → Go M d (some aux, L, S, σ) c1) (kf : x = y → Go M d (some (pc + 3), L, S, σ) c1) : Go M d (some pc, L, .int y :: .int x :: S, σ) c1 := by
  obtain ⟨P, hPL, h1, h2⟩ := BK_at b hE
  intro p l e R s m args below meth c w0 A Q C k H locs ls hP hS hl
  exact lv_icmp_ne C.1 C.2.1 h1 (of_decide_eq_true h2) (fun q => kt q p l e R s m args below meth c w0 A Q C k H locs ls hP hS hl) (fun q => kf q p l e R s m args below meth c w0 A Q C k H locs ls hP hS hl)
theorem Go_icmp_lt (b : BK M cd) (i : Nat) (hE : (cd.drop i).head? = some (pc, .if_icmp .lt off, aux, v, w)) (kt : x < y → Go M d (some aux, L, S, σ) c1) (kf : ¬ x < y → Go M d (some (pc + 3), L, S, σ) c1) : Go M d (some pc, L, .int y :: .int x :: S, σ) c1 := by
  obtain ⟨P, hPL, h1, h2⟩ := BK_at b hE
  intro p l e R s m args below meth c w0 A Q C k H locs ls hP hS hl
  exact lv_icmp_lt C.1 C.2.1 h1 (of_decide_eq_true h2) (fun q => kt q p l e R s m args below meth c w0 A Q C k H locs ls hP hS hl) (fun q => kf q p l e R s m args below meth c w0 A Q C k H locs ls hP hS hl)
theorem Go_icmp_ge (b : BK M cd) (i : Nat) (hE : (cd.drop i).head? = some (pc, .if_icmp .ge off, aux, v, w)) (kt : y ≤ x → Go M d (some aux, L, S, σ) c1) (kf : ¬ y ≤ x → Go M d (some (pc + 3), L, S, σ) c1) : Go M d (some pc, L, .int y :: .int x :: S, σ) c1 := by
  obtain ⟨P, hPL, h1, h2⟩ := BK_at b hE
  intro p l e R s m args below meth c w0 A Q C k H locs ls hP hS hl
  exact lv_icmp_ge C.1 C.2.1 h1 (of_decide_eq_true h2) (fun q => kt q p l e R s m args below meth c w0 A Q C k H locs ls hP hS hl) (fun q => kf q p l e R s m args below meth c w0 A Q C k H locs ls hP hS hl)
theorem Go_icmp_gt (b : BK M cd) (i : Nat) (hE : (cd.drop i).head? = some (pc, .if_icmp .gt off, aux, v, w)) (kt : y < x → Go M d (some aux, L, S, σ) c1) (kf : ¬ y < x → Go M d (some (pc + 3), L, S, σ) c1) : Go M d (some pc, L, .int y :: .int x :: S, σ) c1 := by
  obtain ⟨P, hPL, h1, h2⟩ := BK_at b hE
  intro p l e R s m args below meth c w0 A Q C k H locs ls hP hS hl
  exact lv_icmp_gt C.1 C.2.1 h1 (of_decide_eq_true h2) (fun q => kt q p l e R s m args below meth c w0 A Q C k H locs ls hP hS hl) (fun q => kf q p l e R s m args below meth c w0 A Q C k H locs ls hP hS hl)
theorem Go_icmp_le (b : BK M cd) (i : Nat) (hE : (cd.drop i).head? = some (pc, .if_icmp .le off, aux, v, w)) (kt : x ≤ y → Go M d (some aux, L, S, σ) c1) (kf : ¬ x ≤ y → Go M d (some (pc + 3), L, S, σ) c1) : Go M d (some pc, L, .int y :: .int x :: S, σ) c1 := by
  obtain ⟨P, hPL, h1, h2⟩ := BK_at b hE
  intro p l e R s m args below meth c w0 A Q C k H locs ls hP hS hl
  exact lv_icmp_le C.1 C.2.1 h1 (of_decide_eq_true h2) (fun q => kt q p l e R s m args below meth c w0 A Q C k H locs ls hP hS hl) (fun q => kf q p l e R s m args below meth c w0 A Q C k H locs ls hP hS hl)
theorem Go_if_eq (b : BK M cd) (i : Nat) (hE : (cd.drop i).head? = some (pc, .ifCond .eq off, aux, v, w)) (kt : x = 0 → Go M d (some aux, L, S, σ) c1) (kf : ¬ x = 0 → Go M d (some (pc + 3), L, S, σ) c1) : Go M d (some pc, L, .int x :: S, σ) c1 := by
  obtain ⟨P, hPL, h1, h2⟩ := BK_at b hE
  intro p l e R s m args below meth c w0 A Q C k H locs ls hP hS hl
  exact lv_if_eq C.1 C.2.1 h1 (of_decide_eq_true h2) (fun q => kt q p l e R s m args below meth c w0 A Q C k H locs ls hP hS hl) (fun q => kf q p l e R s m args below meth c w0 A Q C k H locs ls hP hS hl)
theorem Go_if_ne (b : BK M cd) (i : Nat) (hE : (cd.drop i).head? = some (pc, .ifCond .ne off, aux, v, w)) (kt : x ≠ 0 → Go M d (some aux, L, S, σ) c1) (kf : x = 0 → Go M d (some (pc + 3), L, S, σ) c1) : Go M d (some pc, L, .int x :: S, σ) c1 := by
  obtain ⟨P, hPL, h1, h2⟩ := BK_at b hE
  intro p l e R s m args below meth c w0 A Q C k H locs ls hP hS hl
  exact lv_if_ne C.1 C.2.1 h1 (of_decide_eq_true h2) (fun q => kt q p l e R s m args below meth c w0 A Q C k H locs ls hP hS hl) (fun q => kf q p l e R s m args below meth c w0 A Q C k H locs ls hP hS hl)
theorem Go_if_lt (b : BK M cd) (i : Nat) (hE : (cd.drop i).head? = some (pc, .ifCond .lt off, aux, v, w)) (kt : x < 0 → Go M d (some aux, L, S, σ) c1) (kf : ¬ x < 0 → Go M d (some (pc + 3), L, S, σ) c1) : Go M d (some pc, L, .int x :: S, σ) c1 := by
  obtain ⟨P, hPL, h1, h2⟩ := BK_at b hE
  intro p l e R s m args below meth c w0 A Q C k H locs ls hP hS hl
  exact lv_if_lt C.1 C.2.1 h1 (of_decide_eq_true h2) (fun q => kt q p l e R s m args below meth c w0 A Q C k H locs ls hP hS hl) (fun q => kf q p l e R s m args below meth c w0 A Q C k H locs ls hP hS hl)
theorem Go_if_ge (b : BK M cd) (i : Nat) (hE : (cd.drop i).head? = some (pc, .ifCond .ge off, aux, v, w)) (kt : 0 ≤ x → Go M d (some aux, L, S, σ) c1) (kf : ¬ 0 ≤ x → Go M d (some (pc + 3), L, S, σ) c1) : Go M d (some pc, L, .int x :: S, σ) c1 := by
  obtain ⟨P, hPL, h1, h2⟩ := BK_at b hE
  intro p l e R s m args below meth c w0 A Q C k H locs ls hP hS hl
  exact lv_if_ge C.1 C.2.1 h1 (of_decide_eq_true h2) (fun q => kt q p l e R s m args below meth c w0 A Q C k H locs ls hP hS hl) (fun q => kf q p l e R s m args below meth c w0 A Q C k H locs ls hP hS hl)
theorem Go_if_gt (b : BK M cd) (i : Nat) (hE : (cd.drop i).head? = some (pc, .ifCond .gt off, aux, v, w)) (kt : 0 < x → Go M d (some aux, L, S, σ) c1) (kf : ¬ 0 < x → Go M d (some (pc + 3), L, S, σ) c1) : Go M d (some pc, L, .int x :: S, σ) c1 := by
  obtain ⟨P, hPL, h1, h2⟩ := BK_at b hE
  intro p l e R s m args below meth c w0 A Q C k H locs ls hP hS hl
  exact lv_if_gt C.1 C.2.1 h1 (of_decide_eq_true h2) (fun q => kt q p l e R s m args below meth c w0 A Q C k H locs ls hP hS hl) (fun q => kf q p l e R s m args below meth c w0 A Q C k H locs ls hP hS hl)
theorem Go_if_le (b : BK M cd) (i : Nat) (hE : (cd.drop i).head? = some (pc, .ifCond .le off, aux, v, w)) (kt : x ≤ 0 → Go M d (some aux, L, S, σ) c1) (kf : ¬ x ≤ 0 → Go M d (some (pc + 3), L, S, σ) c1) : Go M d (some pc, L, .int x :: S, σ) c1 := by
  obtain ⟨P, hPL, h1, h2⟩ := BK_at b hE
  intro p l e R s m args below meth c w0 A Q C k H locs ls hP hS hl
  exact lv_if_le C.1 C.2.1 h1 (of_decide_eq_true h2) (fun q => kt q p l e R s m args below meth c w0 A Q C k H locs ls hP hS hl) (fun q => kf q p l e R s m args below meth c w0 A Q C k H locs ls hP hS hl)
theorem Go_nn_r (b : BK M cd) (i : Nat) {a : Nat} (hE : (cd.drop i).head? = some (pc, .ifnonnull off, aux, v, w)) : Go M d (some pc, L, .ref a :: S, σ) (some aux, L, S, σ) := by
  obtain ⟨P, hPL, h1, h2⟩ := BK_at b hE
  intro p l e R s m args below meth c w0 A Q C k H locs ls hP hS hl
  exact lv_ifnonnull C.1 C.2.1 h1 (of_decide_eq_true h2) (k H locs ls hP hS hl)
theorem Go_nn_n (b : BK M cd) (i : Nat) (hE : (cd.drop i).head? = some (pc, .ifnonnull off, aux, v, w)) : Go M d (some pc, L, .null :: S, σ) (some (pc + 3), L, S, σ) := by
  obtain ⟨P, hPL, h1, h2⟩ := BK_at b hE
  intro p l e R s m args below meth c w0 A Q C k H locs ls hP hS hl
  exact lv_ifnonnullN C.1 C.2.1 h1 (k H locs ls hP hS hl)
theorem Go_nu_r (b : BK M cd) (i : Nat) {a : Nat} (hE : (cd.drop i).head? = some (pc, .ifnull off, aux, v, w)) : Go M d (some pc, L, .ref a :: S, σ) (some (pc + 3), L, S, σ) := by
  obtain ⟨P, hPL, h1, h2⟩ := BK_at b hE
  intro p l e R s m args below meth c w0 A Q C k H locs ls hP hS hl
  exact lv_ifnull C.1 C.2.1 h1 (k H locs ls hP hS hl)
theorem Go_nu_n (b : BK M cd) (i : Nat) (hE : (cd.drop i).head? = some (pc, .ifnull off, aux, v, w)) : Go M d (some pc, L, .null :: S, σ) (some aux, L, S, σ) := by
  obtain ⟨P, hPL, h1, h2⟩ := BK_at b hE
  intro p l e R s m args below meth c w0 A Q C k H locs ls hP hS hl
  exact lv_ifnullN C.1 C.2.1 h1 (of_decide_eq_true h2) (k H locs ls hP hS hl)
theorem Go_ret0 (b : BK M cd) (i : Nat) (hE : (cd.drop i).head? = some (pc, .return_, aux, v, w)) : Go M d (some pc, L, [], σ) (none, [], [], σ) := by
  obtain ⟨P, hPL, h1, h2⟩ := BK_at b hE
  intro p l e R s m args below meth c w0 A Q C k H locs ls hP hS hl
  exact k H locs ls pc hP hS (Or.inl ⟨rfl, h1⟩)
theorem Go_reti (b : BK M cd) (i : Nat) (hE : (cd.drop i).head? = some (pc, .ireturn, aux, v, w)) : Go M d (some pc, L, [.int x], σ) (none, [], [.int x], σ) := by
  obtain ⟨P, hPL, h1, h2⟩ := BK_at b hE
  intro p l e R s m args below meth c w0 A Q C k H locs ls hP hS hl
  exact k H locs ls pc hP hS (Or.inr (Or.inl ⟨x, rfl, h1⟩))
theorem Go_retl {z : Int64} (b : BK M cd) (i : Nat) (hE : (cd.drop i).head? = some (pc, .lreturn, aux, v, w)) : Go M d (some pc, L, [.long z], σ) (none, [], [.long z], σ) := by
  obtain ⟨P, hPL, h1, h2⟩ := BK_at b hE
  intro p l e R s m args below meth c w0 A Q C k H locs ls hP hS hl
  exact k H locs ls pc hP hS (Or.inr (Or.inr ⟨z, rfl, h1⟩))
theorem Go_tsi {dflt lo hi : Int} {offs : Array Int} {len tgt : Nat} {off : Int} (hd : decode M.2.1 pc = .ok (.tableswitch dflt lo hi offs, len)) (h1 : ¬ x.toInt < lo) (h2 : ¬ hi < x.toInt) (ho : offs[(x.toInt - lo).toNat]? = some off) (ht : (pc : Int) + off = (tgt : Int)) : Go M d (some pc, L, .int x :: S, σ) (some tgt, L, S, σ) := by
  intro p l e R s m args below meth c w0 A Q C k H locs ls hP hS hl
  exact lv_tableIn C.1 C.2.1 hd h1 h2 ho ht (k H locs ls hP hS hl)
theorem Go_tso {dflt lo hi : Int} {offs : Array Int} {len tgt : Nat} (hd : decode M.2.1 pc = .ok (.tableswitch dflt lo hi offs, len)) (h : x.toInt < lo ∨ hi < x.toInt) (ht : (pc : Int) + dflt = (tgt : Int)) : Go M d (some pc, L, .int x :: S, σ) (some tgt, L, S, σ) := by
  intro p l e R s m args below meth c w0 A Q C k H locs ls hP hS hl
  exact lv_tableOut C.1 C.2.1 hd h ht (k H locs ls hP hS hl)
end BR
/-! loops: again and again till there is an answer -/
def itr {S R : Type} (f : S → Option (S ⊕ R)) : Nat → S → Option R
  | 0, _ => none
  | n + 1, s => match f s with
    | none => none
    | some (.inl s') => itr f n s'
    | some (.inr r) => some r
def cS {S R : Type} (a : S → MC) (b : R → MC) : S ⊕ R → MC
  | .inl s => a s
  | .inr r => b r
theorem Go_itr {S R : Type} {M : Mth} {d : Nat} {f : S → Option (S ⊕ R)} {a : S → MC} {b : R → MC} (h : ∀ s o, f s = some o → Go M d (a s) (cS a b o)) : ∀ (n : Nat) (s : S) (r : R), itr f n s = some r → Go M d (a s) (b r) := by
  intro n
  induction n with
  | zero => intro s r q; cases q
  | succ n ih =>
    intro s r q
    unfold itr at q
    split at q
    · cases q
    · rename_i s' hf
      exact Go.t (h s _ hf) (ih s' r q)
    · rename_i r' hf
      cases q
      exact h s _ hf
/-! calls -/
section CALL
variable {p : Program} {l : Launch} {e : Env} {R : Room} {s : State} {m : MethodId} {args : Array Value} {below : List Frame} {meth : Method} {c : Code} {H : Heap} {locs : List Loc} {Q : State → Prop}
variable {pc : Nat} {ls : Array Slot} {rest st0 : List Value} {A0 A1 : Nat → Prop} {H0 : Heap} {free : Addr → Prop}
theorem W_call {rv : Option Value} {PP : State → Prop} (hr : va_Run p l e R s m args below meth c H locs 0 0 0 0 (F0 m pc ls st0) rest (fun st o t => (o = .returned rv ∧ PP t) ∧ va_F A1 st t) free) (hS : va_S A0 H0 H locs) (hA : ∀ q, q < H.size → A1 q → A0 q) (hf : ∀ q, free q → A0 q)
    (kk : ∀ (t : State) (H1 : Heap) (locs1 : List Loc), t.heap = H1 → PP t → va_S A0 H0 H1 locs1 → W p l e R s m args below meth c H1 locs1 0 0 Q (F0 m (pc + 3) ls (rv.toList ++ rest))) : W p l e R s m args below meth c H locs 0 0 Q (F0 m pc ls st0) := by
  intro T hT X
  obtain ⟨v, st₀, t, T', L, h0, X', hL, e1, e2, ⟨⟨hv, hp⟩, hz, hk⟩, st⟩ := hr T hT X
  cases hv
  rw [h0] at hz hk
  obtain ⟨t2, a1, b1⟩ := kk t T'.heap (locs ++ L) e1.symm hp
    ⟨Nat.le_trans hS.1 (by rw [e1]; exact hz), fun q h1 h2 => by rw [e1, hk q (Nat.lt_of_lt_of_le h1 hS.1) (fun z => h2 (hA q (Nat.lt_of_lt_of_le h1 hS.1) z))]; exact hS.2.1 q h1 h2, fun q hq => by
      rcases List.mem_append.mp hq with h | h
      · exact hS.2.2 q h
      · exact hf _ (hL q h)⟩ T' rfl X'
  exact ⟨t2, st t2 a1, b1⟩
end CALL
theorem Ev.mono {N : Mth} {d d' : Nat} {as : List Value} {σ σ' : MH} {r : Option Value} (h : Ev N d as σ r σ') : Ev N d as σ r σ' := h
theorem NK.back {N : Mth} {n : Nat} (h : NK N n) {R : Room} {s : State} {args : Array Value} (hts : ∀ q ∈ TBG, q.before args s = true) {d d1 : Nat} (hd : d1 + 1 ≤ d) (hF : d ≤ R.frames) (hL : 64 * d ≤ R.locals) : (rmD d1).cells = 0 ∧ (rmD d1).slots = 0 ∧ (rmD d1).frames + 1 ≤ R.frames ∧ 8 + (N.2.2.1 + 11) + (rmD d1).locals ≤ R.locals ∧ (∀ w ∈ TBm N, ∀ (a' : Array Value) (U : State), s.WarmedH U.vm → w.before a' U = true) ∧ Cond.code N.1 N.2.1 N.2.2.1 N.2.2.2.1 ∈ TBm N := by
  obtain ⟨h1, h2, h3, h4, h5⟩ := h
  refine ⟨rfl, rfl, Nat.le_trans hd hF, ?_, ?_, List.mem_cons_self⟩
  · show 8 + (N.2.2.1 + 11) + 64 * d1 ≤ R.locals
    omega
  · intro w hw a' U hW
    rcases List.mem_cons.mp hw with rfl | hw
    · exact word_at hW (TBG_good _ h1) (hts _ h1)
    · exact word_at hW (TBG_good _ hw) (hts _ hw)
theorem NK.len {N : Mth} {n : Nat} (h : NK N n) : ∀ sig, parseMethodDescriptor N.1.desc = some sig → n = sig.parameters.length := by
  intro sig hs
  have h4 := h.2.2.2.1
  rw [hs] at h4
  exact (Option.some.inj h4).symm
theorem cat_mv (w : MD) (S : List Value) : ((S.map (mv w)).map fun v => v.category) = S.map fun v => v.category := by
  rw [List.map_map]
  apply List.map_congr_left
  intro v _
  exact mv_cat w v
theorem Go_callS {M : Mth} {d d1 : Nat} {cd : List ME} (b : BK M cd) (i : Nat) {pc idx aux n : Nat} {v : Int32} {w : Int64} (hE : (cd.drop i).head? = some (pc, .invokestatic idx, aux, v, w)) {N : Mth} (hN : NK N n) (hl : Cond.methodLink M.2.2.2.2 idx N.1 ∈ TBG) (hst : Cond.static N.1 ∈ TBG)
    {as S st st' : List Value} {L : List (Option Value)} {σ σ' : MH} {r : Option Value} (hn : as.length = n) (e1 : st = as.reverse ++ S) (e2 : r.toList ++ S = st') (hcat : (S.map fun v => v.category).sum ≤ 8) (hd : d1 + 1 ≤ d) (ev : Ev N d1 as σ r σ') : Go M d (some pc, L, st, σ) (some (pc + 3), L, st', σ') := by
  obtain ⟨P, hPL, h1, -⟩ := BK_at b hE
  intro p l e R s m args below meth c w0 A Q C k H locs ls hP hS hlv
  obtain ⟨hx, hb, hml, hown, hts, hWS, hWT, had, hA, hB, hF, hLo⟩ := C
  subst e1; subst e2
  obtain ⟨k1, k2, k3, k4, k5, k6⟩ := hN.back hts hd hF hLo
  have hr := va_runS (g := F0 m pc ls ((as.reverse ++ S).map (mv w0))) (rest := S.map (mv w0)) (As := as.map (mv w0)) (p := p) (l := l) (e := e) (below := below) (meth := meth) (locs := locs) (cells := 0) (slots := 0) ⟨hx, hb, hml, hown, hts⟩ (ev l w0 H.size) ⟨⟨k1, k2, k3, k4, k5, k6, hts _ hN.1, hts _ hN.2.1, hN.2.2.1, hN.len, hts _ hl⟩, hts _ hst⟩ ⟨PEv.blind, fun U hU hW => ⟨rfl, PEv.at hWS hWT had hA hB hP hS U hU hW⟩⟩ rfl (by rw [List.length_map]; exact hn) hlv.1 (by show (as.reverse ++ S).map (mv w0) = _; rw [List.map_append, List.map_reverse]) (lv_room (by rw [cat_mv]; exact hcat)) h1 ⟨Nat.zero_le _, Nat.zero_le _⟩
  refine W_call hr hS (fun q _ h => AF_in hA hB hS.1 q h) (AF_in hA hB hS.1) (fun t H1 locs1 ht hp hS1 => ?_)
  rw [ht] at hp
  have := k H1 locs1 ls hp hS1 hlv
  rw [List.map_append] at this
  cases r <;> exact this
theorem Go_callN {M : Mth} {d d1 : Nat} {cd : List ME} (b : BK M cd) (i : Nat) {pc idx aux n : Nat} {v : Int32} {w : Int64} (hE : (cd.drop i).head? = some (pc, .invokestatic idx, aux, v, w)) {N : Mth} (hN : NK N n) {host : String} (hl : (M.2.2.2.2, idx, N.1, host) ∈ nestL) (hst : Cond.static N.1 ∈ TBG)
    {as S st st' : List Value} {L : List (Option Value)} {σ σ' : MH} {r : Option Value} (hn : as.length = n) (e1 : st = as.reverse ++ S) (e2 : r.toList ++ S = st') (hcat : (S.map fun v => v.category).sum ≤ 8) (hd : d1 + 1 ≤ d) (ev : Ev N d1 as σ r σ') : Go M d (some pc, L, st, σ) (some (pc + 3), L, st', σ') := by
  obtain ⟨P, hPL, h1, -⟩ := BK_at b hE
  intro p l e R s m args below meth c w0 A Q C k H locs ls hP hS hlv
  obtain ⟨hx, hb, hml, hown, hts, hWS, hWT, had, hA, hB, hF, hLo⟩ := C
  subst e1; subst e2
  obtain ⟨k1, k2, k3, k4, k5, k6⟩ := hN.back hts hd hF hLo
  have hr := va_runSN (host := host) (g := F0 m pc ls ((as.reverse ++ S).map (mv w0))) (rest := S.map (mv w0)) (As := as.map (mv w0)) (p := p) (l := l) (e := e) (below := below) (meth := meth) (locs := locs) (cells := 0) (slots := 0) ⟨hx, hb, hml, hown, hts⟩ (ev l w0 H.size) ⟨⟨⟨k1, k2, k3, k4, k5, k6⟩, hts _ hN.1, hts _ hN.2.1, hN.2.2.1, hN.len, va_Nw.use rfl (hWS.2.1 _ hl)⟩, hts _ hst, trivial⟩ ⟨PEv.blind, fun U hU hW => ⟨rfl, PEv.at hWS hWT had hA hB hP hS U hU hW⟩⟩ rfl (by rw [List.length_map]; exact hn) hlv.1 (by show (as.reverse ++ S).map (mv w0) = _; rw [List.map_append, List.map_reverse]) (lv_room (by rw [cat_mv]; exact hcat)) h1 ⟨Nat.zero_le _, Nat.zero_le _⟩
  refine W_call hr hS (fun q _ h => AF_in hA hB hS.1 q h) (AF_in hA hB hS.1) (fun t H1 locs1 ht hp hS1 => ?_)
  rw [ht] at hp
  have := k H1 locs1 ls hp hS1 hlv
  rw [List.map_append] at this
  cases r <;> exact this
theorem recv_at {w : MD} {σ : MH} {s : State} {H : Heap} {a ci : Nat} {q : vw_C} (hK : va_K w.1 vwCl (mtys w) s) (hP : va_P w.1 vwCl (wsO w σ) H) (ha : shk a = ci) (hc : vwCl[ci]? = some q) : ∃ cell : Cell, H[w.2.2.1 a]? = some cell ∧ cell.vm.isStatics = false ∧ s.vm.findClass q.1 = some cell.cls := by
  have hci : ci < 20 := by
    have h1 := (List.getElem?_eq_some_iff.mp hc).1
    have h2 : vwCl.length = 12 := rfl
    omega
  refine va_recv hK hP hc (q0 := a) (fs := entF w σ a) ?_
  rw [wsO_get (shk_lt ha (by omega)), ent_o ha hci]
theorem Go_callV {M : Mth} {d d1 : Nat} {cd : List ME} (b : BK M cd) (i : Nat) {pc idx aux n ci : Nat} {v : Int32} {w : Int64} (hE : (cd.drop i).head? = some (pc, .invokevirtual idx, aux, v, w)) {N : Mth} (hN : NK N n) (hl : Cond.methodLink M.2.2.2.2 idx N.1 ∈ TBG) (hin : Cond.instanceMethod N.1 ∈ TBG) (hse : Cond.selects N.1.cls N.1 N.1 ∈ TBG) {T : u_T} {NN : Nat} (hc : vwCl[ci]? = some (N.1.cls, T, NN))
    {as S st st' : List Value} {a : Nat} {L : List (Option Value)} {σ σ' : MH} {r : Option Value} (ha : shk a = ci) (hn : as.length = n) (e1 : st = as.reverse ++ .ref a :: S) (e2 : r.toList ++ S = st') (hcat : (S.map fun v => v.category).sum ≤ 8) (hd : d1 + 1 ≤ d) (ev : Ev N d1 (.ref a :: as) σ r σ') : Go M d (some pc, L, st, σ) (some (pc + 3), L, st', σ') := by
  obtain ⟨P, hPL, h1, -⟩ := BK_at b hE
  intro p l e R s m args below meth c w0 A Q C k H locs ls hP hS hlv
  obtain ⟨hx, hb, hml, hown, hts, hWS, hWT, had, hA, hB, hF, hLo⟩ := C
  subst e1; subst e2
  obtain ⟨k1, k2, k3, k4, k5, k6⟩ := hN.back hts hd hF hLo
  have hr := va_runV (C := N.1.cls) (b := w0.2.2.1 a) (g := F0 m pc ls ((as.reverse ++ .ref a :: S).map (mv w0))) (rest := S.map (mv w0)) (As := as.map (mv w0)) (p := p) (l := l) (e := e) (below := below) (meth := meth) (locs := locs) (cells := 0) (slots := 0) ⟨hx, hb, hml, hown, hts⟩ (ev l w0 H.size) ⟨⟨k1, k2, k3, k4, k5, k6, hts _ hN.1, hts _ hN.2.1, hN.2.2.1, hN.len, hts _ hl⟩, hts _ hin, hts _ hse⟩ ⟨PEv.blind, recv_at hWS.1 hP ha hc, fun U hU hW => ⟨rfl, PEv.at hWS hWT had hA hB hP hS U hU hW⟩⟩ rfl (by rw [List.length_map]; exact hn) hlv.1 (by show (as.reverse ++ .ref a :: S).map (mv w0) = _; rw [List.map_append, List.map_reverse]; rfl) (lv_room (by rw [cat_mv]; exact hcat)) h1 ⟨Nat.zero_le _, Nat.zero_le _⟩
  refine W_call hr hS (fun q _ h => AF_in hA hB hS.1 q h) (AF_in hA hB hS.1) (fun t H1 locs1 ht hp hS1 => ?_)
  rw [ht] at hp
  have := k H1 locs1 ls hp hS1 hlv
  rw [List.map_append] at this
  cases r <;> exact this
theorem Go_callU {M : Mth} {d d1 : Nat} {cd : List ME} (b : BK M cd) (i : Nat) {pc idx aux n ci : Nat} {v : Int32} {w : Int64} (hE : (cd.drop i).head? = some (pc, .invokevirtual idx, aux, v, w)) {N : Mth} (hN : NK N n) {xc : String} (hl : Cond.methodLink M.2.2.2.2 idx ⟨xc, N.1.name, N.1.desc⟩ ∈ TBG) (hsm : Cond.sameMethod xc N.1.cls N.1.name N.1.desc ∈ TBG) (hin : Cond.instanceMethod N.1 ∈ TBG) {C : String} (hse : Cond.selects C ⟨xc, N.1.name, N.1.desc⟩ N.1 ∈ TBG) {T : u_T} {NN : Nat} (hc : vwCl[ci]? = some (C, T, NN))
    {as S st st' : List Value} {a : Nat} {L : List (Option Value)} {σ σ' : MH} {r : Option Value} (ha : shk a = ci) (hn : as.length = n) (e1 : st = as.reverse ++ .ref a :: S) (e2 : r.toList ++ S = st') (hcat : (S.map fun v => v.category).sum ≤ 8) (hd : d1 + 1 ≤ d) (ev : Ev N d1 (.ref a :: as) σ r σ') : Go M d (some pc, L, st, σ) (some (pc + 3), L, st', σ') := by
  obtain ⟨P, hPL, h1, -⟩ := BK_at b hE
  intro p l e R s m args below meth c w0 A Q C0 k H locs ls hP hS hlv
  obtain ⟨hx, hb, hml, hown, hts, hWS, hWT, had, hA, hB, hF, hLo⟩ := C0
  subst e1; subst e2
  have hr := va_runU (x := ⟨xc, N.1.name, N.1.desc⟩) (owner := N.1.cls) (C := C) (b := w0.2.2.1 a) (g := F0 m pc ls ((as.reverse ++ .ref a :: S).map (mv w0))) (rest := S.map (mv w0)) (As := as.map (mv w0)) (p := p) (l := l) (e := e) (below := below) (meth := meth) (locs := locs) (cells := 0) (slots := 0) ⟨hx, hb, hml, hown, hts⟩ (ev l w0 H.size) ⟨hN.back hts hd hF hLo, hts _ hN.1, hts _ hN.2.1, hN.2.2.1, hN.len, hts _ hl, hts _ hsm, va_Decl.of (hts _ hin) (hts _ hN.1), hts _ hse, hts _ hin⟩ ⟨PEv.blind, recv_at hWS.1 hP ha hc, fun U hU hW => ⟨rfl, PEv.at hWS hWT had hA hB hP hS U hU hW⟩⟩ rfl (by rw [List.length_map]; exact hn) hlv.1 (by show (as.reverse ++ .ref a :: S).map (mv w0) = _; rw [List.map_append, List.map_reverse]; rfl) (lv_room (by rw [cat_mv]; exact hcat)) h1 ⟨Nat.zero_le _, Nat.zero_le _⟩
  refine W_call hr hS (fun q _ h => AF_in hA hB hS.1 q h) (AF_in hA hB hS.1) (fun t H1 locs1 ht hp hS1 => ?_)
  rw [ht] at hp
  have := k H1 locs1 ls hp hS1 hlv
  rw [List.map_append] at this
  cases r <;> exact this
end
section
/-! WHAT THE WRITTEN WALKS STAND ON -/
def FU : Nat := 1000000
def isLd (t : Nat) : Prop := t = 2 ∨ t = 38 ∨ t = 74
theorem ldk {t : Nat} (h : isLd t) : shk t = 3 := by rcases h with rfl | rfl | rfl <;> rfl
theorem ldA {t : Nat} (h : isLd t) (k : Nat) (hk : [2, 3, 4, 5, 6, 7, 8, 11, 12].contains k = true) : IA (rfv t k) 12 := by
  have h1 : k = 2 ∨ k = 3 ∨ k = 4 ∨ k = 5 ∨ k = 6 ∨ k = 7 ∨ k = 8 ∨ k = 11 ∨ k = 12 := by simpa using hk
  rcases h with rfl | rfl | rfl <;> rcases h1 with rfl | rfl | rfl | rfl | rfl | rfl | rfl | rfl | rfl <;> exact ⟨rfl, rfl⟩
theorem ldR {t : Nat} (h : isLd t) (k : Nat) (hk : [9, 10].contains k = true) : IR (rfv t k) 12 := by
  have h1 : k = 9 ∨ k = 10 := by simpa using hk
  rcases h with rfl | rfl | rfl <;> rcases h1 with rfl | rfl <;> exact ⟨rfl, rfl⟩
theorem inb_lt {i : Int32} {n : Nat} (h : inb i n = true) : i.toNatClampNeg < n := Nat.not_le.mp fun q => inb_in h (Or.inr q)
theorem rowsIA (a n k : Nat) (hc : (List.range n).all (fun i => shk (rfv a i) == 20 && shn (rfv a i) == k) = true) {j : Nat} (hj : j < n) : IA (rfv a j) k := by
  have h := List.all_eq_true.mp hc j (List.mem_range.mpr hj)
  simp only [Bool.and_eq_true, beq_iff_eq] at h
  exact h
theorem ldH {t : Nat} (h : isLd t) {i : Int32} (hi : inb i 12 = true) : IA (rfv (rfv t 9) i.toNatClampNeg) 8 := by
  rcases h with rfl | rfl | rfl
  · exact rowsIA _ 12 8 (by decide +kernel) (inb_lt hi)
  · exact rowsIA _ 12 8 (by decide +kernel) (inb_lt hi)
  · exact rowsIA _ 12 8 (by decide +kernel) (inb_lt hi)
theorem ldW {t : Nat} (h : isLd t) {i : Int32} (hi : inb i 12 = true) : IA (rfv (rfv t 10) i.toNatClampNeg) 144 := by
  rcases h with rfl | rfl | rfl
  · exact rowsIA _ 12 144 (by decide +kernel) (inb_lt hi)
  · exact rowsIA _ 12 144 (by decide +kernel) (inb_lt hi)
  · exact rowsIA _ 12 144 (by decide +kernel) (inb_lt hi)
theorem rw_10 {i : Int32} (hi : inb i 12 = true) : IA (rfv 10 i.toNatClampNeg) 8 := rowsIA 10 12 8 (by decide +kernel) (inb_lt hi)
theorem rw_11 {i : Int32} (hi : inb i 12 = true) : IA (rfv 11 i.toNatClampNeg) 144 := rowsIA 11 12 144 (by decide +kernel) (inb_lt hi)
theorem rw_134 {i : Int32} (hi : inb i 12 = true) : IA (rfv 134 i.toNatClampNeg) 12 := rowsIA 134 12 12 (by decide +kernel) (inb_lt hi)
theorem rw_151 {i : Int32} (hi : inb i 6 = true) : IA (rfv 151 i.toNatClampNeg) 6 := rowsIA 151 6 6 (by decide +kernel) (inb_lt hi)
theorem inbN (c n : Nat) (h : (Nat.blt c n && Nat.blt n 1000000) = true) : inb (Int32.ofNat c) n = true := by
  simp only [Bool.and_eq_true] at h
  have h1 := blt_lt h.1
  have h2 := blt_lt h.2
  unfold inb
  have h3 : ¬ (nI c < 0) := nI_pos (by omega)
  have h4 : (nI c).toNatClampNeg = c := nI_clamp (by omega)
  show (!(decide (nI c < 0) || Nat.ble n (nI c).toNatClampNeg)) = true
  rw [h4]
  simp only [h3, decide_false, Bool.false_or, Bool.not_eq_true']
  cases q : Nat.ble n c with
  | false => rfl
  | true => exact absurd (Nat.le_of_ble_eq_true q) (by omega)
theorem nzB {y : Int32} (h : (!(y == 0)) = true) : y ≠ 0 := by simpa using h
theorem bdS {α β : Type} {x : Option α} {f : α → Option β} {o : β} (h : x.bind f = some o) : ∃ a, x = some a ∧ f a = some o := Option.bind_eq_some_iff.mp h
theorem gdS {b : Bool} {α : Type} {x : Option α} {o : α} (h : (if b = true then x else none) = some o) : b = true ∧ x = some o := by
  by_cases hb : b = true
  · rw [if_pos hb] at h; exact ⟨hb, h⟩
  · rw [if_neg hb] at h; cases h
theorem ifT {c : Prop} [Decidable c] {α : Type} {x y o : α} (hc : c) (h : (if c then x else y) = o) : x = o := by rwa [if_pos hc] at h
theorem ifF {c : Prop} [Decidable c] {α : Type} {x y o : α} (hc : ¬ c) (h : (if c then x else y) = o) : y = o := by rwa [if_neg hc] at h
def bzp (x : Option Int32) : Option Int32 := x.bind fun r => if bz r = true then some r else none
def bzo (x : Option (Int32 × MH)) : Option (Int32 × MH) := x.bind fun r => if bz r.1 = true then some r else none
theorem bzp1 {x : Option Int32} {o : Int32} (h : bzp x = some o) : x = some o := by
  obtain ⟨r, h1, h2⟩ := bdS h
  obtain ⟨-, h3⟩ := gdS h2
  cases h3; exact h1
theorem bzp2 {x : Option Int32} {o : Int32} (h : bzp x = some o) : bz o = true := by
  obtain ⟨r, h1, h2⟩ := bdS h
  obtain ⟨h4, h3⟩ := gdS h2
  cases h3; exact h4
theorem bzo1 {x : Option (Int32 × MH)} {o : Int32 × MH} (h : bzo x = some o) : x = some o := by
  obtain ⟨r, h1, h2⟩ := bdS h
  obtain ⟨-, h3⟩ := gdS h2
  cases h3; exact h1
theorem bzo2 {x : Option (Int32 × MH)} {o : Int32 × MH} (h : bzo x = some o) : bz o.1 = true := by
  obtain ⟨r, h1, h2⟩ := bdS h
  obtain ⟨h4, h3⟩ := gdS h2
  cases h3; exact h4
theorem nrB {x : Int32} (h : bz x = true) : narrow .boolean (.int x) = .int x := by
  unfold bz at h
  simp only [Bool.or_eq_true, beq_iff_eq] at h
  rcases h with rfl | rfl <;> decide
def entL : List Value → List (Option Value)
  | [] => []
  | .long z :: r => some (.long z) :: none :: entL r
  | v :: r => some v :: entL r
def ent0 (as : List Value) (n : Nat) : List (Option Value) := entL as ++ List.replicate (n - (entL as).length) none
theorem ent0_in {as : List Value} (hd : ∀ v ∈ as, ∀ z, v ≠ .double z) : ∀ (k i : Nat) (v : Value), (entL as)[i]? = some (some v) → (k + i, v) ∈ lv_args k as := by
  induction as with
  | nil => intro k i v h; simp [entL] at h
  | cons a r ih =>
    intro k i v h
    have ih' := ih (fun v hv => hd v (List.mem_cons_of_mem _ hv))
    have one : a.category = 1 → entL (a :: r) = some a :: entL r → (k + i, v) ∈ lv_args k (a :: r) := by
      intro hc he
      rw [he] at h
      simp only [lv_args]
      rw [if_neg (by rw [hc]; decide)]
      cases i with
      | zero => simp only [List.getElem?_cons_zero] at h; cases h; exact List.mem_cons_self
      | succ i =>
        refine List.mem_cons_of_mem _ ?_
        have := ih' (k + 1) i v h
        rwa [show k + 1 + i = k + (i + 1) by omega] at this
    cases a with
    | long z =>
      simp only [lv_args, Value.category, if_true]
      cases i with
      | zero => simp only [entL, List.getElem?_cons_zero] at h; cases h; exact List.mem_cons_self
      | succ i =>
        cases i with
        | zero => simp [entL] at h
        | succ i =>
          refine List.mem_cons_of_mem _ ?_
          have := ih' (k + 2) i v h
          rwa [show k + 2 + i = k + (i + 1 + 1) by omega] at this
    | double z => exact absurd rfl (hd _ List.mem_cons_self z)
    | int z => exact one rfl rfl
    | float z => exact one rfl rfl
    | null => exact one rfl rfl
    | ref z => exact one rfl rfl
    | retAddr z => exact one rfl rfl
def noD : List Value → Bool
  | [] => true
  | .double _ :: _ => false
  | _ :: r => noD r
theorem noD_ok : ∀ as : List Value, noD as = true → ∀ v ∈ as, ∀ z, v ≠ .double z := by
  intro as
  induction as with
  | nil => intro _ v hv; cases hv
  | cons a r ih =>
    intro h v hv z e
    subst e
    rcases List.mem_cons.mp hv with rfl | hv
    · exact Bool.noConfusion h
    · have h2 : noD r = true := by cases a <;> simp_all [noD]
      exact ih h2 _ hv z rfl
theorem Ev.of2 {M : Mth} {d : Nat} {as : List Value} {σ σ' : MH} {r : Option Value} (hy : plainName M.1.cls = true) (hcls : M.1.cls = M.2.2.2.2) (hfit : (lg_sl as).length ≤ M.2.2.1)
    (hret : match r with
      | none => M.2.2.2.1 = none
      | some (.int x) => ∃ ty, M.2.2.2.1 = some ty ∧ narrow ty (.int x) = .int x
      | some (.long _) => M.2.2.2.1 = some .long
      | _ => False)
    (h : Go M d (some 0, ent0 as M.2.2.1, [], σ) (none, [], r.toList, σ')) (hnd : noD as = true := by rfl) : Ev M d as σ r σ' := by
  refine Ev.of hy hcls hfit (L := ent0 as M.2.2.1) (fun i v hi => ?_) hret h
  unfold ent0 at hi
  by_cases hl : i < (entL as).length
  · rw [List.getElem?_append_left hl] at hi
    have := ent0_in (noD_ok as hnd) 0 i v hi
    rwa [Nat.zero_add] at this
  · rw [List.getElem?_append_right (by omega), List.getElem?_replicate] at hi
    split at hi <;> cases hi
def cpI (σ : MH) (a0 a1 N : Nat) : MH := (fun b => if b = a1 then (fun k => if k < N then σ.1 a0 k else σ.1 b k) else σ.1 b, σ.2)
theorem Go_copy {M : Mth} {d : Nat} {cd : List ME} (b : BK M cd) (i : Nat) {pc idx aux : Nat} {v : Int32} {w : Int64} (hE : (cd.drop i).head? = some (pc, .invokestatic idx, aux, v, w)) (hl : Cond.methodLink M.2.2.2.2 idx arraycopyName ∈ TBG) {a0 a1 n0 n1 : Nat} (h0 : IA a0 n0) (h1 : IA a1 n1) (hd : 2 ≤ d) {x : Int32} (N : Nat) (e : x = Int32.ofNat N) (hN : Nat.blt N 1000000 = true) (l0 : N ≤ n0) (l1 : N ≤ n1) {S : List Value} (hcat : (S.map fun v => v.category).sum ≤ 8) {L : List (Option Value)} {σ : MH} : Go M d (some pc, L, .int x :: .int 0 :: .ref a1 :: .int 0 :: .ref a0 :: S, σ) (some (pc + 3), L, S, cpI σ a0 a1 N) := by
  obtain ⟨P, hPL, hd1, -⟩ := BK_at b hE
  intro p l e0 R s m args below meth c w0 A Q C k H locs ls hP hS hlv
  obtain ⟨hx, hb, hml, hown, hts, hWS, hWT, had, hA, hB, hF, hLo⟩ := C
  subst e
  have hN' := blt_lt hN
  have e0 : (Int32.ofNat N).toNatClampNeg = N := nI_clamp (n := N) (by omega)
  have e1 : (0 : Int32).toNatClampNeg = 0 := rfl
  have q0 : (wsO w0 σ)[a0]? = some (w0.2.2.1 a0, .inl (w0.2.1.1, n0, .inl (σ.1 a0))) := by rw [wsO_get (shk_lt h0.1 (by omega)), ent_i h0.1, h0.2]
  have q1 : (wsO w0 σ)[a1]? = some (w0.2.2.1 a1, .inl (w0.2.1.1, n1, .inl (σ.1 a1))) := by rw [wsO_get (shk_lt h1.1 (by omega)), ent_i h1.1, h1.2]
  refine va_copyi hx hb (hml.trans hlv.1.symm) hown (hts _ hl) (hts _ (TBG_mem (i := 785) (by decide +kernel) rfl)) (hts _ (TBG_mem (i := 784) (by decide +kernel) rfl)) (hts _ (TBG_mem (i := 130) (by decide +kernel) rfl)) hWS.1 hP (va_D_ws had hA) hS a0 a1 0 0 q0 q1 rfl rfl rfl (by decide) (by decide) (nI_pos (n := N) (by omega)) (by rw [e0, e1]; omega) (by rw [e0, e1]; omega) (fun _ _ => rfl) (by omega) ?_ hd1 (fun H1 locs1 hP1 _ hS1 => ?_)
  · show ((S.map (mv w0)).map fun v => v.category).sum + _ ≤ _
    rw [cat_mv]
    have h9 : nativeFrameWords "java/lang/System" "arraycopy" 5 + 11 ≤ 64 := by decide +kernel
    omega
  · refine k H1 locs1 ls ?_ hS1 hlv
    rw [e0, e1] at hP1
    have hz : (wsO w0 σ).set a1 (w0.2.2.1 a1, .inl (w0.2.1.1, n1, .inl (va_cpy (σ.1 a0) (σ.1 a1) 0 0 N))) = wsO w0 (cpI σ a0 a1 N) := by
      refine wsO_upd (shk_lt h1.1 (by omega)) ?_ (fun b hb => ?_)
      · rw [ent_i h1.1, h1.2]
        have hf : (cpI σ a0 a1 N).1 a1 = va_cpy (σ.1 a0) (σ.1 a1) 0 0 N := by
          funext j
          simp [cpI, va_cpy]
        rw [hf]
      · unfold ent entF cpI
        simp only [if_neg hb]
    rw [← hz]
    exact hP1
theorem tsw_in {x z : Int32} (hc : x = z) (lo hi : Int) (h : (decide (lo ≤ z.toInt) && decide (z.toInt ≤ hi)) = true) : (¬ x.toInt < lo) ∧ (¬ hi < x.toInt) := by
  subst hc
  simp only [Bool.and_eq_true, decide_eq_true_eq] at h
  omega
theorem tsw_all (x : Int32) (lo hi : Int) (l : List Int32) (hl : l = (List.range (hi - lo + 1).toNat).map (fun k : Nat => Int32.ofInt (lo + (k : Int)))) (h1 : ¬ x.toInt < lo) (h2 : ¬ hi < x.toInt) : x ∈ l := by
  rw [hl]
  refine List.mem_map.mpr ⟨(x.toInt - lo).toNat, List.mem_range.mpr (by omega), ?_⟩
  rw [show lo + ((x.toInt - lo).toNat : Int) = x.toInt by omega]
  exact Int32.ofInt_toInt x
theorem Go_lds {M : Mth} {d pc idx k : Nat} {tx : String} {L : List (Option Value)} {S : List Value} {σ : MH} (hd : decode M.2.1 pc = .ok (.ldc idx, 2)) (hs : strL[k]? = some (M.2.2.2.2, idx, tx)) : Go M d (some pc, L, S, σ) (some (pc + 2), L, .retAddr k :: S, σ) := by
  intro p l e R s m args below meth c w A Q C h H locs ls hP hS hl
  exact va_ldcS C.1 C.2.1 C.2.2.2.1 (C.2.2.2.2.2.1.2.2 k _ hs) hd (h H locs ls hP hS hl)
def jmax (x y : Int32) : Int32 := if x < y then y else x
def jmin (x y : Int32) : Int32 := if y < x then y else x
def jabs (x : Int32) : Int32 := if 0 ≤ x then x else 0 - x
def jlmin (x y : Int64) : Int64 := if y < x then y else x
section MATH
variable {M : Mth} {d : Nat} {cd : List ME} {pc idx aux : Nat} {v : Int32} {w : Int64} {S : List Value} {L : List (Option Value)} {σ : MH}
theorem Go_mmax (b : BK M cd) (n : Nat) {x y : Int32} (hE : (cd.drop n).head? = some (pc, .invokestatic idx, aux, v, w)) (hl : Cond.methodLink M.2.2.2.2 idx Lib.Math.max.name ∈ TBG) (hcat : (S.map fun v => v.category).sum ≤ 8) (hd : 1 ≤ d) : Go M d (some pc, L, .int y :: .int x :: S, σ) (some (pc + 3), L, .int (jmax x y) :: S, σ) := by
  obtain ⟨P, hPL, h1, -⟩ := BK_at b hE
  intro p l e R s m args below meth c w0 A Q C k H locs ls hP hS hlv
  obtain ⟨hx, hb, hml, hown, hts, hWS, hWT, had, hA, hB, hF, hLo⟩ := C
  exact va_mmax hx hb (hml.trans hlv.1.symm) hown (hts _ hl) (hts _ (TBG_mem (i := 661) (by decide +kernel) rfl)) (hts _ (TBG_mem (i := 126) (by decide +kernel) rfl)) (hts (Cond.code Lib.Math.max.name Lib.Math.max.code 2 (some .int)) (TBG_mem (i := 662) (by decide +kernel) rfl)) (by omega) (by show ((S.map (mv w0)).map fun v => v.category).sum + _ ≤ _; rw [cat_mv]; omega) (Nat.zero_le _) (Nat.zero_le _) h1 (k H locs ls hP hS hlv)
theorem Go_mmin (b : BK M cd) (n : Nat) {x y : Int32} (hE : (cd.drop n).head? = some (pc, .invokestatic idx, aux, v, w)) (hl : Cond.methodLink M.2.2.2.2 idx Lib.Math.min.name ∈ TBG) (hcat : (S.map fun v => v.category).sum ≤ 8) (hd : 1 ≤ d) : Go M d (some pc, L, .int y :: .int x :: S, σ) (some (pc + 3), L, .int (jmin x y) :: S, σ) := by
  obtain ⟨P, hPL, h1, -⟩ := BK_at b hE
  intro p l e R s m args below meth c w0 A Q C k H locs ls hP hS hlv
  obtain ⟨hx, hb, hml, hown, hts, hWS, hWT, had, hA, hB, hF, hLo⟩ := C
  exact va_mmin hx hb (hml.trans hlv.1.symm) hown (hts _ hl) (hts _ (TBG_mem (i := 664) (by decide +kernel) rfl)) (hts _ (TBG_mem (i := 126) (by decide +kernel) rfl)) (hts (Cond.code Lib.Math.min.name Lib.Math.min.code 2 (some .int)) (TBG_mem (i := 665) (by decide +kernel) rfl)) (by omega) (by show ((S.map (mv w0)).map fun v => v.category).sum + _ ≤ _; rw [cat_mv]; omega) (Nat.zero_le _) (Nat.zero_le _) h1 (k H locs ls hP hS hlv)
theorem Go_mabs (b : BK M cd) (n : Nat) {x : Int32} (hE : (cd.drop n).head? = some (pc, .invokestatic idx, aux, v, w)) (hl : Cond.methodLink M.2.2.2.2 idx Lib.Math.abs.name ∈ TBG) (hcat : (S.map fun v => v.category).sum ≤ 8) (hd : 1 ≤ d) : Go M d (some pc, L, .int x :: S, σ) (some (pc + 3), L, .int (jabs x) :: S, σ) := by
  obtain ⟨P, hPL, h1, -⟩ := BK_at b hE
  intro p l e R s m args below meth c w0 A Q C k H locs ls hP hS hlv
  obtain ⟨hx, hb, hml, hown, hts, hWS, hWT, had, hA, hB, hF, hLo⟩ := C
  exact va_mabs hx hb (hml.trans hlv.1.symm) hown (hts _ hl) (hts _ (TBG_mem (i := 824) (by decide +kernel) rfl)) (hts _ (TBG_mem (i := 126) (by decide +kernel) rfl)) (hts (Cond.code Lib.Math.abs.name Lib.Math.abs.code 1 (some .int)) (TBG_mem (i := 825) (by decide +kernel) rfl)) (by omega) (by show ((S.map (mv w0)).map fun v => v.category).sum + _ ≤ _; rw [cat_mv]; omega) (Nat.zero_le _) (Nat.zero_le _) h1 (k H locs ls hP hS hlv)
theorem Go_mlmin (b : BK M cd) (n : Nat) {x y : Int64} (hE : (cd.drop n).head? = some (pc, .invokestatic idx, aux, v, w)) (hl : Cond.methodLink M.2.2.2.2 idx Lib.MathLoose.min_long.x ∈ TBG) (hcat : (S.map fun v => v.category).sum ≤ 8) (hd : 1 ≤ d) : Go M d (some pc, L, .long y :: .long x :: S, σ) (some (pc + 3), L, .long (jlmin x y) :: S, σ) := by
  obtain ⟨P, hPL, h1, -⟩ := BK_at b hE
  intro p l e R s m args below meth c w0 A Q C k H locs ls hP hS hlv
  obtain ⟨hx, hb, hml, hown, hts, hWS, hWT, had, hA, hB, hF, hLo⟩ := C
  exact va_mmin_long hx hb (hml.trans hlv.1.symm) hown (hts _ hl) (hts _ (TBG_mem (i := 1126) (by decide +kernel) rfl)) (hts _ (TBG_mem (i := 126) (by decide +kernel) rfl)) (hts (Cond.code Lib.MathLoose.min_long.x Lib.MathLoose.min_long.code 4 (some .long)) (TBG_mem (i := 1127) (by decide +kernel) rfl)) (by omega) (by show ((S.map (mv w0)).map fun v => v.category).sum + _ ≤ _; rw [cat_mv]; omega) (Nat.zero_le _) (Nat.zero_le _) h1 (k H locs ls hP hS hlv)
end MATH
/-! the String constants: .retAddr i is the i-th one, .float i its bytes -/
def sB (k j : Nat) : Int32 := (strB.getD k []).getD j 0
section STR
variable {M : Mth} {d : Nat} {cd : List ME} {pc idx aux : Nat} {v : Int32} {w : Int64} {S : List Value} {L : List (Option Value)} {σ : MH}
theorem Go_gets (hd : decode M.2.1 pc = .ok (.getstatic idx, 3)) (hl : Cond.fieldLink M.2.2.2.2 idx "java/lang/String" "COMPACT_STRINGS" "Z" ∈ TBG) : Go M d (some pc, L, S, σ) (some (pc + 3), L, .int 1 :: S, σ) := by
  intro p l e R s m args below meth c w0 A Q C k H locs ls hP hS hlv
  exact va_gets C.1 C.2.1 C.2.2.2.2.2.2.1.2 hS C.2.2.2.1 (C.2.2.2.2.1 _ hl) (fun _ h => h) hd (k H locs ls hP hS hlv)
theorem Go_gfc {i : Nat} (hd : decode M.2.1 pc = .ok (.getfield idx, 3)) (hi : i < 2) (hl : Cond.fieldLink M.2.2.2.2 idx "java/lang/String" "coder" "B" ∈ TBG) : Go M d (some pc, L, .retAddr i :: S, σ) (some (pc + 3), L, .int 0 :: S, σ) := by
  intro p l e R s m args below meth c w0 A Q C k H locs ls hP hS hlv
  exact vk_getf C.1 C.2.1 (C.2.2.2.2.2.2.1.1.1 i hi).2.1 hS C.2.2.2.1 (C.2.2.2.2.1 _ hl) (fun _ h => h) hd (k H locs ls hP hS hlv)
theorem Go_gfv {i : Nat} (b : UInt32) (hb : b.toNat = i) (hd : decode M.2.1 pc = .ok (.getfield idx, 3)) (hi : i < 2) (hl : Cond.fieldLink M.2.2.2.2 idx "java/lang/String" "value" "[B" ∈ TBG) : Go M d (some pc, L, .retAddr i :: S, σ) (some (pc + 3), L, .float b :: S, σ) := by
  subst hb
  intro p l e R s m args below meth c w0 A Q C k H locs ls hP hS hlv
  exact vk_getf C.1 C.2.1 (C.2.2.2.2.2.2.1.1.1 b.toNat hi).2.2.1 hS C.2.2.2.1 (C.2.2.2.2.1 _ hl) (fun _ h => h) hd (k H locs ls hP hS hlv)
theorem Go_bls {b : UInt32} {i n : Nat} {x : Int32} (hb : b.toNat = i) (hd : decode M.2.1 pc = .ok (.baload, 1)) (hi : i < 2) (hn : strN.getD i 0 = n) (hx : inb x n = true) : Go M d (some pc, L, .int x :: .float b :: S, σ) (some (pc + 1), L, .int (sB i x.toNatClampNeg) :: S, σ) := by
  subst hb
  intro p l e R s m args below meth c w0 A Q C k H locs ls hP hS hlv
  exact va_tb C.1 C.2.1 (C.2.2.2.2.2.2.1.1.1 b.toNat hi).2.2.2 hS (by rw [hn]; exact inb_in hx) rfl hd (k H locs ls hP hS hlv)
theorem Go_als {b : UInt32} {i : Nat} {x : Int32} (hb : b.toNat = i) (hd : decode M.2.1 pc = .ok (.arraylength, 1)) (hi : i < 2) (hx : Int32.ofNat (strN.getD i 0) = x) : Go M d (some pc, L, .float b :: S, σ) (some (pc + 1), L, .int x :: S, σ) := by
  subst hb
  intro p l e R s m args below meth c w0 A Q C k H locs ls hP hS hlv
  exact va_tlen C.1 C.2.1 (C.2.2.2.2.2.2.1.1.1 b.toNat hi).2.2.2 hS hx hd (k H locs ls hP hS hlv)
end STR
theorem Go_callR {M : Mth} {d d1 : Nat} {cd : List ME} (b : BK M cd) (i : Nat) {pc idx aux n : Nat} {v : Int32} {w : Int64} (hE : (cd.drop i).head? = some (pc, .invokevirtual idx, aux, v, w)) {N : Mth} (hN : NK N n) (hl : Cond.methodLink M.2.2.2.2 idx N.1 ∈ TBG) (hin : Cond.instanceMethod N.1 ∈ TBG) (hcl : N.1.cls = "java/lang/String") (hse : Cond.selects N.1.cls N.1 N.1 ∈ TBG)
    {as S st st' : List Value} {a : Nat} {L : List (Option Value)} {σ σ' : MH} {r : Option Value} (ha : a < 2) (hn : as.length = n) (e1 : st = as.reverse ++ .retAddr a :: S) (e2 : r.toList ++ S = st') (hcat : (S.map fun v => v.category).sum ≤ 8) (hd : d1 + 1 ≤ d) (ev : Ev N d1 (.retAddr a :: as) σ r σ') : Go M d (some pc, L, st, σ) (some (pc + 3), L, st', σ') := by
  obtain ⟨P, hPL, h1, -⟩ := BK_at b hE
  intro p l e R s m args below meth c w0 A Q C k H locs ls hP hS hlv
  obtain ⟨hx, hb, hml, hown, hts, hWS, hWT, had, hA, hB, hF, hLo⟩ := C
  subst e1; subst e2
  obtain ⟨k1, k2, k3, k4, k5, k6⟩ := hN.back hts hd hF hLo
  have hrc : ∃ cell : Cell, H[w0.2.2.2.1 a]? = some cell ∧ cell.vm.isStatics = false ∧ s.vm.findClass N.1.cls = some cell.cls := by
    rw [hcl]
    exact vk_recv hWT.1 ha hS
  have hr := va_runV (C := N.1.cls) (b := w0.2.2.2.1 a) (g := F0 m pc ls ((as.reverse ++ .retAddr a :: S).map (mv w0))) (rest := S.map (mv w0)) (As := as.map (mv w0)) (p := p) (l := l) (e := e) (below := below) (meth := meth) (locs := locs) (cells := 0) (slots := 0) ⟨hx, hb, hml, hown, hts⟩ (ev l w0 H.size) ⟨⟨k1, k2, k3, k4, k5, k6, hts _ hN.1, hts _ hN.2.1, hN.2.2.1, hN.len, hts _ hl⟩, hts _ hin, hts _ hse⟩ ⟨PEv.blind, hrc, fun U hU hW => ⟨rfl, PEv.at hWS hWT had hA hB hP hS U hU hW⟩⟩ rfl (by rw [List.length_map]; exact hn) hlv.1 (by show (as.reverse ++ .retAddr a :: S).map (mv w0) = _; rw [List.map_append, List.map_reverse]; rfl) (lv_room (by rw [cat_mv]; exact hcat)) h1 ⟨Nat.zero_le _, Nat.zero_le _⟩
  refine W_call hr hS (fun q _ h => AF_in hA hB hS.1 q h) (AF_in hA hB hS.1) (fun t H1 locs1 ht hp hS1 => ?_)
  rw [ht] at hp
  have := k H1 locs1 ls hp hS1 hlv
  rw [List.map_append] at this
  cases r <;> exact this
theorem nrY {x : Int32} (h : bz x = true) : narrow .byte (.int x) = .int x := by
  unfold bz at h
  simp only [Bool.or_eq_true, beq_iff_eq] at h
  rcases h with rfl | rfl <;> decide
end
