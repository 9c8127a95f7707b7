section
-- ===== PART A: goes FIRST, ahead of the names: the tables' words, and 'selects' of the private methods out of them =====
/-- a private method of a class that the tables say can be made, by its rows of tables_1 -/
def lw_okq (q : MethodName × Nat) : Prop := (q.1.cls ≠ "java/lang/invoke/MethodHandle" ∧ q.1.cls ≠ "java/lang/invoke/VarHandle") ∧ Cond.instantiable q.1.cls q.2 ∈ tables_1 ∧ Cond.privateMethod q.1 ∈ tables_1 ∧ Cond.instanceMethod q.1 ∈ tables_1
theorem lw_p0 : lw_okq (⟨"PuzzleWed$LawReader", "readClause", "()Z"⟩, 5) := ⟨⟨by decide +kernel, by decide +kernel⟩, List.mem_of_getElem? (i := 175) (by decide +kernel), List.mem_of_getElem? (i := 506) (by decide +kernel), List.mem_of_getElem? (i := 507) (by decide +kernel)⟩
theorem lw_p1 : lw_okq (⟨"PuzzleWed$LawReader", "readSum", "(I)Z"⟩, 5) := ⟨⟨by decide +kernel, by decide +kernel⟩, List.mem_of_getElem? (i := 175) (by decide +kernel), List.mem_of_getElem? (i := 621) (by decide +kernel), List.mem_of_getElem? (i := 622) (by decide +kernel)⟩
theorem lw_p2 : lw_okq (⟨"PuzzleWed$LawReader", "readProduct", "(I)Z"⟩, 5) := ⟨⟨by decide +kernel, by decide +kernel⟩, List.mem_of_getElem? (i := 175) (by decide +kernel), List.mem_of_getElem? (i := 625) (by decide +kernel), List.mem_of_getElem? (i := 626) (by decide +kernel)⟩
theorem lw_p3 : lw_okq (⟨"PuzzleWed$LawReader", "readFactor", "(I)Z"⟩, 5) := ⟨⟨by decide +kernel, by decide +kernel⟩, List.mem_of_getElem? (i := 175) (by decide +kernel), List.mem_of_getElem? (i := 629) (by decide +kernel), List.mem_of_getElem? (i := 630) (by decide +kernel)⟩
theorem lw_p4 : lw_okq (⟨"PuzzleWed$LawReader", "pass", "(I)Z"⟩, 5) := ⟨⟨by decide +kernel, by decide +kernel⟩, List.mem_of_getElem? (i := 175) (by decide +kernel), List.mem_of_getElem? (i := 633) (by decide +kernel), List.mem_of_getElem? (i := 634) (by decide +kernel)⟩
theorem lw_p5 : lw_okq (⟨"PuzzleWed$LawReader", "readNumber", "()Z"⟩, 5) := ⟨⟨by decide +kernel, by decide +kernel⟩, List.mem_of_getElem? (i := 175) (by decide +kernel), List.mem_of_getElem? (i := 637) (by decide +kernel), List.mem_of_getElem? (i := 638) (by decide +kernel)⟩
theorem lw_p6 : lw_okq (⟨"PuzzleWed$LawReader", "readEither", "(I)Z"⟩, 5) := ⟨⟨by decide +kernel, by decide +kernel⟩, List.mem_of_getElem? (i := 175) (by decide +kernel), List.mem_of_getElem? (i := 646) (by decide +kernel), List.mem_of_getElem? (i := 647) (by decide +kernel)⟩
theorem lw_p7 : lw_okq (⟨"PuzzleWed$LawReader", "readBoth", "(I)Z"⟩, 5) := ⟨⟨by decide +kernel, by decide +kernel⟩, List.mem_of_getElem? (i := 175) (by decide +kernel), List.mem_of_getElem? (i := 650) (by decide +kernel), List.mem_of_getElem? (i := 651) (by decide +kernel)⟩
theorem lw_p8 : lw_okq (⟨"PuzzleWed$LawReader", "readTest", "(I)Z"⟩, 5) := ⟨⟨by decide +kernel, by decide +kernel⟩, List.mem_of_getElem? (i := 175) (by decide +kernel), List.mem_of_getElem? (i := 654) (by decide +kernel), List.mem_of_getElem? (i := 655) (by decide +kernel)⟩
theorem lw_p9 : lw_okq (⟨"PuzzleWed$LawReader", "readInner", "(II)Z"⟩, 5) := ⟨⟨by decide +kernel, by decide +kernel⟩, List.mem_of_getElem? (i := 175) (by decide +kernel), List.mem_of_getElem? (i := 658) (by decide +kernel), List.mem_of_getElem? (i := 659) (by decide +kernel)⟩
theorem lw_p10 : lw_okq (⟨"PuzzleWed$LawReader", "emitJump", "(II)I"⟩, 5) := ⟨⟨by decide +kernel, by decide +kernel⟩, List.mem_of_getElem? (i := 175) (by decide +kernel), List.mem_of_getElem? (i := 662) (by decide +kernel), List.mem_of_getElem? (i := 663) (by decide +kernel)⟩
theorem lw_p11 : lw_okq (⟨"PuzzleWed$LawReader", "land", "(I)V"⟩, 5) := ⟨⟨by decide +kernel, by decide +kernel⟩, List.mem_of_getElem? (i := 175) (by decide +kernel), List.mem_of_getElem? (i := 666) (by decide +kernel), List.mem_of_getElem? (i := 667) (by decide +kernel)⟩
theorem lw_p12 : lw_okq (⟨"PuzzleWed$ListReader", "readHeight", "()Z"⟩, 8) := ⟨⟨by decide +kernel, by decide +kernel⟩, List.mem_of_getElem? (i := 210) (by decide +kernel), List.mem_of_getElem? (i := 689) (by decide +kernel), List.mem_of_getElem? (i := 690) (by decide +kernel)⟩
theorem lw_p13 : lw_okq (⟨"PuzzleWed$ListReader", "readTimes", "(I)Z"⟩, 8) := ⟨⟨by decide +kernel, by decide +kernel⟩, List.mem_of_getElem? (i := 210) (by decide +kernel), List.mem_of_getElem? (i := 699) (by decide +kernel), List.mem_of_getElem? (i := 700) (by decide +kernel)⟩
theorem lw_p14 : lw_okq (⟨"PuzzleWed$ListReader", "put", "()V"⟩, 8) := ⟨⟨by decide +kernel, by decide +kernel⟩, List.mem_of_getElem? (i := 210) (by decide +kernel), List.mem_of_getElem? (i := 707) (by decide +kernel), List.mem_of_getElem? (i := 708) (by decide +kernel)⟩
theorem lw_p15 : lw_okq (⟨"PuzzleWed$Course", "travel", "(LPuzzleWed$Land;)V"⟩, 4) := ⟨⟨by decide +kernel, by decide +kernel⟩, List.mem_of_getElem? (i := 248) (by decide +kernel), List.mem_of_getElem? (i := 734) (by decide +kernel), List.mem_of_getElem? (i := 735) (by decide +kernel)⟩
def lw_privs_1 : List (MethodName × Nat) := [(⟨"PuzzleWed$LawReader", "readClause", "()Z"⟩, 5), (⟨"PuzzleWed$LawReader", "readSum", "(I)Z"⟩, 5), (⟨"PuzzleWed$LawReader", "readProduct", "(I)Z"⟩, 5), (⟨"PuzzleWed$LawReader", "readFactor", "(I)Z"⟩, 5), (⟨"PuzzleWed$LawReader", "pass", "(I)Z"⟩, 5), (⟨"PuzzleWed$LawReader", "readNumber", "()Z"⟩, 5), (⟨"PuzzleWed$LawReader", "readEither", "(I)Z"⟩, 5), (⟨"PuzzleWed$LawReader", "readBoth", "(I)Z"⟩, 5), (⟨"PuzzleWed$LawReader", "readTest", "(I)Z"⟩, 5), (⟨"PuzzleWed$LawReader", "readInner", "(II)Z"⟩, 5), (⟨"PuzzleWed$LawReader", "emitJump", "(II)I"⟩, 5), (⟨"PuzzleWed$LawReader", "land", "(I)V"⟩, 5), (⟨"PuzzleWed$ListReader", "readHeight", "()Z"⟩, 8), (⟨"PuzzleWed$ListReader", "readTimes", "(I)Z"⟩, 8), (⟨"PuzzleWed$ListReader", "put", "()V"⟩, 8), (⟨"PuzzleWed$Course", "travel", "(LPuzzleWed$Land;)V"⟩, 4)]
theorem lw_r1 : ∀ q ∈ lw_privs_1, lw_okq q := List.forall_mem_cons.mpr ⟨lw_p0, List.forall_mem_cons.mpr ⟨lw_p1, List.forall_mem_cons.mpr ⟨lw_p2, List.forall_mem_cons.mpr ⟨lw_p3, List.forall_mem_cons.mpr ⟨lw_p4, List.forall_mem_cons.mpr ⟨lw_p5, List.forall_mem_cons.mpr ⟨lw_p6, List.forall_mem_cons.mpr ⟨lw_p7, List.forall_mem_cons.mpr ⟨lw_p8, List.forall_mem_cons.mpr ⟨lw_p9, List.forall_mem_cons.mpr ⟨lw_p10, List.forall_mem_cons.mpr ⟨lw_p11, List.forall_mem_cons.mpr ⟨lw_p12, List.forall_mem_cons.mpr ⟨lw_p13, List.forall_mem_cons.mpr ⟨lw_p14, List.forall_mem_cons.mpr ⟨lw_p15, fun _ h => absurd h List.not_mem_nil⟩⟩⟩⟩⟩⟩⟩⟩⟩⟩⟩⟩⟩⟩⟩⟩
theorem lw_p16 : lw_okq (⟨"PuzzleWed$Course", "meet", "(LPuzzleWed$Land;)V"⟩, 4) := ⟨⟨by decide +kernel, by decide +kernel⟩, List.mem_of_getElem? (i := 248) (by decide +kernel), List.mem_of_getElem? (i := 739) (by decide +kernel), List.mem_of_getElem? (i := 740) (by decide +kernel)⟩
theorem lw_p17 : lw_okq (⟨"PuzzleWed$Judge", "fill", "(LPuzzleWed$Land;III)V"⟩, 2) := ⟨⟨by decide +kernel, by decide +kernel⟩, List.mem_of_getElem? (i := 235) (by decide +kernel), List.mem_of_getElem? (i := 780) (by decide +kernel), List.mem_of_getElem? (i := 781) (by decide +kernel)⟩
theorem lw_p18 : lw_okq (⟨"PuzzleWed$Course", "strain", "(LPuzzleWed$Land;)V"⟩, 4) := ⟨⟨by decide +kernel, by decide +kernel⟩, List.mem_of_getElem? (i := 248) (by decide +kernel), List.mem_of_getElem? (i := 817) (by decide +kernel), List.mem_of_getElem? (i := 818) (by decide +kernel)⟩
theorem lw_p19 : lw_okq (⟨"PuzzleWed", "whomItFits", "(I)I"⟩, 15) := ⟨⟨by decide +kernel, by decide +kernel⟩, List.mem_of_getElem? (i := 24) (by decide +kernel), List.mem_of_getElem? (i := 849) (by decide +kernel), List.mem_of_getElem? (i := 850) (by decide +kernel)⟩
theorem lw_p20 : lw_okq (⟨"PuzzleWed", "fitsAbove", "(I)I"⟩, 15) := ⟨⟨by decide +kernel, by decide +kernel⟩, List.mem_of_getElem? (i := 24) (by decide +kernel), List.mem_of_getElem? (i := 871) (by decide +kernel), List.mem_of_getElem? (i := 872) (by decide +kernel)⟩
theorem lw_p21 : lw_okq (⟨"PuzzleWed$Couples", "gather", "(LPuzzleWed$Land;)V"⟩, 11) := ⟨⟨by decide +kernel, by decide +kernel⟩, List.mem_of_getElem? (i := 270) (by decide +kernel), List.mem_of_getElem? (i := 887) (by decide +kernel), List.mem_of_getElem? (i := 888) (by decide +kernel)⟩
theorem lw_p22 : lw_okq (⟨"PuzzleWed$Couples", "weighAll", "()V"⟩, 11) := ⟨⟨by decide +kernel, by decide +kernel⟩, List.mem_of_getElem? (i := 270) (by decide +kernel), List.mem_of_getElem? (i := 894) (by decide +kernel), List.mem_of_getElem? (i := 895) (by decide +kernel)⟩
theorem lw_p23 : lw_okq (⟨"PuzzleWed$Couples", "setBest", "(III)V"⟩, 11) := ⟨⟨by decide +kernel, by decide +kernel⟩, List.mem_of_getElem? (i := 270) (by decide +kernel), List.mem_of_getElem? (i := 898) (by decide +kernel), List.mem_of_getElem? (i := 899) (by decide +kernel)⟩
theorem lw_p24 : lw_okq (⟨"PuzzleWed$Couples", "bestOf", "(II)I"⟩, 11) := ⟨⟨by decide +kernel, by decide +kernel⟩, List.mem_of_getElem? (i := 270) (by decide +kernel), List.mem_of_getElem? (i := 902) (by decide +kernel), List.mem_of_getElem? (i := 903) (by decide +kernel)⟩
theorem lw_p25 : lw_okq (⟨"PuzzleWed$Couples", "withBond", "(III)I"⟩, 11) := ⟨⟨by decide +kernel, by decide +kernel⟩, List.mem_of_getElem? (i := 270) (by decide +kernel), List.mem_of_getElem? (i := 906) (by decide +kernel), List.mem_of_getElem? (i := 907) (by decide +kernel)⟩
theorem lw_p26 : lw_okq (⟨"PuzzleWed$Couples", "choose", "(II)I"⟩, 11) := ⟨⟨by decide +kernel, by decide +kernel⟩, List.mem_of_getElem? (i := 270) (by decide +kernel), List.mem_of_getElem? (i := 911) (by decide +kernel), List.mem_of_getElem? (i := 912) (by decide +kernel)⟩
theorem lw_p27 : lw_okq (⟨"PuzzleWed$Couples", "askNext", "(I)Z"⟩, 11) := ⟨⟨by decide +kernel, by decide +kernel⟩, List.mem_of_getElem? (i := 270) (by decide +kernel), List.mem_of_getElem? (i := 924) (by decide +kernel), List.mem_of_getElem? (i := 925) (by decide +kernel)⟩
theorem lw_p28 : lw_okq (⟨"PuzzleWed$Couples", "prefers", "(III)Z"⟩, 11) := ⟨⟨by decide +kernel, by decide +kernel⟩, List.mem_of_getElem? (i := 270) (by decide +kernel), List.mem_of_getElem? (i := 928) (by decide +kernel), List.mem_of_getElem? (i := 929) (by decide +kernel)⟩
theorem lw_p29 : lw_okq (⟨"PuzzleWed", "wouldLeave", "(II)Z"⟩, 15) := ⟨⟨by decide +kernel, by decide +kernel⟩, List.mem_of_getElem? (i := 24) (by decide +kernel), List.mem_of_getElem? (i := 936) (by decide +kernel), List.mem_of_getElem? (i := 937) (by decide +kernel)⟩
theorem lw_p30 : lw_okq (⟨"PuzzleWed", "likingNow", "(I)I"⟩, 15) := ⟨⟨by decide +kernel, by decide +kernel⟩, List.mem_of_getElem? (i := 24) (by decide +kernel), List.mem_of_getElem? (i := 940) (by decide +kernel), List.mem_of_getElem? (i := 941) (by decide +kernel)⟩
theorem lw_p31 : lw_okq (⟨"PuzzleWed$Search", "weigh", "()V"⟩, 8) := ⟨⟨by decide +kernel, by decide +kernel⟩, List.mem_of_getElem? (i := 314) (by decide +kernel), List.mem_of_getElem? (i := 958) (by decide +kernel), List.mem_of_getElem? (i := 959) (by decide +kernel)⟩
def lw_privs_2 : List (MethodName × Nat) := [(⟨"PuzzleWed$Course", "meet", "(LPuzzleWed$Land;)V"⟩, 4), (⟨"PuzzleWed$Judge", "fill", "(LPuzzleWed$Land;III)V"⟩, 2), (⟨"PuzzleWed$Course", "strain", "(LPuzzleWed$Land;)V"⟩, 4), (⟨"PuzzleWed", "whomItFits", "(I)I"⟩, 15), (⟨"PuzzleWed", "fitsAbove", "(I)I"⟩, 15), (⟨"PuzzleWed$Couples", "gather", "(LPuzzleWed$Land;)V"⟩, 11), (⟨"PuzzleWed$Couples", "weighAll", "()V"⟩, 11), (⟨"PuzzleWed$Couples", "setBest", "(III)V"⟩, 11), (⟨"PuzzleWed$Couples", "bestOf", "(II)I"⟩, 11), (⟨"PuzzleWed$Couples", "withBond", "(III)I"⟩, 11), (⟨"PuzzleWed$Couples", "choose", "(II)I"⟩, 11), (⟨"PuzzleWed$Couples", "askNext", "(I)Z"⟩, 11), (⟨"PuzzleWed$Couples", "prefers", "(III)Z"⟩, 11), (⟨"PuzzleWed", "wouldLeave", "(II)Z"⟩, 15), (⟨"PuzzleWed", "likingNow", "(I)I"⟩, 15), (⟨"PuzzleWed$Search", "weigh", "()V"⟩, 8)]
theorem lw_r2 : ∀ q ∈ lw_privs_2, lw_okq q := List.forall_mem_cons.mpr ⟨lw_p16, List.forall_mem_cons.mpr ⟨lw_p17, List.forall_mem_cons.mpr ⟨lw_p18, List.forall_mem_cons.mpr ⟨lw_p19, List.forall_mem_cons.mpr ⟨lw_p20, List.forall_mem_cons.mpr ⟨lw_p21, List.forall_mem_cons.mpr ⟨lw_p22, List.forall_mem_cons.mpr ⟨lw_p23, List.forall_mem_cons.mpr ⟨lw_p24, List.forall_mem_cons.mpr ⟨lw_p25, List.forall_mem_cons.mpr ⟨lw_p26, List.forall_mem_cons.mpr ⟨lw_p27, List.forall_mem_cons.mpr ⟨lw_p28, List.forall_mem_cons.mpr ⟨lw_p29, List.forall_mem_cons.mpr ⟨lw_p30, List.forall_mem_cons.mpr ⟨lw_p31, fun _ h => absurd h List.not_mem_nil⟩⟩⟩⟩⟩⟩⟩⟩⟩⟩⟩⟩⟩⟩⟩⟩
theorem lw_p32 : lw_okq (⟨"PuzzleWed$Search", "nextOrder", "()Z"⟩, 8) := ⟨⟨by decide +kernel, by decide +kernel⟩, List.mem_of_getElem? (i := 314) (by decide +kernel), List.mem_of_getElem? (i := 963) (by decide +kernel), List.mem_of_getElem? (i := 964) (by decide +kernel)⟩
theorem lw_p33 : lw_okq (⟨"PuzzleWed$Search", "swap", "(II)V"⟩, 8) := ⟨⟨by decide +kernel, by decide +kernel⟩, List.mem_of_getElem? (i := 314) (by decide +kernel), List.mem_of_getElem? (i := 967) (by decide +kernel), List.mem_of_getElem? (i := 968) (by decide +kernel)⟩
theorem lw_p34 : lw_okq (⟨"PuzzleWed$Search", "commonDivisor", "()I"⟩, 8) := ⟨⟨by decide +kernel, by decide +kernel⟩, List.mem_of_getElem? (i := 314) (by decide +kernel), List.mem_of_getElem? (i := 975) (by decide +kernel), List.mem_of_getElem? (i := 976) (by decide +kernel)⟩
theorem lw_p35 : lw_okq (⟨"PuzzleWed", "canSand", "(III)Z"⟩, 15) := ⟨⟨by decide +kernel, by decide +kernel⟩, List.mem_of_getElem? (i := 24) (by decide +kernel), List.mem_of_getElem? (i := 987) (by decide +kernel), List.mem_of_getElem? (i := 988) (by decide +kernel)⟩
theorem lw_p36 : lw_okq (⟨"PuzzleWed$Sander", "weigh", "(IIIJ)V"⟩, 11) := ⟨⟨by decide +kernel, by decide +kernel⟩, List.mem_of_getElem? (i := 347) (by decide +kernel), List.mem_of_getElem? (i := 1000) (by decide +kernel), List.mem_of_getElem? (i := 1001) (by decide +kernel)⟩
theorem lw_p37 : lw_okq (⟨"PuzzleWed$Sander", "bestHere", "(II)J"⟩, 11) := ⟨⟨by decide +kernel, by decide +kernel⟩, List.mem_of_getElem? (i := 347) (by decide +kernel), List.mem_of_getElem? (i := 1007) (by decide +kernel), List.mem_of_getElem? (i := 1008) (by decide +kernel)⟩
theorem lw_p38 : lw_okq (⟨"PuzzleWed$Sander", "leastOf", "(II)J"⟩, 11) := ⟨⟨by decide +kernel, by decide +kernel⟩, List.mem_of_getElem? (i := 347) (by decide +kernel), List.mem_of_getElem? (i := 1012) (by decide +kernel), List.mem_of_getElem? (i := 1013) (by decide +kernel)⟩
theorem lw_p39 : lw_okq (⟨"PuzzleWed$Sander", "read", "(J)V"⟩, 11) := ⟨⟨by decide +kernel, by decide +kernel⟩, List.mem_of_getElem? (i := 347) (by decide +kernel), List.mem_of_getElem? (i := 1020) (by decide +kernel), List.mem_of_getElem? (i := 1021) (by decide +kernel)⟩
theorem lw_p40 : lw_okq (⟨"PuzzleWed", "fitOthers", "(I[II)I"⟩, 15) := ⟨⟨by decide +kernel, by decide +kernel⟩, List.mem_of_getElem? (i := 24) (by decide +kernel), List.mem_of_getElem? (i := 1024) (by decide +kernel), List.mem_of_getElem? (i := 1025) (by decide +kernel)⟩
theorem lw_p41 : lw_okq (⟨"PuzzleWed", "rulesAll", "(II)Z"⟩, 15) := ⟨⟨by decide +kernel, by decide +kernel⟩, List.mem_of_getElem? (i := 24) (by decide +kernel), List.mem_of_getElem? (i := 1049) (by decide +kernel), List.mem_of_getElem? (i := 1050) (by decide +kernel)⟩
theorem lw_p42 : lw_okq (⟨"PuzzleWed", "cut", "(I[I)V"⟩, 15) := ⟨⟨by decide +kernel, by decide +kernel⟩, List.mem_of_getElem? (i := 24) (by decide +kernel), List.mem_of_getElem? (i := 1053) (by decide +kernel), List.mem_of_getElem? (i := 1054) (by decide +kernel)⟩
theorem lw_p43 : lw_okq (⟨"PuzzleWed", "madeBy", "(II)I"⟩, 15) := ⟨⟨by decide +kernel, by decide +kernel⟩, List.mem_of_getElem? (i := 24) (by decide +kernel), List.mem_of_getElem? (i := 1060) (by decide +kernel), List.mem_of_getElem? (i := 1061) (by decide +kernel)⟩
theorem lw_p44 : lw_okq (⟨"PuzzleWedModel", "isPerson", "(I)Z"⟩, 47) := ⟨⟨by decide +kernel, by decide +kernel⟩, List.mem_of_getElem? (i := 1097) (by decide +kernel), List.mem_of_getElem? (i := 1254) (by decide +kernel), List.mem_of_getElem? (i := 1255) (by decide +kernel)⟩
theorem lw_p45 : lw_okq (⟨"PuzzleWedModel", "lives", "(I)Z"⟩, 47) := ⟨⟨by decide +kernel, by decide +kernel⟩, List.mem_of_getElem? (i := 1097) (by decide +kernel), List.mem_of_getElem? (i := 1272) (by decide +kernel), List.mem_of_getElem? (i := 1273) (by decide +kernel)⟩
theorem lw_p46 : lw_okq (⟨"PuzzleWedModel", "parts", "(I)V"⟩, 47) := ⟨⟨by decide +kernel, by decide +kernel⟩, List.mem_of_getElem? (i := 1097) (by decide +kernel), List.mem_of_getElem? (i := 1276) (by decide +kernel), List.mem_of_getElem? (i := 1277) (by decide +kernel)⟩
theorem lw_p47 : lw_okq (⟨"PuzzleWedModel", "isFree", "(I)Z"⟩, 47) := ⟨⟨by decide +kernel, by decide +kernel⟩, List.mem_of_getElem? (i := 1097) (by decide +kernel), List.mem_of_getElem? (i := 1284) (by decide +kernel), List.mem_of_getElem? (i := 1285) (by decide +kernel)⟩
def lw_privs_3 : List (MethodName × Nat) := [(⟨"PuzzleWed$Search", "nextOrder", "()Z"⟩, 8), (⟨"PuzzleWed$Search", "swap", "(II)V"⟩, 8), (⟨"PuzzleWed$Search", "commonDivisor", "()I"⟩, 8), (⟨"PuzzleWed", "canSand", "(III)Z"⟩, 15), (⟨"PuzzleWed$Sander", "weigh", "(IIIJ)V"⟩, 11), (⟨"PuzzleWed$Sander", "bestHere", "(II)J"⟩, 11), (⟨"PuzzleWed$Sander", "leastOf", "(II)J"⟩, 11), (⟨"PuzzleWed$Sander", "read", "(J)V"⟩, 11), (⟨"PuzzleWed", "fitOthers", "(I[II)I"⟩, 15), (⟨"PuzzleWed", "rulesAll", "(II)Z"⟩, 15), (⟨"PuzzleWed", "cut", "(I[I)V"⟩, 15), (⟨"PuzzleWed", "madeBy", "(II)I"⟩, 15), (⟨"PuzzleWedModel", "isPerson", "(I)Z"⟩, 47), (⟨"PuzzleWedModel", "lives", "(I)Z"⟩, 47), (⟨"PuzzleWedModel", "parts", "(I)V"⟩, 47), (⟨"PuzzleWedModel", "isFree", "(I)Z"⟩, 47)]
theorem lw_r3 : ∀ q ∈ lw_privs_3, lw_okq q := List.forall_mem_cons.mpr ⟨lw_p32, List.forall_mem_cons.mpr ⟨lw_p33, List.forall_mem_cons.mpr ⟨lw_p34, List.forall_mem_cons.mpr ⟨lw_p35, List.forall_mem_cons.mpr ⟨lw_p36, List.forall_mem_cons.mpr ⟨lw_p37, List.forall_mem_cons.mpr ⟨lw_p38, List.forall_mem_cons.mpr ⟨lw_p39, List.forall_mem_cons.mpr ⟨lw_p40, List.forall_mem_cons.mpr ⟨lw_p41, List.forall_mem_cons.mpr ⟨lw_p42, List.forall_mem_cons.mpr ⟨lw_p43, List.forall_mem_cons.mpr ⟨lw_p44, List.forall_mem_cons.mpr ⟨lw_p45, List.forall_mem_cons.mpr ⟨lw_p46, List.forall_mem_cons.mpr ⟨lw_p47, fun _ h => absurd h List.not_mem_nil⟩⟩⟩⟩⟩⟩⟩⟩⟩⟩⟩⟩⟩⟩⟩⟩
theorem lw_p48 : lw_okq (⟨"PuzzleWedModel", "wedsTwo", "(II)V"⟩, 47) := ⟨⟨by decide +kernel, by decide +kernel⟩, List.mem_of_getElem? (i := 1097) (by decide +kernel), List.mem_of_getElem? (i := 1288) (by decide +kernel), List.mem_of_getElem? (i := 1289) (by decide +kernel)⟩
theorem lw_p49 : lw_okq (⟨"PuzzleWedModel", "types", "(I)V"⟩, 47) := ⟨⟨by decide +kernel, by decide +kernel⟩, List.mem_of_getElem? (i := 1097) (by decide +kernel), List.mem_of_getElem? (i := 1296) (by decide +kernel), List.mem_of_getElem? (i := 1297) (by decide +kernel)⟩
theorem lw_p50 : lw_okq (⟨"PuzzleWedModel", "readsClause", "()Z"⟩, 47) := ⟨⟨by decide +kernel, by decide +kernel⟩, List.mem_of_getElem? (i := 1097) (by decide +kernel), List.mem_of_getElem? (i := 1304) (by decide +kernel), List.mem_of_getElem? (i := 1305) (by decide +kernel)⟩
theorem lw_p51 : lw_okq (⟨"PuzzleWedModel", "here", "()I"⟩, 47) := ⟨⟨by decide +kernel, by decide +kernel⟩, List.mem_of_getElem? (i := 1097) (by decide +kernel), List.mem_of_getElem? (i := 1308) (by decide +kernel), List.mem_of_getElem? (i := 1309) (by decide +kernel)⟩
theorem lw_p52 : lw_okq (⟨"PuzzleWedModel", "wrongAt", "(II)Z"⟩, 47) := ⟨⟨by decide +kernel, by decide +kernel⟩, List.mem_of_getElem? (i := 1097) (by decide +kernel), List.mem_of_getElem? (i := 1315) (by decide +kernel), List.mem_of_getElem? (i := 1316) (by decide +kernel)⟩
theorem lw_p53 : lw_okq (⟨"PuzzleWedModel", "readsSum", "()Z"⟩, 47) := ⟨⟨by decide +kernel, by decide +kernel⟩, List.mem_of_getElem? (i := 1097) (by decide +kernel), List.mem_of_getElem? (i := 1319) (by decide +kernel), List.mem_of_getElem? (i := 1320) (by decide +kernel)⟩
theorem lw_p54 : lw_okq (⟨"PuzzleWedModel", "readsFactor", "()Z"⟩, 47) := ⟨⟨by decide +kernel, by decide +kernel⟩, List.mem_of_getElem? (i := 1097) (by decide +kernel), List.mem_of_getElem? (i := 1323) (by decide +kernel), List.mem_of_getElem? (i := 1324) (by decide +kernel)⟩
theorem lw_p55 : lw_okq (⟨"PuzzleWedModel", "opens", "(I)Z"⟩, 47) := ⟨⟨by decide +kernel, by decide +kernel⟩, List.mem_of_getElem? (i := 1097) (by decide +kernel), List.mem_of_getElem? (i := 1327) (by decide +kernel), List.mem_of_getElem? (i := 1328) (by decide +kernel)⟩
theorem lw_p56 : lw_okq (⟨"PuzzleWedModel", "isDigit", "()Z"⟩, 47) := ⟨⟨by decide +kernel, by decide +kernel⟩, List.mem_of_getElem? (i := 1097) (by decide +kernel), List.mem_of_getElem? (i := 1332) (by decide +kernel), List.mem_of_getElem? (i := 1333) (by decide +kernel)⟩
theorem lw_p57 : lw_okq (⟨"PuzzleWedModel", "readsNumber", "()Z"⟩, 47) := ⟨⟨by decide +kernel, by decide +kernel⟩, List.mem_of_getElem? (i := 1097) (by decide +kernel), List.mem_of_getElem? (i := 1336) (by decide +kernel), List.mem_of_getElem? (i := 1337) (by decide +kernel)⟩
theorem lw_p58 : lw_okq (⟨"PuzzleWedModel", "notes", "(II)V"⟩, 47) := ⟨⟨by decide +kernel, by decide +kernel⟩, List.mem_of_getElem? (i := 1097) (by decide +kernel), List.mem_of_getElem? (i := 1340) (by decide +kernel), List.mem_of_getElem? (i := 1341) (by decide +kernel)⟩
theorem lw_p59 : lw_okq (⟨"PuzzleWedModel", "closesSums", "(Z)V"⟩, 47) := ⟨⟨by decide +kernel, by decide +kernel⟩, List.mem_of_getElem? (i := 1097) (by decide +kernel), List.mem_of_getElem? (i := 1350) (by decide +kernel), List.mem_of_getElem? (i := 1351) (by decide +kernel)⟩
theorem lw_p60 : lw_okq (⟨"PuzzleWedModel", "waitTop", "()I"⟩, 47) := ⟨⟨by decide +kernel, by decide +kernel⟩, List.mem_of_getElem? (i := 1097) (by decide +kernel), List.mem_of_getElem? (i := 1354) (by decide +kernel), List.mem_of_getElem? (i := 1355) (by decide +kernel)⟩
theorem lw_p61 : lw_okq (⟨"PuzzleWedModel", "hasOpenSum", "(I)Z"⟩, 47) := ⟨⟨by decide +kernel, by decide +kernel⟩, List.mem_of_getElem? (i := 1097) (by decide +kernel), List.mem_of_getElem? (i := 1358) (by decide +kernel), List.mem_of_getElem? (i := 1359) (by decide +kernel)⟩
theorem lw_p62 : lw_okq (⟨"PuzzleWedModel", "readsCondition", "()Z"⟩, 47) := ⟨⟨by decide +kernel, by decide +kernel⟩, List.mem_of_getElem? (i := 1097) (by decide +kernel), List.mem_of_getElem? (i := 1362) (by decide +kernel), List.mem_of_getElem? (i := 1363) (by decide +kernel)⟩
theorem lw_p63 : lw_okq (⟨"PuzzleWedModel", "readsCompared", "()Z"⟩, 47) := ⟨⟨by decide +kernel, by decide +kernel⟩, List.mem_of_getElem? (i := 1097) (by decide +kernel), List.mem_of_getElem? (i := 1366) (by decide +kernel), List.mem_of_getElem? (i := 1367) (by decide +kernel)⟩
def lw_privs_4 : List (MethodName × Nat) := [(⟨"PuzzleWedModel", "wedsTwo", "(II)V"⟩, 47), (⟨"PuzzleWedModel", "types", "(I)V"⟩, 47), (⟨"PuzzleWedModel", "readsClause", "()Z"⟩, 47), (⟨"PuzzleWedModel", "here", "()I"⟩, 47), (⟨"PuzzleWedModel", "wrongAt", "(II)Z"⟩, 47), (⟨"PuzzleWedModel", "readsSum", "()Z"⟩, 47), (⟨"PuzzleWedModel", "readsFactor", "()Z"⟩, 47), (⟨"PuzzleWedModel", "opens", "(I)Z"⟩, 47), (⟨"PuzzleWedModel", "isDigit", "()Z"⟩, 47), (⟨"PuzzleWedModel", "readsNumber", "()Z"⟩, 47), (⟨"PuzzleWedModel", "notes", "(II)V"⟩, 47), (⟨"PuzzleWedModel", "closesSums", "(Z)V"⟩, 47), (⟨"PuzzleWedModel", "waitTop", "()I"⟩, 47), (⟨"PuzzleWedModel", "hasOpenSum", "(I)Z"⟩, 47), (⟨"PuzzleWedModel", "readsCondition", "()Z"⟩, 47), (⟨"PuzzleWedModel", "readsCompared", "()Z"⟩, 47)]
theorem lw_r4 : ∀ q ∈ lw_privs_4, lw_okq q := List.forall_mem_cons.mpr ⟨lw_p48, List.forall_mem_cons.mpr ⟨lw_p49, List.forall_mem_cons.mpr ⟨lw_p50, List.forall_mem_cons.mpr ⟨lw_p51, List.forall_mem_cons.mpr ⟨lw_p52, List.forall_mem_cons.mpr ⟨lw_p53, List.forall_mem_cons.mpr ⟨lw_p54, List.forall_mem_cons.mpr ⟨lw_p55, List.forall_mem_cons.mpr ⟨lw_p56, List.forall_mem_cons.mpr ⟨lw_p57, List.forall_mem_cons.mpr ⟨lw_p58, List.forall_mem_cons.mpr ⟨lw_p59, List.forall_mem_cons.mpr ⟨lw_p60, List.forall_mem_cons.mpr ⟨lw_p61, List.forall_mem_cons.mpr ⟨lw_p62, List.forall_mem_cons.mpr ⟨lw_p63, fun _ h => absurd h List.not_mem_nil⟩⟩⟩⟩⟩⟩⟩⟩⟩⟩⟩⟩⟩⟩⟩⟩
theorem lw_p64 : lw_okq (⟨"PuzzleWedModel", "endsPiece", "()V"⟩, 47) := ⟨⟨by decide +kernel, by decide +kernel⟩, List.mem_of_getElem? (i := 1097) (by decide +kernel), List.mem_of_getElem? (i := 1370) (by decide +kernel), List.mem_of_getElem? (i := 1371) (by decide +kernel)⟩
theorem lw_p65 : lw_okq (⟨"PuzzleWedModel", "lands", "(Z)V"⟩, 47) := ⟨⟨by decide +kernel, by decide +kernel⟩, List.mem_of_getElem? (i := 1097) (by decide +kernel), List.mem_of_getElem? (i := 1374) (by decide +kernel), List.mem_of_getElem? (i := 1375) (by decide +kernel)⟩
theorem lw_p66 : lw_okq (⟨"PuzzleWedModel", "jumps", "(I)V"⟩, 47) := ⟨⟨by decide +kernel, by decide +kernel⟩, List.mem_of_getElem? (i := 1097) (by decide +kernel), List.mem_of_getElem? (i := 1378) (by decide +kernel), List.mem_of_getElem? (i := 1379) (by decide +kernel)⟩
theorem lw_p67 : lw_okq (⟨"PuzzleWedModel", "takes", "(I)Z"⟩, 47) := ⟨⟨by decide +kernel, by decide +kernel⟩, List.mem_of_getElem? (i := 1097) (by decide +kernel), List.mem_of_getElem? (i := 1382) (by decide +kernel), List.mem_of_getElem? (i := 1383) (by decide +kernel)⟩
theorem lw_p68 : lw_okq (⟨"PuzzleWedModel", "readsHeight", "()Z"⟩, 47) := ⟨⟨by decide +kernel, by decide +kernel⟩, List.mem_of_getElem? (i := 1097) (by decide +kernel), List.mem_of_getElem? (i := 1390) (by decide +kernel), List.mem_of_getElem? (i := 1391) (by decide +kernel)⟩
theorem lw_p69 : lw_okq (⟨"PuzzleWedModel", "readsStop", "()Z"⟩, 47) := ⟨⟨by decide +kernel, by decide +kernel⟩, List.mem_of_getElem? (i := 1097) (by decide +kernel), List.mem_of_getElem? (i := 1401) (by decide +kernel), List.mem_of_getElem? (i := 1402) (by decide +kernel)⟩
theorem lw_p70 : lw_okq (⟨"PuzzleWedModel", "daysGo", "(I)V"⟩, 47) := ⟨⟨by decide +kernel, by decide +kernel⟩, List.mem_of_getElem? (i := 1097) (by decide +kernel), List.mem_of_getElem? (i := 1409) (by decide +kernel), List.mem_of_getElem? (i := 1410) (by decide +kernel)⟩
theorem lw_p71 : lw_okq (⟨"PuzzleWedModel", "travels", "(I)V"⟩, 47) := ⟨⟨by decide +kernel, by decide +kernel⟩, List.mem_of_getElem? (i := 1097) (by decide +kernel), List.mem_of_getElem? (i := 1413) (by decide +kernel), List.mem_of_getElem? (i := 1414) (by decide +kernel)⟩
theorem lw_p72 : lw_okq (⟨"PuzzleWedModel", "triesIn", "(II)V"⟩, 47) := ⟨⟨by decide +kernel, by decide +kernel⟩, List.mem_of_getElem? (i := 1097) (by decide +kernel), List.mem_of_getElem? (i := 1417) (by decide +kernel), List.mem_of_getElem? (i := 1418) (by decide +kernel)⟩
theorem lw_p73 : lw_okq (⟨"PuzzleWedModel", "haveTried", "(II)V"⟩, 47) := ⟨⟨by decide +kernel, by decide +kernel⟩, List.mem_of_getElem? (i := 1097) (by decide +kernel), List.mem_of_getElem? (i := 1421) (by decide +kernel), List.mem_of_getElem? (i := 1422) (by decide +kernel)⟩
theorem lw_p74 : lw_okq (⟨"PuzzleWedModel", "fit", "(II)Z"⟩, 47) := ⟨⟨by decide +kernel, by decide +kernel⟩, List.mem_of_getElem? (i := 1097) (by decide +kernel), List.mem_of_getElem? (i := 1425) (by decide +kernel), List.mem_of_getElem? (i := 1426) (by decide +kernel)⟩
theorem lw_p75 : lw_okq (⟨"PuzzleWedModel", "slackBy", "(II)I"⟩, 47) := ⟨⟨by decide +kernel, by decide +kernel⟩, List.mem_of_getElem? (i := 1097) (by decide +kernel), List.mem_of_getElem? (i := 1429) (by decide +kernel), List.mem_of_getElem? (i := 1430) (by decide +kernel)⟩
theorem lw_p76 : lw_okq (⟨"PuzzleWedModel", "slackOf", "(II)I"⟩, 47) := ⟨⟨by decide +kernel, by decide +kernel⟩, List.mem_of_getElem? (i := 1097) (by decide +kernel), List.mem_of_getElem? (i := 1434) (by decide +kernel), List.mem_of_getElem? (i := 1435) (by decide +kernel)⟩
theorem lw_p77 : lw_okq (⟨"PuzzleWedModel", "heightOf", "(II)I"⟩, 47) := ⟨⟨by decide +kernel, by decide +kernel⟩, List.mem_of_getElem? (i := 1097) (by decide +kernel), List.mem_of_getElem? (i := 1438) (by decide +kernel), List.mem_of_getElem? (i := 1439) (by decide +kernel)⟩
theorem lw_p78 : lw_okq (⟨"PuzzleWedModel", "allowed", "(II)I"⟩, 47) := ⟨⟨by decide +kernel, by decide +kernel⟩, List.mem_of_getElem? (i := 1097) (by decide +kernel), List.mem_of_getElem? (i := 1448) (by decide +kernel), List.mem_of_getElem? (i := 1449) (by decide +kernel)⟩
theorem lw_p79 : lw_okq (⟨"PuzzleWedModel", "feels", "(III)V"⟩, 47) := ⟨⟨by decide +kernel, by decide +kernel⟩, List.mem_of_getElem? (i := 1097) (by decide +kernel), List.mem_of_getElem? (i := 1452) (by decide +kernel), List.mem_of_getElem? (i := 1453) (by decide +kernel)⟩
def lw_privs_5 : List (MethodName × Nat) := [(⟨"PuzzleWedModel", "endsPiece", "()V"⟩, 47), (⟨"PuzzleWedModel", "lands", "(Z)V"⟩, 47), (⟨"PuzzleWedModel", "jumps", "(I)V"⟩, 47), (⟨"PuzzleWedModel", "takes", "(I)Z"⟩, 47), (⟨"PuzzleWedModel", "readsHeight", "()Z"⟩, 47), (⟨"PuzzleWedModel", "readsStop", "()Z"⟩, 47), (⟨"PuzzleWedModel", "daysGo", "(I)V"⟩, 47), (⟨"PuzzleWedModel", "travels", "(I)V"⟩, 47), (⟨"PuzzleWedModel", "triesIn", "(II)V"⟩, 47), (⟨"PuzzleWedModel", "haveTried", "(II)V"⟩, 47), (⟨"PuzzleWedModel", "fit", "(II)Z"⟩, 47), (⟨"PuzzleWedModel", "slackBy", "(II)I"⟩, 47), (⟨"PuzzleWedModel", "slackOf", "(II)I"⟩, 47), (⟨"PuzzleWedModel", "heightOf", "(II)I"⟩, 47), (⟨"PuzzleWedModel", "allowed", "(II)I"⟩, 47), (⟨"PuzzleWedModel", "feels", "(III)V"⟩, 47)]
theorem lw_r5 : ∀ q ∈ lw_privs_5, lw_okq q := List.forall_mem_cons.mpr ⟨lw_p64, List.forall_mem_cons.mpr ⟨lw_p65, List.forall_mem_cons.mpr ⟨lw_p66, List.forall_mem_cons.mpr ⟨lw_p67, List.forall_mem_cons.mpr ⟨lw_p68, List.forall_mem_cons.mpr ⟨lw_p69, List.forall_mem_cons.mpr ⟨lw_p70, List.forall_mem_cons.mpr ⟨lw_p71, List.forall_mem_cons.mpr ⟨lw_p72, List.forall_mem_cons.mpr ⟨lw_p73, List.forall_mem_cons.mpr ⟨lw_p74, List.forall_mem_cons.mpr ⟨lw_p75, List.forall_mem_cons.mpr ⟨lw_p76, List.forall_mem_cons.mpr ⟨lw_p77, List.forall_mem_cons.mpr ⟨lw_p78, List.forall_mem_cons.mpr ⟨lw_p79, fun _ h => absurd h List.not_mem_nil⟩⟩⟩⟩⟩⟩⟩⟩⟩⟩⟩⟩⟩⟩⟩⟩
theorem lw_p80 : lw_okq (⟨"PuzzleWedModel", "byLaw", "(II)I"⟩, 47) := ⟨⟨by decide +kernel, by decide +kernel⟩, List.mem_of_getElem? (i := 1097) (by decide +kernel), List.mem_of_getElem? (i := 1459) (by decide +kernel), List.mem_of_getElem? (i := 1460) (by decide +kernel)⟩
theorem lw_p81 : lw_okq (⟨"PuzzleWedModel", "comesTo", "(II)I"⟩, 47) := ⟨⟨by decide +kernel, by decide +kernel⟩, List.mem_of_getElem? (i := 1097) (by decide +kernel), List.mem_of_getElem? (i := 1463) (by decide +kernel), List.mem_of_getElem? (i := 1464) (by decide +kernel)⟩
theorem lw_p82 : lw_okq (⟨"PuzzleWedModel", "wearsBy", "(II)I"⟩, 47) := ⟨⟨by decide +kernel, by decide +kernel⟩, List.mem_of_getElem? (i := 1097) (by decide +kernel), List.mem_of_getElem? (i := 1470) (by decide +kernel), List.mem_of_getElem? (i := 1471) (by decide +kernel)⟩
theorem lw_p83 : lw_okq (⟨"PuzzleWedModel", "wearsAll", "(II)V"⟩, 47) := ⟨⟨by decide +kernel, by decide +kernel⟩, List.mem_of_getElem? (i := 1097) (by decide +kernel), List.mem_of_getElem? (i := 1474) (by decide +kernel), List.mem_of_getElem? (i := 1475) (by decide +kernel)⟩
theorem lw_p84 : lw_okq (⟨"PuzzleWedModel", "creak", "(I)V"⟩, 47) := ⟨⟨by decide +kernel, by decide +kernel⟩, List.mem_of_getElem? (i := 1097) (by decide +kernel), List.mem_of_getElem? (i := 1478) (by decide +kernel), List.mem_of_getElem? (i := 1479) (by decide +kernel)⟩
theorem lw_p85 : lw_okq (⟨"PuzzleWedModel", "draws", "()I"⟩, 47) := ⟨⟨by decide +kernel, by decide +kernel⟩, List.mem_of_getElem? (i := 1097) (by decide +kernel), List.mem_of_getElem? (i := 1482) (by decide +kernel), List.mem_of_getElem? (i := 1483) (by decide +kernel)⟩
theorem lw_p86 : lw_okq (⟨"PuzzleWedModel", "wedTwos", "()I"⟩, 47) := ⟨⟨by decide +kernel, by decide +kernel⟩, List.mem_of_getElem? (i := 1097) (by decide +kernel), List.mem_of_getElem? (i := 1494) (by decide +kernel), List.mem_of_getElem? (i := 1495) (by decide +kernel)⟩
theorem lw_p87 : lw_okq (⟨"PuzzleWedModel", "fitting", "(I)I"⟩, 47) := ⟨⟨by decide +kernel, by decide +kernel⟩, List.mem_of_getElem? (i := 1097) (by decide +kernel), List.mem_of_getElem? (i := 1502) (by decide +kernel), List.mem_of_getElem? (i := 1503) (by decide +kernel)⟩
theorem lw_p88 : lw_okq (⟨"PuzzleWedModel", "likes", "(II)I"⟩, 47) := ⟨⟨by decide +kernel, by decide +kernel⟩, List.mem_of_getElem? (i := 1097) (by decide +kernel), List.mem_of_getElem? (i := 1514) (by decide +kernel), List.mem_of_getElem? (i := 1515) (by decide +kernel)⟩
theorem lw_p89 : lw_okq (⟨"PuzzleWedModel", "laysFits", "()V"⟩, 47) := ⟨⟨by decide +kernel, by decide +kernel⟩, List.mem_of_getElem? (i := 1097) (by decide +kernel), List.mem_of_getElem? (i := 1522) (by decide +kernel), List.mem_of_getElem? (i := 1523) (by decide +kernel)⟩
theorem lw_p90 : lw_okq (⟨"PuzzleWedModel", "isOne", "(II)Z"⟩, 47) := ⟨⟨by decide +kernel, by decide +kernel⟩, List.mem_of_getElem? (i := 1097) (by decide +kernel), List.mem_of_getElem? (i := 1530) (by decide +kernel), List.mem_of_getElem? (i := 1531) (by decide +kernel)⟩
theorem lw_p91 : lw_okq (⟨"PuzzleWedModel", "laysMost", "()V"⟩, 47) := ⟨⟨by decide +kernel, by decide +kernel⟩, List.mem_of_getElem? (i := 1097) (by decide +kernel), List.mem_of_getElem? (i := 1534) (by decide +kernel), List.mem_of_getElem? (i := 1535) (by decide +kernel)⟩
theorem lw_p92 : lw_okq (⟨"PuzzleWedModel", "mayGet", "(III)Z"⟩, 47) := ⟨⟨by decide +kernel, by decide +kernel⟩, List.mem_of_getElem? (i := 1097) (by decide +kernel), List.mem_of_getElem? (i := 1539) (by decide +kernel), List.mem_of_getElem? (i := 1540) (by decide +kernel)⟩
theorem lw_p93 : lw_okq (⟨"PuzzleWedModel", "getsBy", "(I)I"⟩, 47) := ⟨⟨by decide +kernel, by decide +kernel⟩, List.mem_of_getElem? (i := 1097) (by decide +kernel), List.mem_of_getElem? (i := 1543) (by decide +kernel), List.mem_of_getElem? (i := 1544) (by decide +kernel)⟩
theorem lw_p94 : lw_okq (⟨"PuzzleWedModel", "laysStable", "()V"⟩, 47) := ⟨⟨by decide +kernel, by decide +kernel⟩, List.mem_of_getElem? (i := 1097) (by decide +kernel), List.mem_of_getElem? (i := 1551) (by decide +kernel), List.mem_of_getElem? (i := 1552) (by decide +kernel)⟩
theorem lw_p95 : lw_okq (⟨"PuzzleWedModel", "nextAsked", "(I)I"⟩, 47) := ⟨⟨by decide +kernel, by decide +kernel⟩, List.mem_of_getElem? (i := 1097) (by decide +kernel), List.mem_of_getElem? (i := 1555) (by decide +kernel), List.mem_of_getElem? (i := 1556) (by decide +kernel)⟩
def lw_privs_6 : List (MethodName × Nat) := [(⟨"PuzzleWedModel", "byLaw", "(II)I"⟩, 47), (⟨"PuzzleWedModel", "comesTo", "(II)I"⟩, 47), (⟨"PuzzleWedModel", "wearsBy", "(II)I"⟩, 47), (⟨"PuzzleWedModel", "wearsAll", "(II)V"⟩, 47), (⟨"PuzzleWedModel", "creak", "(I)V"⟩, 47), (⟨"PuzzleWedModel", "draws", "()I"⟩, 47), (⟨"PuzzleWedModel", "wedTwos", "()I"⟩, 47), (⟨"PuzzleWedModel", "fitting", "(I)I"⟩, 47), (⟨"PuzzleWedModel", "likes", "(II)I"⟩, 47), (⟨"PuzzleWedModel", "laysFits", "()V"⟩, 47), (⟨"PuzzleWedModel", "isOne", "(II)Z"⟩, 47), (⟨"PuzzleWedModel", "laysMost", "()V"⟩, 47), (⟨"PuzzleWedModel", "mayGet", "(III)Z"⟩, 47), (⟨"PuzzleWedModel", "getsBy", "(I)I"⟩, 47), (⟨"PuzzleWedModel", "laysStable", "()V"⟩, 47), (⟨"PuzzleWedModel", "nextAsked", "(I)I"⟩, 47)]
theorem lw_r6 : ∀ q ∈ lw_privs_6, lw_okq q := List.forall_mem_cons.mpr ⟨lw_p80, List.forall_mem_cons.mpr ⟨lw_p81, List.forall_mem_cons.mpr ⟨lw_p82, List.forall_mem_cons.mpr ⟨lw_p83, List.forall_mem_cons.mpr ⟨lw_p84, List.forall_mem_cons.mpr ⟨lw_p85, List.forall_mem_cons.mpr ⟨lw_p86, List.forall_mem_cons.mpr ⟨lw_p87, List.forall_mem_cons.mpr ⟨lw_p88, List.forall_mem_cons.mpr ⟨lw_p89, List.forall_mem_cons.mpr ⟨lw_p90, List.forall_mem_cons.mpr ⟨lw_p91, List.forall_mem_cons.mpr ⟨lw_p92, List.forall_mem_cons.mpr ⟨lw_p93, List.forall_mem_cons.mpr ⟨lw_p94, List.forall_mem_cons.mpr ⟨lw_p95, fun _ h => absurd h List.not_mem_nil⟩⟩⟩⟩⟩⟩⟩⟩⟩⟩⟩⟩⟩⟩⟩⟩
theorem lw_p96 : lw_okq (⟨"PuzzleWedModel", "keeps", "(II)Z"⟩, 47) := ⟨⟨by decide +kernel, by decide +kernel⟩, List.mem_of_getElem? (i := 1097) (by decide +kernel), List.mem_of_getElem? (i := 1559) (by decide +kernel), List.mem_of_getElem? (i := 1560) (by decide +kernel)⟩
theorem lw_p97 : lw_okq (⟨"PuzzleWedModel", "likesWed", "(I)I"⟩, 47) := ⟨⟨by decide +kernel, by decide +kernel⟩, List.mem_of_getElem? (i := 1097) (by decide +kernel), List.mem_of_getElem? (i := 1567) (by decide +kernel), List.mem_of_getElem? (i := 1568) (by decide +kernel)⟩
theorem lw_p98 : lw_okq (⟨"PuzzleWedModel", "areBounds", "(I)Z"⟩, 47) := ⟨⟨by decide +kernel, by decide +kernel⟩, List.mem_of_getElem? (i := 1097) (by decide +kernel), List.mem_of_getElem? (i := 1575) (by decide +kernel), List.mem_of_getElem? (i := 1576) (by decide +kernel)⟩
theorem lw_p99 : lw_okq (⟨"PuzzleWedModel", "readsRow", "(II)Z"⟩, 47) := ⟨⟨by decide +kernel, by decide +kernel⟩, List.mem_of_getElem? (i := 1097) (by decide +kernel), List.mem_of_getElem? (i := 1579) (by decide +kernel), List.mem_of_getElem? (i := 1580) (by decide +kernel)⟩
theorem lw_p100 : lw_okq (⟨"PuzzleWedModel", "sumBy", "(I)I"⟩, 47) := ⟨⟨by decide +kernel, by decide +kernel⟩, List.mem_of_getElem? (i := 1097) (by decide +kernel), List.mem_of_getElem? (i := 1583) (by decide +kernel), List.mem_of_getElem? (i := 1584) (by decide +kernel)⟩
theorem lw_p101 : lw_okq (⟨"PuzzleWedModel", "laysWork", "(I)V"⟩, 47) := ⟨⟨by decide +kernel, by decide +kernel⟩, List.mem_of_getElem? (i := 1097) (by decide +kernel), List.mem_of_getElem? (i := 1594) (by decide +kernel), List.mem_of_getElem? (i := 1595) (by decide +kernel)⟩
theorem lw_p102 : lw_okq (⟨"PuzzleWedModel", "workBy", "(IIII)I"⟩, 47) := ⟨⟨by decide +kernel, by decide +kernel⟩, List.mem_of_getElem? (i := 1097) (by decide +kernel), List.mem_of_getElem? (i := 1598) (by decide +kernel), List.mem_of_getElem? (i := 1599) (by decide +kernel)⟩
theorem lw_p103 : lw_okq (⟨"PuzzleWedModel", "workAt", "(III)I"⟩, 47) := ⟨⟨by decide +kernel, by decide +kernel⟩, List.mem_of_getElem? (i := 1097) (by decide +kernel), List.mem_of_getElem? (i := 1602) (by decide +kernel), List.mem_of_getElem? (i := 1603) (by decide +kernel)⟩
theorem lw_p104 : lw_okq (⟨"PuzzleWedModel", "laysSanded", "(II)V"⟩, 47) := ⟨⟨by decide +kernel, by decide +kernel⟩, List.mem_of_getElem? (i := 1097) (by decide +kernel), List.mem_of_getElem? (i := 1606) (by decide +kernel), List.mem_of_getElem? (i := 1607) (by decide +kernel)⟩
theorem lw_p105 : lw_okq (⟨"PuzzleWedModel", "slackOfSanded", "(I)I"⟩, 47) := ⟨⟨by decide +kernel, by decide +kernel⟩, List.mem_of_getElem? (i := 1097) (by decide +kernel), List.mem_of_getElem? (i := 1610) (by decide +kernel), List.mem_of_getElem? (i := 1611) (by decide +kernel)⟩
theorem lw_p106 : lw_okq (⟨"PuzzleWedModel", "slackSteamed", "(IIII)I"⟩, 47) := ⟨⟨by decide +kernel, by decide +kernel⟩, List.mem_of_getElem? (i := 1097) (by decide +kernel), List.mem_of_getElem? (i := 1618) (by decide +kernel), List.mem_of_getElem? (i := 1619) (by decide +kernel)⟩
theorem lw_p107 : lw_okq (⟨"PuzzleWedModel", "makesAll", "(II)Z"⟩, 47) := ⟨⟨by decide +kernel, by decide +kernel⟩, List.mem_of_getElem? (i := 1097) (by decide +kernel), List.mem_of_getElem? (i := 1630) (by decide +kernel), List.mem_of_getElem? (i := 1631) (by decide +kernel)⟩
theorem lw_p108 : lw_okq (⟨"PuzzleWedModel", "makes", "(III)Z"⟩, 47) := ⟨⟨by decide +kernel, by decide +kernel⟩, List.mem_of_getElem? (i := 1097) (by decide +kernel), List.mem_of_getElem? (i := 1634) (by decide +kernel), List.mem_of_getElem? (i := 1635) (by decide +kernel)⟩
theorem lw_p109 : lw_okq (⟨"PuzzleWedModel", "areSame", "(II)Z"⟩, 47) := ⟨⟨by decide +kernel, by decide +kernel⟩, List.mem_of_getElem? (i := 1097) (by decide +kernel), List.mem_of_getElem? (i := 1642) (by decide +kernel), List.mem_of_getElem? (i := 1643) (by decide +kernel)⟩
def lw_privs_7 : List (MethodName × Nat) := [(⟨"PuzzleWedModel", "keeps", "(II)Z"⟩, 47), (⟨"PuzzleWedModel", "likesWed", "(I)I"⟩, 47), (⟨"PuzzleWedModel", "areBounds", "(I)Z"⟩, 47), (⟨"PuzzleWedModel", "readsRow", "(II)Z"⟩, 47), (⟨"PuzzleWedModel", "sumBy", "(I)I"⟩, 47), (⟨"PuzzleWedModel", "laysWork", "(I)V"⟩, 47), (⟨"PuzzleWedModel", "workBy", "(IIII)I"⟩, 47), (⟨"PuzzleWedModel", "workAt", "(III)I"⟩, 47), (⟨"PuzzleWedModel", "laysSanded", "(II)V"⟩, 47), (⟨"PuzzleWedModel", "slackOfSanded", "(I)I"⟩, 47), (⟨"PuzzleWedModel", "slackSteamed", "(IIII)I"⟩, 47), (⟨"PuzzleWedModel", "makesAll", "(II)Z"⟩, 47), (⟨"PuzzleWedModel", "makes", "(III)Z"⟩, 47), (⟨"PuzzleWedModel", "areSame", "(II)Z"⟩, 47)]
theorem lw_r7 : ∀ q ∈ lw_privs_7, lw_okq q := List.forall_mem_cons.mpr ⟨lw_p96, List.forall_mem_cons.mpr ⟨lw_p97, List.forall_mem_cons.mpr ⟨lw_p98, List.forall_mem_cons.mpr ⟨lw_p99, List.forall_mem_cons.mpr ⟨lw_p100, List.forall_mem_cons.mpr ⟨lw_p101, List.forall_mem_cons.mpr ⟨lw_p102, List.forall_mem_cons.mpr ⟨lw_p103, List.forall_mem_cons.mpr ⟨lw_p104, List.forall_mem_cons.mpr ⟨lw_p105, List.forall_mem_cons.mpr ⟨lw_p106, List.forall_mem_cons.mpr ⟨lw_p107, List.forall_mem_cons.mpr ⟨lw_p108, List.forall_mem_cons.mpr ⟨lw_p109, fun _ h => absurd h List.not_mem_nil⟩⟩⟩⟩⟩⟩⟩⟩⟩⟩⟩⟩⟩⟩
def lw_privs : List (MethodName × Nat) := lw_privs_1 ++ (lw_privs_2 ++ (lw_privs_3 ++ (lw_privs_4 ++ (lw_privs_5 ++ (lw_privs_6 ++ (lw_privs_7))))))
def lw_tbl : List Cond := k2_sels lw_privs ++ tables_1
theorem lw_privs_ok : ∀ q ∈ lw_privs, lw_okq q := by
  show ∀ q ∈ lw_privs_1 ++ (lw_privs_2 ++ (lw_privs_3 ++ (lw_privs_4 ++ (lw_privs_5 ++ (lw_privs_6 ++ (lw_privs_7)))))), lw_okq q
  exact List.forall_mem_append.mpr ⟨lw_r1, List.forall_mem_append.mpr ⟨lw_r2, List.forall_mem_append.mpr ⟨lw_r3, List.forall_mem_append.mpr ⟨lw_r4, List.forall_mem_append.mpr ⟨lw_r5, List.forall_mem_append.mpr ⟨lw_r6, lw_r7⟩⟩⟩⟩⟩⟩
/-! ===== BEGIN words of one list among another's, by their places ===== -/
theorem goodIn_r {big : List Cond} (ws : List Cond) (ps : List Nat) (hp : ws = ps.filterMap (fun i => big[i]?)) (h : ws.all goodWord = true) : GoodIn big ws := by
  intro w hw
  have h1 := List.all_eq_true.mp h w hw
  rw [hp] at hw
  obtain ⟨i, -, hi⟩ := List.mem_filterMap.mp hw
  have hm : w ∈ big := by first | exact List.mem_of_getElem? hi | exact List.getElem?_mem hi
  exact ⟨hm, good_of_word h1⟩
theorem goodIn_app {big a b : List Cond} (ha : GoodIn big a) (hb : GoodIn big b) : GoodIn big (a ++ b) := fun w h => (List.mem_append.mp h).elim (ha w) (hb w)
theorem goodIn_ca {big a b : List Cond} {c : Cond} (ha : GoodIn big (c :: a)) (hb : GoodIn big b) : GoodIn big (c :: (a ++ b)) := fun w h => (List.mem_cons.mp h).elim (fun e => ha w (List.mem_cons.mpr (Or.inl e))) (fun h => (List.mem_append.mp h).elim (fun h => ha w (List.mem_cons.mpr (Or.inr h))) (hb w))
theorem goodIn_sub {big ws : List Cond} (hm : ∀ w ∈ ws, w ∈ big) (h : ws.all goodWord = true) : GoodIn big ws := fun w hw => ⟨hm w hw, good_of_word (List.all_eq_true.mp h w hw)⟩
/-! ===== END ===== -/

/-! ===== BEGIN new T[n][m]: the outer array a place, the inner ones among the pooled ===== -/
/-- f, but v at every address of l -/
def vr_up {α : Type} (f : Nat → α) (l : List Nat) (v : α) : Nat → α := fun a => if a ∈ l then v else f a
theorem vr_up_in {α : Type} {f : Nat → α} {l : List Nat} {v : α} {a : Nat} (h : a ∈ l) : vr_up f l v a = v := if_pos h
theorem vr_up_ne {α : Type} {f : Nat → α} {l : List Nat} {v : α} {a : Nat} (h : a ∉ l) : vr_up f l v a = f a := if_neg h
theorem vr_rows {L l : List Nat} {f : Nat → va_E} {e : va_E} (h : ∀ a, a ∈ l → a ∉ L) : va_pl L f ++ l.map (fun a => (a, e)) = va_pl (L ++ l) (vr_up f l e) := by
  unfold va_pl
  rw [List.map_append]
  congr 1
  · apply List.map_congr_left
    intro a ha
    rw [vr_up_ne (fun q => h a q ha)]
  · apply List.map_congr_left
    intro a ha
    rw [vr_up_in ha]
theorem vr_lay {X rows : va_W} {x : Nat × va_E} {pl : va_W} {D : va_G} {cl : List vw_C} {H : Heap} (hP : va_P D cl (((X ++ pl) ++ [x]) ++ rows) H) : va_P D cl ((X ++ [x]) ++ (pl ++ rows)) H := by
  rw [List.append_assoc (X ++ pl)] at hP
  have h := va_P.swap hP
  rw [← List.append_assoc X] at h
  have h2 := va_P.swap h
  rw [List.append_assoc (X ++ [x])] at h2
  exact h2
theorem vr_layD {X rows : va_W} {x : Nat × va_E} {pl : va_W} {A : Nat → Prop} (hD : va_D A (((X ++ pl) ++ [x]) ++ rows)) : va_D A ((X ++ [x]) ++ (pl ++ rows)) := by
  rw [List.append_assoc (X ++ pl)] at hD
  have h := va_D.swap hD
  rw [← List.append_assoc X] at h
  have h2 := va_D.swap h
  rw [List.append_assoc (X ++ [x])] at h2
  exact h2
theorem vr_outer (c : ClassId) (N h0 : Nat) : ∀ i : Nat, Jvm.Free.Multi.outerC c N h0 i = arrV c N (fun j => va_rf (if j < i then some (h0 + 1 + j) else none))
  | 0 => by
    show ({ cls := c, slots := Array.replicate N .null, vm := .none } : Cell) = _
    rw [arrV_new]
    refine congrArg (arrV c N) (funext fun j => ?_)
    simp [va_rf]
  | i + 1 => by
    show (Jvm.Free.Multi.outerC c N h0 i).setSlot i (.ref (h0 + 1 + i)) = _
    rw [vr_outer c N h0 i, arrV_store]
    refine congrArg (arrV c N) (funext fun j => ?_)
    by_cases e : j = i
    · subst e
      simp [updV, va_rf]
    · by_cases h : j < i
      · simp [updV, e, h, Nat.lt_succ_of_lt h]
      · simp [updV, e, h, show ¬ j < i + 1 by omega]
def va_AOA (t : FieldType) (U : State) : Prop := (Cond.arrayOver (.array t)).before #[] U = true
theorem va_AOA.use {t : FieldType} {A : Array Value} {U : State} (h : va_AOA t U) : (Cond.arrayOver (.array t)).before A U = true := h
section VGM
variable {p : Program} {l : Launch} {e : Env} {R : Room} {s : State} {m : MethodId} {args : Array Value} {below : List Frame} {meth : Method} {c : Code} {H : Heap} {locs : List Loc} {cells slots : Nat} {Q : State → Prop}
variable {cc : ByteArray} {pc : Nat} {ls : Array Slot} {rest : List Value} {D : va_G} {cl : List vw_C} {A : Nat → Prop} {a : Nat} {tys : List (ClassId × FieldType)} {ws : va_W} {H0 : Heap}
theorem va_mna {X : va_W} {L : List Nat} {f : Nat → va_E} {cc : ByteArray} (hexec : p.tables.exec = Jvm.exec) (hb : c.code = cc) {own : String} {index : Nat} {ty : FieldType} {cy : ClassId} (hown : s.vm.findClass own = some m.cls) (hclink : (Cond.classLink own index ("[" ++ (FieldType.array ty).toString)).before args s = true) (hover : va_AOA ty s) (harr : (Cond.arrayClass ty).before args s = true) (hcy : s.vm.findClass (FieldType.array ty).toString = some cy)
    (hK : va_K D cl tys s) (hP : va_P D cl (X ++ va_pl L f) H) (hD : va_D A (X ++ va_pl L f)) (hS : va_S A H0 H locs) (hA : ∀ q, H0.size ≤ q → A q) {n k : Int32} {N' K' : Nat} {z : vp_A} (hn : ¬ n < 0) (hk : ¬ k < 0) (hN : n.toNatClampNeg = N') (hM : k.toNatClampNeg = K')
    (hb1 : N' * 4 ≤ 536870912) (hb2 : K' * componentBytes ty ≤ 536870912) (hb3 : K' ≤ 536870912) (hdf : fits ty (defaultValue ty) = true) (hdd : (defaultValue ty).isDefault = true) (hcells : cells + (1 + N') ≤ R.cells) (hslots : slots + (N' + N' * K') ≤ R.slots) (hz : ∀ c : ClassId, Jvm.Free.Multi.innerC c K' (defaultValue ty) = vp_cell c z) (hdg : decode cc pc = .ok (.multianewarray index 2, 4))
    (kk : ∀ (q : Nat) (r : Nat → Nat) (cA : ClassId) (H1 : Heap), (∀ i j : Nat, i < N' → j < N' → r i = r j → i = j) → (∀ i : Nat, i < N' → r i ∉ L) → va_K D cl (tys ++ [(cA, .array ty)]) s →
      va_P D cl ((X ++ [(q, .inl (cA, N', .inr (.inr (.inr (.inr (fun i => if i < N' then some (r i) else none))))))]) ++ va_pl (L ++ (List.range N').map r) (vr_up f ((List.range N').map r) (.inl (cy, z)))) H1 → va_D A ((X ++ [(q, .inl (cA, N', .inr (.inr (.inr (.inr (fun i => if i < N' then some (r i) else none))))))]) ++ va_pl (L ++ (List.range N').map r) (vr_up f ((List.range N').map r) (.inl (cy, z)))) → va_S A H0 H1 locs →
      W p l e R s m args below meth c H1 locs (cells + 1 + N') (slots + N' + N' * K') Q (F0 m (pc + 4) ls (.ref q :: rest))) : W p l e R s m args below meth c H locs cells slots Q (F0 m pc ls (.int k :: .int n :: rest)) := by
  subst hN
  subst hM
  intro T hT Xs
  obtain ⟨vm₁, cA, comp, -, fA, fC, hO, -, X', step⟩ := Xs.multianewarray2F hexec hown hclink (va_AOA.use hover) harr (g := F0 m pc ls (.int k :: .int n :: rest)) rfl (by rw [hb]; exact hdg) rfl hn hk hb1 hb2 hb3 hdf hdd hcells hslots
  have ec : some cy = some comp := hcy.symm.trans fC
  cases ec
  generalize hF : Jvm.Free.Multi.fill (T.setVm vm₁) cA cy n.toNatClampNeg k.toNatClampNeg (defaultValue ty) n.toNatClampNeg = F at X' step
  have hTh : (T.setVm vm₁).heap = H := hT
  obtain ⟨f1, f2, -, -⟩ := Jvm.Free.Multi.fill_facts (T.setVm vm₁) cA cy n.toNatClampNeg k.toNatClampNeg (defaultValue ty) n.toNatClampNeg
  rw [hF, hTh] at f1 f2
  have hold : ∀ x : Nat, x < H.size → F.heap[x]? = H[x]? := fun x hx => by
    have := Jvm.Free.Multi.fill_old (T.setVm vm₁) cA cy n.toNatClampNeg k.toNatClampNeg (defaultValue ty) (a := x) (by rw [hTh]; exact hx) n.toNatClampNeg
    rw [hF, hTh] at this
    exact this
  have hrow : ∀ j : Nat, j < n.toNatClampNeg → F.heap[H.size + 1 + j]? = some (vp_cell cy z) := fun j hj => by
    have := Jvm.Free.Multi.fill_inner (T.setVm vm₁) cA cy n.toNatClampNeg k.toNatClampNeg (defaultValue ty) n.toNatClampNeg j hj
    rw [hF, hTh, hz] at this
    exact this
  have hout : Jvm.Free.Multi.outerC cA n.toNatClampNeg H.size n.toNatClampNeg = vp_cell cA (n.toNatClampNeg, .inr (.inr (.inr (.inr (fun i => if i < n.toNatClampNeg then some (H.size + 1 + i) else none))))) := by
    rw [vp_cell_q]
    exact vr_outer cA n.toNatClampNeg H.size n.toNatClampNeg
  rw [hout] at f2
  have hlt : ∀ a, a ∈ L → a < H.size := fun a ha => by
    obtain ⟨k9, hk9⟩ := va_pl_get (X := X) (f := f) ha
    exact (hP k9 _ hk9).lt
  have hnl : ∀ i : Nat, i < n.toNatClampNeg → H.size + 1 + i ∉ L := fun i _ h => by
    have := hlt _ h
    omega
  have hnm : ∀ a, a ∈ (List.range n.toNatClampNeg).map (fun i => H.size + 1 + i) → a ∉ L := fun a ha h => by
    obtain ⟨i, -, rfl⟩ := List.mem_map.mp ha
    have := hlt _ h
    omega
  have hP0 : va_P D cl (X ++ va_pl L f) F.heap := hP.kept (fun k9 x hx => hold x.1 ((hP k9 x hx).lt))
  have hP1 : va_P D cl ((X ++ va_pl L f) ++ [(H.size, .inl (cA, n.toNatClampNeg, .inr (.inr (.inr (.inr (fun i => if i < n.toNatClampNeg then some (H.size + 1 + i) else none))))))]) F.heap := hP0.app (fun k9 x hx => by
    have h0 : k9 < 1 := (List.getElem?_eq_some_iff.mp hx).1
    rw [show k9 = 0 by omega] at hx
    cases hx
    exact f2)
  have hP2 : va_P D cl (((X ++ va_pl L f) ++ [(H.size, .inl (cA, n.toNatClampNeg, .inr (.inr (.inr (.inr (fun i => if i < n.toNatClampNeg then some (H.size + 1 + i) else none))))))]) ++ ((List.range n.toNatClampNeg).map (fun i => H.size + 1 + i)).map (fun a => (a, .inl (cy, z)))) F.heap := hP1.app (fun k9 x hx => by
    obtain ⟨a, ha, rfl⟩ := List.mem_map.mp (List.mem_of_getElem? hx)
    obtain ⟨i, hi, rfl⟩ := List.mem_map.mp ha
    exact hrow i (List.mem_range.mp hi))
  have hD2 : va_D A (((X ++ va_pl L f) ++ [(H.size, .inl (cA, n.toNatClampNeg, .inr (.inr (.inr (.inr (fun i => if i < n.toNatClampNeg then some (H.size + 1 + i) else none))))))]) ++ ((List.range n.toNatClampNeg).map (fun i => H.size + 1 + i)).map (fun a => (a, .inl (cy, z)))) := by
    have hD1 := hD.push (e := .inl (cA, n.toNatClampNeg, .inr (.inr (.inr (.inr (fun i => if i < n.toNatClampNeg then some (H.size + 1 + i) else none)))))) hP rfl (hA _ hS.1)
    generalize hW1 : (X ++ va_pl L f) ++ [(H.size, .inl (cA, n.toNatClampNeg, .inr (.inr (.inr (.inr (fun i => if i < n.toNatClampNeg then some (H.size + 1 + i) else none))))))] = W1 at hD1 hP1 ⊢
    have hle : ∀ (k9 : Nat) (x : Nat × va_E), W1[k9]? = some x → x.1 ≤ H.size := fun k9 x hx => by
      rw [← hW1] at hx
      by_cases hl : k9 < (X ++ va_pl L f).length
      · rw [List.getElem?_append_left hl] at hx
        exact Nat.le_of_lt ((hP k9 x hx).lt)
      · rw [List.getElem?_append_right (by omega)] at hx
        have h0 : k9 - (X ++ va_pl L f).length < 1 := (List.getElem?_eq_some_iff.mp hx).1
        rw [show k9 - (X ++ va_pl L f).length = 0 by omega] at hx
        cases hx
        exact Nat.le_refl _
    have hr : ∀ (k9 : Nat) (x : Nat × va_E), (((List.range n.toNatClampNeg).map (fun i => H.size + 1 + i)).map (fun a => ((a, .inl (cy, z)) : Nat × va_E)))[k9]? = some x → x.1 = H.size + 1 + k9 := fun k9 x hx => by
      rw [List.getElem?_map, List.getElem?_map] at hx
      by_cases h9 : k9 < n.toNatClampNeg
      · rw [List.getElem?_range h9] at hx
        cases hx
        rfl
      · have hn0 : (List.range n.toNatClampNeg)[k9]? = none := List.getElem?_eq_none (by rw [List.length_range]; omega)
        rw [hn0] at hx
        cases hx
    refine ⟨fun i j x y hi hj hxy => ?_, fun k9 x hx => ?_⟩
    · by_cases h1 : i < W1.length <;> by_cases h2 : j < W1.length
      · rw [List.getElem?_append_left h1] at hi
        rw [List.getElem?_append_left h2] at hj
        exact hD1.1 i j x y hi hj hxy
      · rw [List.getElem?_append_left h1] at hi
        rw [List.getElem?_append_right (by omega)] at hj
        have := hle _ _ hi
        have := hr _ _ hj
        omega
      · rw [List.getElem?_append_right (by omega)] at hi
        rw [List.getElem?_append_left h2] at hj
        have := hle _ _ hj
        have := hr _ _ hi
        omega
      · rw [List.getElem?_append_right (by omega)] at hi hj
        have := hr _ _ hi
        have := hr _ _ hj
        omega
    · by_cases h1 : k9 < W1.length
      · rw [List.getElem?_append_left h1] at hx
        exact hD1.2 k9 x hx
      · rw [List.getElem?_append_right (by omega)] at hx
        have := hr _ _ hx
        exact hA _ (by have := hS.1; omega)
  have hAr : ArrOfT s cA (.array ty) := fun N9 z9 => by
    obtain ⟨-, k9, hk9, cm9, hkk9⟩ := (hO 0 0 0).1
    exact ⟨(fun q hq => by cases hq), k9, hk9, cm9, hkk9⟩
  have hK2 : va_K D cl (tys ++ [(cA, .array ty)]) s := ⟨hK.1, fun k9 x hx => by
    by_cases hl : k9 < tys.length
    · rw [List.getElem?_append_left hl] at hx
      exact hK.2 k9 x hx
    · rw [List.getElem?_append_right (by omega)] at hx
      have h0 : k9 - tys.length < 1 := (List.getElem?_eq_some_iff.mp hx).1
      rw [show k9 - tys.length = 0 by omega] at hx
      cases hx
      exact ⟨hAr, fA⟩⟩
  obtain ⟨t, a1, b1⟩ := kk H.size (fun i => H.size + 1 + i) cA F.heap (fun i j _ _ h => by have h9 : H.size + 1 + i = H.size + 1 + j := h; omega) hnl hK2 (by rw [← vr_rows hnm]; exact vr_lay hP2) (by rw [← vr_rows hnm]; exact vr_layD hD2) ⟨by rw [f1]; have := hS.1; omega, fun x h1 h2 => (hold x (Nat.lt_of_lt_of_le h1 hS.1)).trans (hS.2.1 x h1 h2), hS.2.2⟩ F rfl X'
  refine ⟨t, step t ?_, b1⟩
  have e : T.heap.size = H.size := by rw [hT]
  rw [e]
  exact a1
end VGM
/-! ===== END ===== -/

/-! ===== BEGIN printed: names, fields, word lists, decode rows ===== -/
def RX0 : String := "PuzzleWed$Couples"
def TX0 : u_T := fun k => match k with
  | 0 => ("PuzzleWed$Couples", "judge", "LPuzzleWed$Judge;", true)
  | 1 => ("PuzzleWed$Couples", "partner", "[I", true)
  | 2 => ("PuzzleWed$Couples", "twos", "I", false)
  | 3 => ("PuzzleWed$Couples", "slackSum", "I", false)
  | 4 => ("PuzzleWed$Couples", "ones", "[I", true)
  | 5 => ("PuzzleWed$Couples", "others", "[I", true)
  | 6 => ("PuzzleWed$Couples", "oneCount", "I", false)
  | 7 => ("PuzzleWed$Couples", "otherCount", "I", false)
  | 8 => ("PuzzleWed$Couples", "bond", "[[I", true)
  | 9 => ("PuzzleWed$Couples", "best", "[I", true)
  | _ => ("PuzzleWed$Couples", "asked", "[I", true)
def tyX0 : Nat → FieldType := fun k => match k with
  | 0 => .object "PuzzleWed$Judge"
  | 1 => .array .int
  | 2 => .int
  | 3 => .int
  | 4 => .array .int
  | 5 => .array .int
  | 6 => .int
  | 7 => .int
  | 8 => .array (.array .int)
  | 9 => .array .int
  | _ => .array .int
abbrev wsX00 : List Cond := u_ws RX0 TX0 11
theorem nmX0 : ∀ a, a < 11 → ∀ b, b < 11 → a ≠ b → (TX0 a).2.1 ≠ (TX0 b).2.1 := by decide +kernel
theorem tyX0_ok : ∀ k, k < 11 → parseFieldDescriptor (TX0 k).2.2.1 = some (tyX0 k) := by decide +kernel
abbrev cX0_init : ByteArray := prog_2_method_1_code
def yX0_init : MethodName := ⟨RX0, "<init>", "(LPuzzleWed$Judge;)V"⟩
abbrev cX0_gather : ByteArray := prog_2_method_2_code
def yX0_gather : MethodName := ⟨RX0, "gather", "(LPuzzleWed$Land;)V"⟩
abbrev cX0_findMost : ByteArray := prog_2_method_3_code
def yX0_findMost : MethodName := ⟨RX0, "findMost", "(LPuzzleWed$Land;)V"⟩
abbrev cX0_weighAll : ByteArray := prog_2_method_4_code
def yX0_weighAll : MethodName := ⟨RX0, "weighAll", "()V"⟩
abbrev cX0_choose : ByteArray := prog_2_method_5_code
def yX0_choose : MethodName := ⟨RX0, "choose", "(II)I"⟩
abbrev cX0_withBond : ByteArray := prog_2_method_6_code
def yX0_withBond : MethodName := ⟨RX0, "withBond", "(III)I"⟩
abbrev cX0_bestOf : ByteArray := prog_2_method_7_code
def yX0_bestOf : MethodName := ⟨RX0, "bestOf", "(II)I"⟩
abbrev cX0_setBest : ByteArray := prog_2_method_8_code
def yX0_setBest : MethodName := ⟨RX0, "setBest", "(III)V"⟩
abbrev cX0_findStable : ByteArray := prog_2_method_9_code
def yX0_findStable : MethodName := ⟨RX0, "findStable", "(LPuzzleWed$Land;)V"⟩
abbrev cX0_askNext : ByteArray := prog_2_method_10_code
def yX0_askNext : MethodName := ⟨RX0, "askNext", "(I)Z"⟩
abbrev cX0_prefers : ByteArray := prog_2_method_11_code
def yX0_prefers : MethodName := ⟨RX0, "prefers", "(III)Z"⟩
def RX1 : String := "PuzzleWed$Course"
def TX1 : u_T := fun k => match k with
  | 0 => ("PuzzleWed$Course", "judge", "LPuzzleWed$Judge;", true)
  | 1 => ("PuzzleWed$Course", "wed", "I", false)
  | 2 => ("PuzzleWed$Course", "tries", "I", false)
  | _ => ("PuzzleWed$Course", "parted", "I", false)
def tyX1 : Nat → FieldType := fun k => match k with
  | 0 => .object "PuzzleWed$Judge"
  | 1 => .int
  | 2 => .int
  | _ => .int
abbrev wsX10 : List Cond := u_ws RX1 TX1 4
theorem nmX1 : ∀ a, a < 4 → ∀ b, b < 4 → a ≠ b → (TX1 a).2.1 ≠ (TX1 b).2.1 := by decide +kernel
theorem tyX1_ok : ∀ k, k < 4 → parseFieldDescriptor (TX1 k).2.2.1 = some (tyX1 k) := by decide +kernel
abbrev cX1_init : ByteArray := prog_3_method_1_code
def yX1_init : MethodName := ⟨RX1, "<init>", "(LPuzzleWed$Judge;)V"⟩
abbrev cX1_pass : ByteArray := prog_3_method_2_code
def yX1_pass : MethodName := ⟨RX1, "pass", "(LPuzzleWed$Land;I)V"⟩
abbrev cX1_travel : ByteArray := prog_3_method_3_code
def yX1_travel : MethodName := ⟨RX1, "travel", "(LPuzzleWed$Land;)V"⟩
abbrev cX1_meet : ByteArray := prog_3_method_4_code
def yX1_meet : MethodName := ⟨RX1, "meet", "(LPuzzleWed$Land;)V"⟩
abbrev cX1_nextFor : ByteArray := prog_3_method_5_code
def yX1_nextFor : MethodName := ⟨RX1, "nextFor", "(LPuzzleWed$Land;II)I"⟩
abbrev cX1_strain : ByteArray := prog_3_method_6_code
def yX1_strain : MethodName := ⟨RX1, "strain", "(LPuzzleWed$Land;)V"⟩
def RX2 : String := "PuzzleWed$Judge"
def TX2 : u_T := fun k => match k with
  | 0 => ("PuzzleWed$Judge", "law", "LPuzzleWed$Law;", true)
  | _ => ("PuzzleWed$Judge", "letters", "[I", true)
def tyX2 : Nat → FieldType := fun k => match k with
  | 0 => .object "PuzzleWed$Law"
  | _ => .array .int
abbrev wsX20 : List Cond := u_ws RX2 TX2 2
theorem nmX2 : ∀ a, a < 2 → ∀ b, b < 2 → a ≠ b → (TX2 a).2.1 ≠ (TX2 b).2.1 := by decide +kernel
theorem tyX2_ok : ∀ k, k < 2 → parseFieldDescriptor (TX2 k).2.2.1 = some (tyX2 k) := by decide +kernel
abbrev cX2_init : ByteArray := prog_4_method_1_code
def yX2_init : MethodName := ⟨RX2, "<init>", "(LPuzzleWed$Law;)V"⟩
abbrev cX2_gap : ByteArray := prog_4_method_2_code
def yX2_gap : MethodName := ⟨RX2, "gap", "([I[I)I"⟩
abbrev cX2_slackOf : ByteArray := prog_4_method_3_code
def yX2_slackOf : MethodName := ⟨RX2, "slackOf", "(LPuzzleWed$Land;II)I"⟩
abbrev cX2_fit : ByteArray := prog_4_method_4_code
def yX2_fit : MethodName := ⟨RX2, "fit", "(LPuzzleWed$Land;II)Z"⟩
abbrev cX2_allowance : ByteArray := prog_4_method_5_code
def yX2_allowance : MethodName := ⟨RX2, "allowance", "(LPuzzleWed$Land;II)I"⟩
abbrev cX2_liking : ByteArray := prog_4_method_6_code
def yX2_liking : MethodName := ⟨RX2, "liking", "(LPuzzleWed$Land;II)I"⟩
abbrev cX2_wearOf : ByteArray := prog_4_method_7_code
def yX2_wearOf : MethodName := ⟨RX2, "wearOf", "(LPuzzleWed$Land;II)I"⟩
abbrev cX2_isFirst : ByteArray := prog_4_method_8_code
def yX2_isFirst : MethodName := ⟨RX2, "isFirst", "(LPuzzleWed$Land;II)Z"⟩
abbrev cX2_rule : ByteArray := prog_4_method_9_code
def yX2_rule : MethodName := ⟨RX2, "rule", "(IILPuzzleWed$Land;III)I"⟩
abbrev cX2_fill : ByteArray := prog_4_method_10_code
def yX2_fill : MethodName := ⟨RX2, "fill", "(LPuzzleWed$Land;III)V"⟩
def RX3 : String := "PuzzleWed$Land"
def TX3 : u_T := fun k => match k with
  | 0 => ("PuzzleWed$Land", "told", "I", false)
  | 1 => ("PuzzleWed$Land", "living", "I", false)
  | 2 => ("PuzzleWed$Land", "side", "[I", true)
  | 3 => ("PuzzleWed$Land", "town", "[I", true)
  | 4 => ("PuzzleWed$Land", "wedTo", "[I", true)
  | 5 => ("PuzzleWed$Land", "creaks", "[I", true)
  | 6 => ("PuzzleWed$Land", "triedBits", "[I", true)
  | 7 => ("PuzzleWed$Land", "holder", "[I", true)
  | 8 => ("PuzzleWed$Land", "wear", "[I", true)
  | 9 => ("PuzzleWed$Land", "height", "[[I", true)
  | 10 => ("PuzzleWed$Land", "way", "[[I", true)
  | 11 => ("PuzzleWed$Land", "wayLength", "[I", true)
  | 12 => ("PuzzleWed$Land", "wayGone", "[I", true)
  | 13 => ("PuzzleWed$Land", "day", "I", false)
  | _ => ("PuzzleWed$Land", "x", "I", false)
def tyX3 : Nat → FieldType := fun k => match k with
  | 0 => .int
  | 1 => .int
  | 2 => .array .int
  | 3 => .array .int
  | 4 => .array .int
  | 5 => .array .int
  | 6 => .array .int
  | 7 => .array .int
  | 8 => .array .int
  | 9 => .array (.array .int)
  | 10 => .array (.array .int)
  | 11 => .array .int
  | 12 => .array .int
  | 13 => .int
  | _ => .int
abbrev wsX30 : List Cond := u_ws RX3 TX3 15
theorem nmX3 : ∀ a, a < 15 → ∀ b, b < 15 → a ≠ b → (TX3 a).2.1 ≠ (TX3 b).2.1 := by decide +kernel
theorem tyX3_ok : ∀ k, k < 15 → parseFieldDescriptor (TX3 k).2.2.1 = some (tyX3 k) := by decide +kernel
abbrev cX3_init : ByteArray := prog_5_method_1_code
def yX3_init : MethodName := ⟨RX3, "<init>", "()V"⟩
abbrev cX3_isTold : ByteArray := prog_5_method_2_code
def yX3_isTold : MethodName := ⟨RX3, "isTold", "(I)Z"⟩
abbrev cX3_isAlive : ByteArray := prog_5_method_3_code
def yX3_isAlive : MethodName := ⟨RX3, "isAlive", "(I)Z"⟩
abbrev cX3_isFree : ByteArray := prog_5_method_4_code
def yX3_isFree : MethodName := ⟨RX3, "isFree", "(I)Z"⟩
abbrev cX3_join : ByteArray := prog_5_method_5_code
def yX3_join : MethodName := ⟨RX3, "join", "(II)V"⟩
abbrev cX3_separate : ByteArray := prog_5_method_6_code
def yX3_separate : MethodName := ⟨RX3, "separate", "(II)V"⟩
abbrev cX3_hasTried : ByteArray := prog_5_method_7_code
def yX3_hasTried : MethodName := ⟨RX3, "hasTried", "(II)Z"⟩
abbrev cX3_markTried : ByteArray := prog_5_method_8_code
def yX3_markTried : MethodName := ⟨RX3, "markTried", "(II)V"⟩
abbrev cX3_bury : ByteArray := prog_5_method_9_code
def yX3_bury : MethodName := ⟨RX3, "bury", "(I)V"⟩
abbrev cX3_piecesOf : ByteArray := prog_5_method_10_code
def yX3_piecesOf : MethodName := ⟨RX3, "piecesOf", "(I)I"⟩
abbrev cX3_wearDown : ByteArray := prog_5_method_11_code
def yX3_wearDown : MethodName := ⟨RX3, "wearDown", "(II)V"⟩
abbrev cX3_countTwos : ByteArray := prog_5_method_12_code
def yX3_countTwos : MethodName := ⟨RX3, "countTwos", "()I"⟩
abbrev cX3_whoIsIn : ByteArray := prog_5_method_13_code
def yX3_whoIsIn : MethodName := ⟨RX3, "whoIsIn", "(I)I"⟩
abbrev cX3_draw : ByteArray := prog_5_method_14_code
def yX3_draw : MethodName := ⟨RX3, "draw", "()I"⟩
abbrev cX3_copyFrom : ByteArray := prog_5_method_15_code
def yX3_copyFrom : MethodName := ⟨RX3, "copyFrom", "(LPuzzleWed$Land;)V"⟩
def RX4 : String := "PuzzleWed$Law"
def TX4 : u_T := fun k => match k with
  | 0 => ("PuzzleWed$Law", "code", "[I", true)
  | 1 => ("PuzzleWed$Law", "letter", "[I", true)
  | 2 => ("PuzzleWed$Law", "worthAt", "[I", true)
  | 3 => ("PuzzleWed$Law", "whenAt", "[I", true)
  | 4 => ("PuzzleWed$Law", "stack", "[I", true)
  | 5 => ("PuzzleWed$Law", "used", "I", false)
  | _ => ("PuzzleWed$Law", "clauses", "I", false)
def tyX4 : Nat → FieldType := fun k => match k with
  | 0 => .array .int
  | 1 => .array .int
  | 2 => .array .int
  | 3 => .array .int
  | 4 => .array .int
  | 5 => .int
  | _ => .int
abbrev wsX40 : List Cond := u_ws RX4 TX4 7
theorem nmX4 : ∀ a, a < 7 → ∀ b, b < 7 → a ≠ b → (TX4 a).2.1 ≠ (TX4 b).2.1 := by decide +kernel
theorem tyX4_ok : ∀ k, k < 7 → parseFieldDescriptor (TX4 k).2.2.1 = some (tyX4 k) := by decide +kernel
abbrev cX4_init : ByteArray := prog_6_method_1_code
def yX4_init : MethodName := ⟨RX4, "<init>", "()V"⟩
abbrev cX4_emit : ByteArray := prog_6_method_2_code
def yX4_emit : MethodName := ⟨RX4, "emit", "(I)V"⟩
abbrev cX4_copyFrom : ByteArray := prog_6_method_3_code
def yX4_copyFrom : MethodName := ⟨RX4, "copyFrom", "(LPuzzleWed$Law;)V"⟩
abbrev cX4_run : ByteArray := prog_6_method_4_code
def yX4_run : MethodName := ⟨RX4, "run", "(I[I)I"⟩
abbrev cX4_valueOf : ByteArray := prog_6_method_5_code
def yX4_valueOf : MethodName := ⟨RX4, "valueOf", "(I[I)I"⟩
abbrev cX4_reckon : ByteArray := prog_6_method_6_code
def yX4_reckon : MethodName := ⟨RX4, "reckon", "(III)I"⟩
def RX5 : String := "PuzzleWed$LawReader"
def TX5 : u_T := fun k => match k with
  | 0 => ("PuzzleWed$Reader", "tape", "LPuzzleWed$Tape;", true)
  | 1 => ("PuzzleWed$Reader", "length", "I", false)
  | 2 => ("PuzzleWed$Reader", "at", "I", false)
  | 3 => ("PuzzleWed$Reader", "fault", "I", false)
  | _ => ("PuzzleWed$LawReader", "draft", "LPuzzleWed$Law;", true)
def tyX5 : Nat → FieldType := fun k => match k with
  | 0 => .object "PuzzleWed$Tape"
  | 1 => .int
  | 2 => .int
  | 3 => .int
  | _ => .object "PuzzleWed$Law"
abbrev wsX50 : List Cond := u_ws RX5 TX5 5
theorem nmX5 : ∀ a, a < 5 → ∀ b, b < 5 → a ≠ b → (TX5 a).2.1 ≠ (TX5 b).2.1 := by decide +kernel
theorem tyX5_ok : ∀ k, k < 5 → parseFieldDescriptor (TX5 k).2.2.1 = some (tyX5 k) := by decide +kernel
abbrev cX5_init : ByteArray := prog_7_method_1_code
def yX5_init : MethodName := ⟨RX5, "<init>", "(LPuzzleWed$Tape;LPuzzleWed$Law;)V"⟩
abbrev cX5_readLaw : ByteArray := prog_7_method_2_code
def yX5_readLaw : MethodName := ⟨RX5, "readLaw", "(I)Z"⟩
abbrev cX5_readClause : ByteArray := prog_7_method_3_code
def yX5_readClause : MethodName := ⟨RX5, "readClause", "()Z"⟩
abbrev cX5_pass : ByteArray := prog_7_method_4_code
def yX5_pass : MethodName := ⟨RX5, "pass", "(I)Z"⟩
abbrev cX5_readEither : ByteArray := prog_7_method_5_code
def yX5_readEither : MethodName := ⟨RX5, "readEither", "(I)Z"⟩
abbrev cX5_readBoth : ByteArray := prog_7_method_6_code
def yX5_readBoth : MethodName := ⟨RX5, "readBoth", "(I)Z"⟩
abbrev cX5_emitJump : ByteArray := prog_7_method_7_code
def yX5_emitJump : MethodName := ⟨RX5, "emitJump", "(II)I"⟩
abbrev cX5_land : ByteArray := prog_7_method_8_code
def yX5_land : MethodName := ⟨RX5, "land", "(I)V"⟩
abbrev cX5_readTest : ByteArray := prog_7_method_9_code
def yX5_readTest : MethodName := ⟨RX5, "readTest", "(I)Z"⟩
abbrev cX5_readInner : ByteArray := prog_7_method_10_code
def yX5_readInner : MethodName := ⟨RX5, "readInner", "(II)Z"⟩
abbrev cX5_readSum : ByteArray := prog_7_method_11_code
def yX5_readSum : MethodName := ⟨RX5, "readSum", "(I)Z"⟩
abbrev cX5_readProduct : ByteArray := prog_7_method_12_code
def yX5_readProduct : MethodName := ⟨RX5, "readProduct", "(I)Z"⟩
abbrev cX5_readFactor : ByteArray := prog_7_method_13_code
def yX5_readFactor : MethodName := ⟨RX5, "readFactor", "(I)Z"⟩
abbrev cX5_readNumber : ByteArray := prog_7_method_14_code
def yX5_readNumber : MethodName := ⟨RX5, "readNumber", "()Z"⟩
def RX6 : String := "PuzzleWed$ListReader"
def TX6 : u_T := fun k => match k with
  | 0 => ("PuzzleWed$Reader", "tape", "LPuzzleWed$Tape;", true)
  | 1 => ("PuzzleWed$Reader", "length", "I", false)
  | 2 => ("PuzzleWed$Reader", "at", "I", false)
  | 3 => ("PuzzleWed$Reader", "fault", "I", false)
  | 4 => ("PuzzleWed$ListReader", "list", "[I", true)
  | 5 => ("PuzzleWed$ListReader", "filled", "I", false)
  | 6 => ("PuzzleWed$ListReader", "value", "I", false)
  | _ => ("PuzzleWed$ListReader", "times", "I", false)
def tyX6 : Nat → FieldType := fun k => match k with
  | 0 => .object "PuzzleWed$Tape"
  | 1 => .int
  | 2 => .int
  | 3 => .int
  | 4 => .array .int
  | 5 => .int
  | 6 => .int
  | _ => .int
abbrev wsX60 : List Cond := u_ws RX6 TX6 8
theorem nmX6 : ∀ a, a < 8 → ∀ b, b < 8 → a ≠ b → (TX6 a).2.1 ≠ (TX6 b).2.1 := by decide +kernel
theorem tyX6_ok : ∀ k, k < 8 → parseFieldDescriptor (TX6 k).2.2.1 = some (tyX6 k) := by decide +kernel
abbrev cX6_init : ByteArray := prog_8_method_1_code
def yX6_init : MethodName := ⟨RX6, "<init>", "(LPuzzleWed$Tape;)V"⟩
abbrev cX6_readEdge : ByteArray := prog_8_method_2_code
def yX6_readEdge : MethodName := ⟨RX6, "readEdge", "(I)Z"⟩
abbrev cX6_readWay : ByteArray := prog_8_method_3_code
def yX6_readWay : MethodName := ⟨RX6, "readWay", "(I)Z"⟩
abbrev cX6_readHeight : ByteArray := prog_8_method_4_code
def yX6_readHeight : MethodName := ⟨RX6, "readHeight", "()Z"⟩
abbrev cX6_readTimes : ByteArray := prog_8_method_5_code
def yX6_readTimes : MethodName := ⟨RX6, "readTimes", "(I)Z"⟩
abbrev cX6_put : ByteArray := prog_8_method_6_code
def yX6_put : MethodName := ⟨RX6, "put", "()V"⟩
def RX7 : String := "PuzzleWed$Reader"
def TX7 : u_T := fun k => match k with
  | _ => ("", "", "", false)
def tyX7 : Nat → FieldType := fun k => match k with
  | _ => .int
abbrev wsX70 : List Cond := u_ws RX7 TX7 0
theorem nmX7 : ∀ a, a < 0 → ∀ b, b < 0 → a ≠ b → (TX7 a).2.1 ≠ (TX7 b).2.1 := by decide +kernel
theorem tyX7_ok : ∀ k, k < 0 → parseFieldDescriptor (TX7 k).2.2.1 = some (tyX7 k) := by decide +kernel
abbrev cX7_init : ByteArray := prog_9_method_1_code
def yX7_init : MethodName := ⟨RX7, "<init>", "(LPuzzleWed$Tape;)V"⟩
abbrev cX7_begin : ByteArray := prog_9_method_2_code
def yX7_begin : MethodName := ⟨RX7, "begin", "(I)V"⟩
abbrev cX7_sign : ByteArray := prog_9_method_3_code
def yX7_sign : MethodName := ⟨RX7, "sign", "()I"⟩
abbrev cX7_isEnd : ByteArray := prog_9_method_4_code
def yX7_isEnd : MethodName := ⟨RX7, "isEnd", "()Z"⟩
abbrev cX7_fail : ByteArray := prog_9_method_5_code
def yX7_fail : MethodName := ⟨RX7, "fail", "(I)Z"⟩
abbrev cX7_failAt : ByteArray := prog_9_method_6_code
def yX7_failAt : MethodName := ⟨RX7, "failAt", "(II)Z"⟩
def RX8 : String := "PuzzleWed$Sander"
def TX8 : u_T := fun k => match k with
  | 0 => ("PuzzleWed$Sander", "made", "[I", true)
  | 1 => ("PuzzleWed$Sander", "done", "Z", false)
  | 2 => ("PuzzleWed$Sander", "work", "I", false)
  | 3 => ("PuzzleWed$Sander", "turns", "I", false)
  | 4 => ("PuzzleWed$Sander", "raising", "I", false)
  | 5 => ("PuzzleWed$Sander", "least", "[J", true)
  | 6 => ("PuzzleWed$Sander", "cost", "[J", true)
  | 7 => ("PuzzleWed$Sander", "gapOne", "[I", true)
  | 8 => ("PuzzleWed$Sander", "gapOther", "[I", true)
  | 9 => ("PuzzleWed$Sander", "low", "I", false)
  | _ => ("PuzzleWed$Sander", "high", "I", false)
def tyX8 : Nat → FieldType := fun k => match k with
  | 0 => .array .int
  | 1 => .boolean
  | 2 => .int
  | 3 => .int
  | 4 => .int
  | 5 => .array .long
  | 6 => .array .long
  | 7 => .array .int
  | 8 => .array .int
  | 9 => .int
  | _ => .int
abbrev wsX80 : List Cond := u_ws RX8 TX8 11
theorem nmX8 : ∀ a, a < 11 → ∀ b, b < 11 → a ≠ b → (TX8 a).2.1 ≠ (TX8 b).2.1 := by decide +kernel
theorem tyX8_ok : ∀ k, k < 11 → parseFieldDescriptor (TX8 k).2.2.1 = some (tyX8 k) := by decide +kernel
abbrev cX8_init : ByteArray := prog_10_method_1_code
def yX8_init : MethodName := ⟨RX8, "<init>", "()V"⟩
abbrev cX8_sand : ByteArray := prog_10_method_2_code
def yX8_sand : MethodName := ⟨RX8, "sand", "([I[II[II)V"⟩
abbrev cX8_weigh : ByteArray := prog_10_method_3_code
def yX8_weigh : MethodName := ⟨RX8, "weigh", "(IIIJ)V"⟩
abbrev cX8_bestHere : ByteArray := prog_10_method_4_code
def yX8_bestHere : MethodName := ⟨RX8, "bestHere", "(II)J"⟩
abbrev cX8_leastOf : ByteArray := prog_10_method_5_code
def yX8_leastOf : MethodName := ⟨RX8, "leastOf", "(II)J"⟩
abbrev cX8_read : ByteArray := prog_10_method_6_code
def yX8_read : MethodName := ⟨RX8, "read", "(J)V"⟩
abbrev cX8_steam : ByteArray := prog_10_method_7_code
def yX8_steam : MethodName := ⟨RX8, "steam", "([I[II)V"⟩
def RX9 : String := "PuzzleWed$Search"
def TX9 : u_T := fun k => match k with
  | 0 => ("PuzzleWed$Search", "tape", "LPuzzleWed$Tape;", true)
  | 1 => ("PuzzleWed$Search", "towns", "I", false)
  | 2 => ("PuzzleWed$Search", "weight", "[I", true)
  | 3 => ("PuzzleWed$Search", "travel", "[[I", true)
  | 4 => ("PuzzleWed$Search", "order", "[I", true)
  | 5 => ("PuzzleWed$Search", "bestOrder", "[I", true)
  | 6 => ("PuzzleWed$Search", "bestSum", "I", false)
  | _ => ("PuzzleWed$Search", "weights", "I", false)
def tyX9 : Nat → FieldType := fun k => match k with
  | 0 => .object "PuzzleWed$Tape"
  | 1 => .int
  | 2 => .array .int
  | 3 => .array (.array .int)
  | 4 => .array .int
  | 5 => .array .int
  | 6 => .int
  | _ => .int
abbrev wsX90 : List Cond := u_ws RX9 TX9 8
theorem nmX9 : ∀ a, a < 8 → ∀ b, b < 8 → a ≠ b → (TX9 a).2.1 ≠ (TX9 b).2.1 := by decide +kernel
theorem tyX9_ok : ∀ k, k < 8 → parseFieldDescriptor (TX9 k).2.2.1 = some (tyX9 k) := by decide +kernel
abbrev cX9_init : ByteArray := prog_11_method_1_code
def yX9_init : MethodName := ⟨RX9, "<init>", "(LPuzzleWed$Tape;)V"⟩
abbrev cX9_accept : ByteArray := prog_11_method_2_code
def yX9_accept : MethodName := ⟨RX9, "accept", "(I)Z"⟩
abbrev cX9_find : ByteArray := prog_11_method_3_code
def yX9_find : MethodName := ⟨RX9, "find", "()V"⟩
abbrev cX9_weigh : ByteArray := prog_11_method_4_code
def yX9_weigh : MethodName := ⟨RX9, "weigh", "()V"⟩
abbrev cX9_nextOrder : ByteArray := prog_11_method_5_code
def yX9_nextOrder : MethodName := ⟨RX9, "nextOrder", "()Z"⟩
abbrev cX9_swap : ByteArray := prog_11_method_6_code
def yX9_swap : MethodName := ⟨RX9, "swap", "(II)V"⟩
abbrev cX9_above : ByteArray := prog_11_method_7_code
def yX9_above : MethodName := ⟨RX9, "above", "()I"⟩
abbrev cX9_below : ByteArray := prog_11_method_8_code
def yX9_below : MethodName := ⟨RX9, "below", "()I"⟩
abbrev cX9_commonDivisor : ByteArray := prog_11_method_9_code
def yX9_commonDivisor : MethodName := ⟨RX9, "commonDivisor", "()I"⟩
def RX10 : String := "PuzzleWed$Tape"
def TX10 : u_T := fun k => match k with
  | 0 => ("PuzzleWed$Tape", "bytes", "[I", true)
  | _ => ("PuzzleWed$Tape", "length", "I", false)
def tyX10 : Nat → FieldType := fun k => match k with
  | 0 => .array .int
  | _ => .int
abbrev wsX100 : List Cond := u_ws RX10 TX10 2
theorem nmX10 : ∀ a, a < 2 → ∀ b, b < 2 → a ≠ b → (TX10 a).2.1 ≠ (TX10 b).2.1 := by decide +kernel
theorem tyX10_ok : ∀ k, k < 2 → parseFieldDescriptor (TX10 k).2.2.1 = some (tyX10 k) := by decide +kernel
abbrev cX10_init : ByteArray := prog_12_method_1_code
def yX10_init : MethodName := ⟨RX10, "<init>", "()V"⟩
abbrev cX10_add : ByteArray := prog_12_method_2_code
def yX10_add : MethodName := ⟨RX10, "add", "(I)V"⟩
def RX11 : String := "PuzzleWed"
def TX11 : u_T := fun k => match k with
  | 0 => ("PuzzleWed", "land", "LPuzzleWed$Land;", true)
  | 1 => ("PuzzleWed", "kept", "LPuzzleWed$Land;", true)
  | 2 => ("PuzzleWed", "trial", "LPuzzleWed$Land;", true)
  | 3 => ("PuzzleWed", "hasKept", "Z", false)
  | 4 => ("PuzzleWed", "tape", "LPuzzleWed$Tape;", true)
  | 5 => ("PuzzleWed", "law", "LPuzzleWed$Law;", true)
  | 6 => ("PuzzleWed", "draft", "LPuzzleWed$Law;", true)
  | 7 => ("PuzzleWed", "lawReader", "LPuzzleWed$LawReader;", true)
  | 8 => ("PuzzleWed", "listReader", "LPuzzleWed$ListReader;", true)
  | 9 => ("PuzzleWed", "judge", "LPuzzleWed$Judge;", true)
  | 10 => ("PuzzleWed", "course", "LPuzzleWed$Course;", true)
  | 11 => ("PuzzleWed", "couples", "LPuzzleWed$Couples;", true)
  | 12 => ("PuzzleWed", "quest", "LPuzzleWed$Search;", true)
  | 13 => ("PuzzleWed", "sander", "LPuzzleWed$Sander;", true)
  | _ => ("PuzzleWed", "row", "[I", true)
def tyX11 : Nat → FieldType := fun k => match k with
  | 0 => .object "PuzzleWed$Land"
  | 1 => .object "PuzzleWed$Land"
  | 2 => .object "PuzzleWed$Land"
  | 3 => .boolean
  | 4 => .object "PuzzleWed$Tape"
  | 5 => .object "PuzzleWed$Law"
  | 6 => .object "PuzzleWed$Law"
  | 7 => .object "PuzzleWed$LawReader"
  | 8 => .object "PuzzleWed$ListReader"
  | 9 => .object "PuzzleWed$Judge"
  | 10 => .object "PuzzleWed$Course"
  | 11 => .object "PuzzleWed$Couples"
  | 12 => .object "PuzzleWed$Search"
  | 13 => .object "PuzzleWed$Sander"
  | _ => .array .int
abbrev wsX110 : List Cond := u_ws RX11 TX11 15
theorem nmX11 : ∀ a, a < 15 → ∀ b, b < 15 → a ≠ b → (TX11 a).2.1 ≠ (TX11 b).2.1 := by decide +kernel
theorem tyX11_ok : ∀ k, k < 15 → parseFieldDescriptor (TX11 k).2.2.1 = some (tyX11 k) := by decide +kernel
abbrev cX11_init : ByteArray := prog_1_method_1_code
def yX11_init : MethodName := ⟨RX11, "<init>", "()V"⟩
abbrev cX11_person : ByteArray := prog_1_method_2_code
def yX11_person : MethodName := ⟨RX11, "person", "(III)Z"⟩
abbrev cX11_wear : ByteArray := prog_1_method_3_code
def yX11_wear : MethodName := ⟨RX11, "wear", "(II)Z"⟩
abbrev cX11_dies : ByteArray := prog_1_method_4_code
def yX11_dies : MethodName := ⟨RX11, "dies", "(I)Z"⟩
abbrev cX11_weds : ByteArray := prog_1_method_5_code
def yX11_weds : MethodName := ⟨RX11, "weds", "(II)Z"⟩
abbrev cX11_feed : ByteArray := prog_1_method_6_code
def yX11_feed : MethodName := ⟨RX11, "feed", "(IIIII)I"⟩
abbrev cX11_law : ByteArray := prog_1_method_7_code
def yX11_law : MethodName := ⟨RX11, "law", "(I)I"⟩
abbrev cX11_edge : ByteArray := prog_1_method_8_code
def yX11_edge : MethodName := ⟨RX11, "edge", "(II)I"⟩
abbrev cX11_journey : ByteArray := prog_1_method_9_code
def yX11_journey : MethodName := ⟨RX11, "journey", "(II)I"⟩
abbrev cX11_days : ByteArray := prog_1_method_10_code
def yX11_days : MethodName := ⟨RX11, "days", "(I)I"⟩
abbrev cX11_tried : ByteArray := prog_1_method_11_code
def yX11_tried : MethodName := ⟨RX11, "tried", "(II)I"⟩
abbrev cX11_personIs : ByteArray := prog_1_method_12_code
def yX11_personIs : MethodName := ⟨RX11, "personIs", "(II)I"⟩
abbrev cX11_whomItFits : ByteArray := prog_1_method_13_code
def yX11_whomItFits : MethodName := ⟨RX11, "whomItFits", "(I)I"⟩
abbrev cX11_piece : ByteArray := prog_1_method_14_code
def yX11_piece : MethodName := ⟨RX11, "piece", "(II)I"⟩
abbrev cX11_slack : ByteArray := prog_1_method_15_code
def yX11_slack : MethodName := ⟨RX11, "slack", "(III)I"⟩
abbrev cX11_locks : ByteArray := prog_1_method_16_code
def yX11_locks : MethodName := ⟨RX11, "locks", "(I)I"⟩
abbrev cX11_lowestOf : ByteArray := prog_1_method_17_code
def yX11_lowestOf : MethodName := ⟨RX11, "lowestOf", "(I)I"⟩
abbrev cX11_fitsAbove : ByteArray := prog_1_method_18_code
def yX11_fitsAbove : MethodName := ⟨RX11, "fitsAbove", "(I)I"⟩
abbrev cX11_most : ByteArray := prog_1_method_19_code
def yX11_most : MethodName := ⟨RX11, "most", "(I)I"⟩
abbrev cX11_stable : ByteArray := prog_1_method_20_code
def yX11_stable : MethodName := ⟨RX11, "stable", "(I)I"⟩
abbrev cX11_unrest : ByteArray := prog_1_method_21_code
def yX11_unrest : MethodName := ⟨RX11, "unrest", "(I)I"⟩
abbrev cX11_wouldLeave : ByteArray := prog_1_method_22_code
def yX11_wouldLeave : MethodName := ⟨RX11, "wouldLeave", "(II)Z"⟩
abbrev cX11_likingNow : ByteArray := prog_1_method_23_code
def yX11_likingNow : MethodName := ⟨RX11, "likingNow", "(I)I"⟩
abbrev cX11_search : ByteArray := prog_1_method_24_code
def yX11_search : MethodName := ⟨RX11, "search", "(II)I"⟩
abbrev cX11_sanding : ByteArray := prog_1_method_25_code
def yX11_sanding : MethodName := ⟨RX11, "sanding", "(IIIIIII)I"⟩
abbrev cX11_canSand : ByteArray := prog_1_method_26_code
def yX11_canSand : MethodName := ⟨RX11, "canSand", "(III)Z"⟩
abbrev cX11_fitOthers : ByteArray := prog_1_method_27_code
def yX11_fitOthers : MethodName := ⟨RX11, "fitOthers", "(I[II)I"⟩
abbrev cX11_steaming : ByteArray := prog_1_method_28_code
def yX11_steaming : MethodName := ⟨RX11, "steaming", "(IIII)I"⟩
abbrev cX11_worn : ByteArray := prog_1_method_29_code
def yX11_worn : MethodName := ⟨RX11, "worn", "(II)I"⟩
abbrev cX11_cutter : ByteArray := prog_1_method_30_code
def yX11_cutter : MethodName := ⟨RX11, "cutter", "(II)I"⟩
abbrev cX11_rulesAll : ByteArray := prog_1_method_31_code
def yX11_rulesAll : MethodName := ⟨RX11, "rulesAll", "(II)Z"⟩
abbrev cX11_madeBy : ByteArray := prog_1_method_32_code
def yX11_madeBy : MethodName := ⟨RX11, "madeBy", "(II)I"⟩
abbrev cX11_cut : ByteArray := prog_1_method_33_code
def yX11_cut : MethodName := ⟨RX11, "cut", "(I[I)V"⟩
abbrev cX11_sameRow : ByteArray := prog_1_method_34_code
def yX11_sameRow : MethodName := ⟨RX11, "sameRow", "([I[I)Z"⟩
abbrev cX11_copies : ByteArray := prog_1_method_35_code
def yX11_copies : MethodName := ⟨RX11, "copies", "(I)I"⟩
abbrev cX11_mate : ByteArray := prog_1_method_36_code
def yX11_mate : MethodName := ⟨RX11, "mate", "(II)I"⟩
abbrev cX11_seed : ByteArray := prog_1_method_37_code
def yX11_seed : MethodName := ⟨RX11, "seed", "(I)Z"⟩
abbrev cX11_keep : ByteArray := prog_1_method_38_code
def yX11_keep : MethodName := ⟨RX11, "keep", "()I"⟩
abbrev cX11_undo : ByteArray := prog_1_method_39_code
def yX11_undo : MethodName := ⟨RX11, "undo", "()Z"⟩
abbrev cX11_check : ByteArray := prog_1_method_40_code
def yX11_check : MethodName := ⟨RX11, "check", "(II)I"⟩
abbrev cX11_count : ByteArray := prog_1_method_41_code
def yX11_count : MethodName := ⟨RX11, "count", "(I)I"⟩
abbrev cX11_isNumber : ByteArray := prog_1_method_42_code
def yX11_isNumber : MethodName := ⟨RX11, "isNumber", "(I)Z"⟩
def RX12 : String := "PuzzleWedModel"
def TX12 : u_T := fun k => match k with
  | 0 => ("PuzzleWedModel", "now", "[I", true)
  | 1 => ("PuzzleWedModel", "aside", "[I", true)
  | 2 => ("PuzzleWedModel", "kept", "[I", true)
  | 3 => ("PuzzleWedModel", "tape", "[B", true)
  | 4 => ("PuzzleWedModel", "taped", "I", false)
  | 5 => ("PuzzleWedModel", "place0", "I", false)
  | 6 => ("PuzzleWedModel", "length0", "I", false)
  | 7 => ("PuzzleWedModel", "fault", "I", false)
  | 8 => ("PuzzleWedModel", "number0", "I", false)
  | 9 => ("PuzzleWedModel", "open", "I", false)
  | 10 => ("PuzzleWedModel", "codeMany", "I", false)
  | 11 => ("PuzzleWedModel", "waiting", "I", false)
  | 12 => ("PuzzleWedModel", "saidMany", "I", false)
  | 13 => ("PuzzleWedModel", "clauses", "I", false)
  | 14 => ("PuzzleWedModel", "said", "[I", true)
  | 15 => ("PuzzleWedModel", "waitsAt", "[I", true)
  | 16 => ("PuzzleWedModel", "saidLetter", "[I", true)
  | 17 => ("PuzzleWedModel", "saidFrom", "[I", true)
  | 18 => ("PuzzleWedModel", "saidHalf", "[I", true)
  | 19 => ("PuzzleWedModel", "saidTo", "[I", true)
  | 20 => ("PuzzleWedModel", "codes", "[I", true)
  | 21 => ("PuzzleWedModel", "clauseOf", "[I", true)
  | 22 => ("PuzzleWedModel", "codeFrom", "[I", true)
  | 23 => ("PuzzleWedModel", "codeHalf", "[I", true)
  | 24 => ("PuzzleWedModel", "codeTo", "[I", true)
  | 25 => ("PuzzleWedModel", "stack", "[I", true)
  | 26 => ("PuzzleWedModel", "facts", "[I", true)
  | 27 => ("PuzzleWedModel", "newHeight", "[I", true)
  | 28 => ("PuzzleWedModel", "newStop", "[I", true)
  | 29 => ("PuzzleWedModel", "newMany", "I", false)
  | 30 => ("PuzzleWedModel", "stops", "I", false)
  | 31 => ("PuzzleWedModel", "wedNow", "I", false)
  | 32 => ("PuzzleWedModel", "triesNow", "I", false)
  | 33 => ("PuzzleWedModel", "partsNow", "I", false)
  | 34 => ("PuzzleWedModel", "fitOf", "[I", true)
  | 35 => ("PuzzleWedModel", "slackNow", "[I", true)
  | 36 => ("PuzzleWedModel", "likeOf", "[I", true)
  | 37 => ("PuzzleWedModel", "bestOf", "[I", true)
  | 38 => ("PuzzleWedModel", "askedBy", "[I", true)
  | 39 => ("PuzzleWedModel", "getOf", "[I", true)
  | 40 => ("PuzzleWedModel", "rowNow", "[I", true)
  | 41 => ("PuzzleWedModel", "workOf", "[I", true)
  | 42 => ("PuzzleWedModel", "sanded", "[I", true)
  | 43 => ("PuzzleWedModel", "sandPiece", "I", false)
  | 44 => ("PuzzleWedModel", "sandA", "I", false)
  | 45 => ("PuzzleWedModel", "sandB", "I", false)
  | _ => ("PuzzleWedModel", "isKept", "Z", false)
def tyX12 : Nat → FieldType := fun k => match k with
  | 0 => .array .int
  | 1 => .array .int
  | 2 => .array .int
  | 3 => .array .byte
  | 4 => .int
  | 5 => .int
  | 6 => .int
  | 7 => .int
  | 8 => .int
  | 9 => .int
  | 10 => .int
  | 11 => .int
  | 12 => .int
  | 13 => .int
  | 14 => .array .int
  | 15 => .array .int
  | 16 => .array .int
  | 17 => .array .int
  | 18 => .array .int
  | 19 => .array .int
  | 20 => .array .int
  | 21 => .array .int
  | 22 => .array .int
  | 23 => .array .int
  | 24 => .array .int
  | 25 => .array .int
  | 26 => .array .int
  | 27 => .array .int
  | 28 => .array .int
  | 29 => .int
  | 30 => .int
  | 31 => .int
  | 32 => .int
  | 33 => .int
  | 34 => .array .int
  | 35 => .array .int
  | 36 => .array .int
  | 37 => .array .int
  | 38 => .array .int
  | 39 => .array .int
  | 40 => .array .int
  | 41 => .array .int
  | 42 => .array .int
  | 43 => .int
  | 44 => .int
  | 45 => .int
  | _ => .boolean
abbrev wsX120 : List Cond := u_ws RX12 TX12 47
theorem nmX12 : ∀ a, a < 47 → ∀ b, b < 47 → a ≠ b → (TX12 a).2.1 ≠ (TX12 b).2.1 := by decide +kernel
theorem tyX12_ok : ∀ k, k < 47 → parseFieldDescriptor (TX12 k).2.2.1 = some (tyX12 k) := by decide +kernel
abbrev cX12_init : ByteArray := prog_14_method_1_code
def yX12_init : MethodName := ⟨RX12, "<init>", "()V"⟩
abbrev cX12_in : ByteArray := prog_14_method_2_code
def yX12_in : MethodName := ⟨RX12, "in", "(III)Z"⟩
abbrev cX12_min : ByteArray := prog_14_method_3_code
def yX12_min : MethodName := ⟨RX12, "min", "(II)I"⟩
abbrev cX12_max : ByteArray := prog_14_method_4_code
def yX12_max : MethodName := ⟨RX12, "max", "(II)I"⟩
abbrev cX12_size : ByteArray := prog_14_method_5_code
def yX12_size : MethodName := ⟨RX12, "size", "(I)I"⟩
abbrev cX12_has : ByteArray := prog_14_method_6_code
def yX12_has : MethodName := ⟨RX12, "has", "(II)Z"⟩
abbrev cX12_bits : ByteArray := prog_14_method_7_code
def yX12_bits : MethodName := ⟨RX12, "bits", "(I)I"⟩
abbrev cX12_copiesRow : ByteArray := prog_14_method_8_code
def yX12_copiesRow : MethodName := ⟨RX12, "copiesRow", "([I[I)V"⟩
abbrev cX12_isTwelve : ByteArray := prog_14_method_9_code
def yX12_isTwelve : MethodName := ⟨RX12, "isTwelve", "(I)Z"⟩
abbrev cX12_isPerson : ByteArray := prog_14_method_10_code
def yX12_isPerson : MethodName := ⟨RX12, "isPerson", "(I)Z"⟩
abbrev cX12_lives : ByteArray := prog_14_method_11_code
def yX12_lives : MethodName := ⟨RX12, "lives", "(I)Z"⟩
abbrev cX12_isFree : ByteArray := prog_14_method_12_code
def yX12_isFree : MethodName := ⟨RX12, "isFree", "(I)Z"⟩
abbrev cX12_person : ByteArray := prog_14_method_13_code
def yX12_person : MethodName := ⟨RX12, "person", "(III)Z"⟩
abbrev cX12_wear : ByteArray := prog_14_method_14_code
def yX12_wear : MethodName := ⟨RX12, "wear", "(II)Z"⟩
abbrev cX12_parts : ByteArray := prog_14_method_15_code
def yX12_parts : MethodName := ⟨RX12, "parts", "(I)V"⟩
abbrev cX12_dies : ByteArray := prog_14_method_16_code
def yX12_dies : MethodName := ⟨RX12, "dies", "(I)Z"⟩
abbrev cX12_wedsTwo : ByteArray := prog_14_method_17_code
def yX12_wedsTwo : MethodName := ⟨RX12, "wedsTwo", "(II)V"⟩
abbrev cX12_weds : ByteArray := prog_14_method_18_code
def yX12_weds : MethodName := ⟨RX12, "weds", "(II)Z"⟩
abbrev cX12_types : ByteArray := prog_14_method_19_code
def yX12_types : MethodName := ⟨RX12, "types", "(I)V"⟩
abbrev cX12_feed : ByteArray := prog_14_method_20_code
def yX12_feed : MethodName := ⟨RX12, "feed", "(IIIII)I"⟩
abbrev cX12_here : ByteArray := prog_14_method_21_code
def yX12_here : MethodName := ⟨RX12, "here", "()I"⟩
abbrev cX12_isDigit : ByteArray := prog_14_method_22_code
def yX12_isDigit : MethodName := ⟨RX12, "isDigit", "()Z"⟩
abbrev cX12_wrongAt : ByteArray := prog_14_method_23_code
def yX12_wrongAt : MethodName := ⟨RX12, "wrongAt", "(II)Z"⟩
abbrev cX12_takes : ByteArray := prog_14_method_24_code
def yX12_takes : MethodName := ⟨RX12, "takes", "(I)Z"⟩
abbrev cX12_readsNumber : ByteArray := prog_14_method_25_code
def yX12_readsNumber : MethodName := ⟨RX12, "readsNumber", "()Z"⟩
abbrev cX12_notes : ByteArray := prog_14_method_26_code
def yX12_notes : MethodName := ⟨RX12, "notes", "(II)V"⟩
abbrev cX12_opens : ByteArray := prog_14_method_27_code
def yX12_opens : MethodName := ⟨RX12, "opens", "(I)Z"⟩
abbrev cX12_waitTop : ByteArray := prog_14_method_28_code
def yX12_waitTop : MethodName := ⟨RX12, "waitTop", "()I"⟩
abbrev cX12_factOf : ByteArray := prog_14_method_29_code
def yX12_factOf : MethodName := ⟨RX12, "factOf", "(I)I"⟩
abbrev cX12_sumSign : ByteArray := prog_14_method_30_code
def yX12_sumSign : MethodName := ⟨RX12, "sumSign", "(I)I"⟩
abbrev cX12_closesSums : ByteArray := prog_14_method_31_code
def yX12_closesSums : MethodName := ⟨RX12, "closesSums", "(Z)V"⟩
abbrev cX12_readsFactor : ByteArray := prog_14_method_32_code
def yX12_readsFactor : MethodName := ⟨RX12, "readsFactor", "()Z"⟩
abbrev cX12_hasOpenSum : ByteArray := prog_14_method_33_code
def yX12_hasOpenSum : MethodName := ⟨RX12, "hasOpenSum", "(I)Z"⟩
abbrev cX12_readsSum : ByteArray := prog_14_method_34_code
def yX12_readsSum : MethodName := ⟨RX12, "readsSum", "()Z"⟩
abbrev cX12_endsPiece : ByteArray := prog_14_method_35_code
def yX12_endsPiece : MethodName := ⟨RX12, "endsPiece", "()V"⟩
abbrev cX12_lands : ByteArray := prog_14_method_36_code
def yX12_lands : MethodName := ⟨RX12, "lands", "(Z)V"⟩
abbrev cX12_jumps : ByteArray := prog_14_method_37_code
def yX12_jumps : MethodName := ⟨RX12, "jumps", "(I)V"⟩
abbrev cX12_readsCompared : ByteArray := prog_14_method_38_code
def yX12_readsCompared : MethodName := ⟨RX12, "readsCompared", "()Z"⟩
abbrev cX12_readsCondition : ByteArray := prog_14_method_39_code
def yX12_readsCondition : MethodName := ⟨RX12, "readsCondition", "()Z"⟩
abbrev cX12_isClause : ByteArray := prog_14_method_40_code
def yX12_isClause : MethodName := ⟨RX12, "isClause", "(I)Z"⟩
abbrev cX12_readsClause : ByteArray := prog_14_method_41_code
def yX12_readsClause : MethodName := ⟨RX12, "readsClause", "()Z"⟩
abbrev cX12_law : ByteArray := prog_14_method_42_code
def yX12_law : MethodName := ⟨RX12, "law", "(I)I"⟩
abbrev cX12_reckon : ByteArray := prog_14_method_43_code
def yX12_reckon : MethodName := ⟨RX12, "reckon", "(III)I"⟩
abbrev cX12_comesTo : ByteArray := prog_14_method_44_code
def yX12_comesTo : MethodName := ⟨RX12, "comesTo", "(II)I"⟩
abbrev cX12_byLaw : ByteArray := prog_14_method_45_code
def yX12_byLaw : MethodName := ⟨RX12, "byLaw", "(II)I"⟩
abbrev cX12_heightOf : ByteArray := prog_14_method_46_code
def yX12_heightOf : MethodName := ⟨RX12, "heightOf", "(II)I"⟩
abbrev cX12_slackOf : ByteArray := prog_14_method_47_code
def yX12_slackOf : MethodName := ⟨RX12, "slackOf", "(II)I"⟩
abbrev cX12_slackBy : ByteArray := prog_14_method_48_code
def yX12_slackBy : MethodName := ⟨RX12, "slackBy", "(II)I"⟩
abbrev cX12_feels : ByteArray := prog_14_method_49_code
def yX12_feels : MethodName := ⟨RX12, "feels", "(III)V"⟩
abbrev cX12_allowed : ByteArray := prog_14_method_50_code
def yX12_allowed : MethodName := ⟨RX12, "allowed", "(II)I"⟩
abbrev cX12_fit : ByteArray := prog_14_method_51_code
def yX12_fit : MethodName := ⟨RX12, "fit", "(II)Z"⟩
abbrev cX12_likes : ByteArray := prog_14_method_52_code
def yX12_likes : MethodName := ⟨RX12, "likes", "(II)I"⟩
abbrev cX12_readsHeight : ByteArray := prog_14_method_53_code
def yX12_readsHeight : MethodName := ⟨RX12, "readsHeight", "()Z"⟩
abbrev cX12_edge : ByteArray := prog_14_method_54_code
def yX12_edge : MethodName := ⟨RX12, "edge", "(II)I"⟩
abbrev cX12_readsStop : ByteArray := prog_14_method_55_code
def yX12_readsStop : MethodName := ⟨RX12, "readsStop", "()Z"⟩
abbrev cX12_journey : ByteArray := prog_14_method_56_code
def yX12_journey : MethodName := ⟨RX12, "journey", "(II)I"⟩
abbrev cX12_travels : ByteArray := prog_14_method_57_code
def yX12_travels : MethodName := ⟨RX12, "travels", "(I)V"⟩
abbrev cX12_wearsAll : ByteArray := prog_14_method_58_code
def yX12_wearsAll : MethodName := ⟨RX12, "wearsAll", "(II)V"⟩
abbrev cX12_haveTried : ByteArray := prog_14_method_59_code
def yX12_haveTried : MethodName := ⟨RX12, "haveTried", "(II)V"⟩
abbrev cX12_wearsBy : ByteArray := prog_14_method_60_code
def yX12_wearsBy : MethodName := ⟨RX12, "wearsBy", "(II)I"⟩
abbrev cX12_triesIn : ByteArray := prog_14_method_61_code
def yX12_triesIn : MethodName := ⟨RX12, "triesIn", "(II)V"⟩
abbrev cX12_draws : ByteArray := prog_14_method_62_code
def yX12_draws : MethodName := ⟨RX12, "draws", "()I"⟩
abbrev cX12_creak : ByteArray := prog_14_method_63_code
def yX12_creak : MethodName := ⟨RX12, "creak", "(I)V"⟩
abbrev cX12_daysGo : ByteArray := prog_14_method_64_code
def yX12_daysGo : MethodName := ⟨RX12, "daysGo", "(I)V"⟩
abbrev cX12_days : ByteArray := prog_14_method_65_code
def yX12_days : MethodName := ⟨RX12, "days", "(I)I"⟩
abbrev cX12_wedTwos : ByteArray := prog_14_method_66_code
def yX12_wedTwos : MethodName := ⟨RX12, "wedTwos", "()I"⟩
abbrev cX12_tried : ByteArray := prog_14_method_67_code
def yX12_tried : MethodName := ⟨RX12, "tried", "(II)I"⟩
abbrev cX12_fitting : ByteArray := prog_14_method_68_code
def yX12_fitting : MethodName := ⟨RX12, "fitting", "(I)I"⟩
abbrev cX12_personIs : ByteArray := prog_14_method_69_code
def yX12_personIs : MethodName := ⟨RX12, "personIs", "(II)I"⟩
abbrev cX12_piece : ByteArray := prog_14_method_70_code
def yX12_piece : MethodName := ⟨RX12, "piece", "(II)I"⟩
abbrev cX12_slack : ByteArray := prog_14_method_71_code
def yX12_slack : MethodName := ⟨RX12, "slack", "(III)I"⟩
abbrev cX12_laysFits : ByteArray := prog_14_method_72_code
def yX12_laysFits : MethodName := ⟨RX12, "laysFits", "()V"⟩
abbrev cX12_locks : ByteArray := prog_14_method_73_code
def yX12_locks : MethodName := ⟨RX12, "locks", "(I)I"⟩
abbrev cX12_isOne : ByteArray := prog_14_method_74_code
def yX12_isOne : MethodName := ⟨RX12, "isOne", "(II)Z"⟩
abbrev cX12_mayGet : ByteArray := prog_14_method_75_code
def yX12_mayGet : MethodName := ⟨RX12, "mayGet", "(III)Z"⟩
abbrev cX12_laysMost : ByteArray := prog_14_method_76_code
def yX12_laysMost : MethodName := ⟨RX12, "laysMost", "()V"⟩
abbrev cX12_getsBy : ByteArray := prog_14_method_77_code
def yX12_getsBy : MethodName := ⟨RX12, "getsBy", "(I)I"⟩
abbrev cX12_most : ByteArray := prog_14_method_78_code
def yX12_most : MethodName := ⟨RX12, "most", "(I)I"⟩
abbrev cX12_nextAsked : ByteArray := prog_14_method_79_code
def yX12_nextAsked : MethodName := ⟨RX12, "nextAsked", "(I)I"⟩
abbrev cX12_keeps : ByteArray := prog_14_method_80_code
def yX12_keeps : MethodName := ⟨RX12, "keeps", "(II)Z"⟩
abbrev cX12_laysStable : ByteArray := prog_14_method_81_code
def yX12_laysStable : MethodName := ⟨RX12, "laysStable", "()V"⟩
abbrev cX12_stable : ByteArray := prog_14_method_82_code
def yX12_stable : MethodName := ⟨RX12, "stable", "(I)I"⟩
abbrev cX12_likesWed : ByteArray := prog_14_method_83_code
def yX12_likesWed : MethodName := ⟨RX12, "likesWed", "(I)I"⟩
abbrev cX12_unrest : ByteArray := prog_14_method_84_code
def yX12_unrest : MethodName := ⟨RX12, "unrest", "(I)I"⟩
abbrev cX12_areBounds : ByteArray := prog_14_method_85_code
def yX12_areBounds : MethodName := ⟨RX12, "areBounds", "(I)Z"⟩
abbrev cX12_readsRow : ByteArray := prog_14_method_86_code
def yX12_readsRow : MethodName := ⟨RX12, "readsRow", "(II)Z"⟩
abbrev cX12_sumBy : ByteArray := prog_14_method_87_code
def yX12_sumBy : MethodName := ⟨RX12, "sumBy", "(I)I"⟩
abbrev cX12_gcd : ByteArray := prog_14_method_88_code
def yX12_gcd : MethodName := ⟨RX12, "gcd", "(II)I"⟩
abbrev cX12_search : ByteArray := prog_14_method_89_code
def yX12_search : MethodName := ⟨RX12, "search", "(II)I"⟩
abbrev cX12_workAt : ByteArray := prog_14_method_90_code
def yX12_workAt : MethodName := ⟨RX12, "workAt", "(III)I"⟩
abbrev cX12_workBy : ByteArray := prog_14_method_91_code
def yX12_workBy : MethodName := ⟨RX12, "workBy", "(IIII)I"⟩
abbrev cX12_laysWork : ByteArray := prog_14_method_92_code
def yX12_laysWork : MethodName := ⟨RX12, "laysWork", "(I)V"⟩
abbrev cX12_laysSanded : ByteArray := prog_14_method_93_code
def yX12_laysSanded : MethodName := ⟨RX12, "laysSanded", "(II)V"⟩
abbrev cX12_slackOfSanded : ByteArray := prog_14_method_94_code
def yX12_slackOfSanded : MethodName := ⟨RX12, "slackOfSanded", "(I)I"⟩
abbrev cX12_sanding : ByteArray := prog_14_method_95_code
def yX12_sanding : MethodName := ⟨RX12, "sanding", "(IIIIIII)I"⟩
abbrev cX12_slackSteamed : ByteArray := prog_14_method_96_code
def yX12_slackSteamed : MethodName := ⟨RX12, "slackSteamed", "(IIII)I"⟩
abbrev cX12_steaming : ByteArray := prog_14_method_97_code
def yX12_steaming : MethodName := ⟨RX12, "steaming", "(IIII)I"⟩
abbrev cX12_worn : ByteArray := prog_14_method_98_code
def yX12_worn : MethodName := ⟨RX12, "worn", "(II)I"⟩
abbrev cX12_makes : ByteArray := prog_14_method_99_code
def yX12_makes : MethodName := ⟨RX12, "makes", "(III)Z"⟩
abbrev cX12_makesAll : ByteArray := prog_14_method_100_code
def yX12_makesAll : MethodName := ⟨RX12, "makesAll", "(II)Z"⟩
abbrev cX12_cutter : ByteArray := prog_14_method_101_code
def yX12_cutter : MethodName := ⟨RX12, "cutter", "(II)I"⟩
abbrev cX12_areSame : ByteArray := prog_14_method_102_code
def yX12_areSame : MethodName := ⟨RX12, "areSame", "(II)Z"⟩
abbrev cX12_copies : ByteArray := prog_14_method_103_code
def yX12_copies : MethodName := ⟨RX12, "copies", "(I)I"⟩
abbrev cX12_mate : ByteArray := prog_14_method_104_code
def yX12_mate : MethodName := ⟨RX12, "mate", "(II)I"⟩
abbrev cX12_seed : ByteArray := prog_14_method_105_code
def yX12_seed : MethodName := ⟨RX12, "seed", "(I)Z"⟩
abbrev cX12_keep : ByteArray := prog_14_method_106_code
def yX12_keep : MethodName := ⟨RX12, "keep", "()I"⟩
abbrev cX12_undo : ByteArray := prog_14_method_107_code
def yX12_undo : MethodName := ⟨RX12, "undo", "()Z"⟩
abbrev cX12_check : ByteArray := prog_14_method_108_code
def yX12_check : MethodName := ⟨RX12, "check", "(II)I"⟩
abbrev cX12_count : ByteArray := prog_14_method_109_code
def yX12_count : MethodName := ⟨RX12, "count", "(I)I"⟩
def RJx145de : String := "java/io/Serializable"
def TJx145de : u_T := fun k => match k with
  | _ => ("", "", "", false)
def tyJx145de : Nat → FieldType := fun k => match k with
  | _ => .int
abbrev wsJx145de0 : List Cond := u_ws RJx145de TJx145de 0
theorem nmJx145de : ∀ a, a < 0 → ∀ b, b < 0 → a ≠ b → (TJx145de a).2.1 ≠ (TJx145de b).2.1 := by decide +kernel
theorem tyJx145de_ok : ∀ k, k < 0 → parseFieldDescriptor (TJx145de k).2.2.1 = some (tyJx145de k) := by decide +kernel
def RJx9f9b0 : String := "java/lang/CharSequence"
def TJx9f9b0 : u_T := fun k => match k with
  | _ => ("", "", "", false)
def tyJx9f9b0 : Nat → FieldType := fun k => match k with
  | _ => .int
abbrev wsJx9f9b00 : List Cond := u_ws RJx9f9b0 TJx9f9b0 0
theorem nmJx9f9b0 : ∀ a, a < 0 → ∀ b, b < 0 → a ≠ b → (TJx9f9b0 a).2.1 ≠ (TJx9f9b0 b).2.1 := by decide +kernel
theorem tyJx9f9b0_ok : ∀ k, k < 0 → parseFieldDescriptor (TJx9f9b0 k).2.2.1 = some (tyJx9f9b0 k) := by decide +kernel
def RJ11 : String := "java/lang/Character"
def TJ11 : u_T := fun k => match k with
  | _ => ("", "", "", false)
def tyJ11 : Nat → FieldType := fun k => match k with
  | _ => .int
abbrev wsJ110 : List Cond := u_ws RJ11 TJ11 0
theorem nmJ11 : ∀ a, a < 0 → ∀ b, b < 0 → a ≠ b → (TJ11 a).2.1 ≠ (TJ11 b).2.1 := by decide +kernel
theorem tyJ11_ok : ∀ k, k < 0 → parseFieldDescriptor (TJ11 k).2.2.1 = some (tyJ11 k) := by decide +kernel
abbrev cJ11_isValidCodePoint_9a6ad : ByteArray := prog_15_method_11_code
def yJ11_isValidCodePoint_9a6ad : MethodName := ⟨RJ11, "isValidCodePoint", "(I)Z"⟩
abbrev cJ11_highSurrogate_5068e : ByteArray := prog_15_method_28_code
def yJ11_highSurrogate_5068e : MethodName := ⟨RJ11, "highSurrogate", "(I)C"⟩
abbrev cJ11_lowSurrogate_5068e : ByteArray := prog_15_method_29_code
def yJ11_lowSurrogate_5068e : MethodName := ⟨RJ11, "lowSurrogate", "(I)C"⟩
def RJxb160c : String := "java/lang/Comparable"
def TJxb160c : u_T := fun k => match k with
  | _ => ("", "", "", false)
def tyJxb160c : Nat → FieldType := fun k => match k with
  | _ => .int
abbrev wsJxb160c0 : List Cond := u_ws RJxb160c TJxb160c 0
theorem nmJxb160c : ∀ a, a < 0 → ∀ b, b < 0 → a ≠ b → (TJxb160c a).2.1 ≠ (TJxb160c b).2.1 := by decide +kernel
theorem tyJxb160c_ok : ∀ k, k < 0 → parseFieldDescriptor (TJxb160c k).2.2.1 = some (tyJxb160c k) := by decide +kernel
def RJ6 : String := "java/lang/Integer"
def TJ6 : u_T := fun k => match k with
  | _ => ("", "", "", false)
def tyJ6 : Nat → FieldType := fun k => match k with
  | _ => .int
abbrev wsJ60 : List Cond := u_ws RJ6 TJ6 0
theorem nmJ6 : ∀ a, a < 0 → ∀ b, b < 0 → a ≠ b → (TJ6 a).2.1 ≠ (TJ6 b).2.1 := by decide +kernel
theorem tyJ6_ok : ∀ k, k < 0 → parseFieldDescriptor (TJ6 k).2.2.1 = some (tyJ6 k) := by decide +kernel
abbrev cJ6_bitCount_0f7a4 : ByteArray := prog_16_method_49_code
def yJ6_bitCount_0f7a4 : MethodName := ⟨RJ6, "bitCount", "(I)I"⟩
def RJ9 : String := "java/lang/Math"
def TJ9 : u_T := fun k => match k with
  | _ => ("", "", "", false)
def tyJ9 : Nat → FieldType := fun k => match k with
  | _ => .int
abbrev wsJ90 : List Cond := u_ws RJ9 TJ9 0
theorem nmJ9 : ∀ a, a < 0 → ∀ b, b < 0 → a ≠ b → (TJ9 a).2.1 ≠ (TJ9 b).2.1 := by decide +kernel
theorem tyJ9_ok : ∀ k, k < 0 → parseFieldDescriptor (TJ9 k).2.2.1 = some (tyJ9 k) := by decide +kernel
abbrev cJ9_abs_0f7a4 : ByteArray := prog_17_method_59_code
def yJ9_abs_0f7a4 : MethodName := ⟨RJ9, "abs", "(I)I"⟩
abbrev cJ9_max_7cf53 : ByteArray := prog_17_method_65_code
def yJ9_max_7cf53 : MethodName := ⟨RJ9, "max", "(II)I"⟩
abbrev cJ9_min_7cf53 : ByteArray := prog_17_method_69_code
def yJ9_min_7cf53 : MethodName := ⟨RJ9, "min", "(II)I"⟩
abbrev cJ9_min_f86c9 : ByteArray := prog_17_method_70_code
def yJ9_min_f86c9 : MethodName := ⟨RJ9, "min", "(JJ)J"⟩
def RJ0 : String := "java/lang/String"
def TJ0 : u_T := fun k => match k with
  | _ => ("", "", "", false)
def tyJ0 : Nat → FieldType := fun k => match k with
  | _ => .int
abbrev wsJ00 : List Cond := u_ws RJ0 TJ0 0
theorem nmJ0 : ∀ a, a < 0 → ∀ b, b < 0 → a ≠ b → (TJ0 a).2.1 ≠ (TJ0 b).2.1 := by decide +kernel
theorem tyJ0_ok : ∀ k, k < 0 → parseFieldDescriptor (TJ0 k).2.2.1 = some (tyJ0 k) := by decide +kernel
abbrev cJ0_length_8abf5 : ByteArray := prog_18_method_54_code
def yJ0_length_8abf5 : MethodName := ⟨RJ0, "length", "()I"⟩
abbrev cJ0_indexOf_0f7a4 : ByteArray := prog_18_method_79_code
def yJ0_indexOf_0f7a4 : MethodName := ⟨RJ0, "indexOf", "(I)I"⟩
abbrev cJ0_indexOf_7cf53 : ByteArray := prog_18_method_80_code
def yJ0_indexOf_7cf53 : MethodName := ⟨RJ0, "indexOf", "(II)I"⟩
abbrev cJ0_coder_7d493 : ByteArray := prog_18_method_152_code
def yJ0_coder_7d493 : MethodName := ⟨RJ0, "coder", "()B"⟩
abbrev cJ0_isLatin1_aae02 : ByteArray := prog_18_method_154_code
def yJ0_isLatin1_aae02 : MethodName := ⟨RJ0, "isLatin1", "()Z"⟩
abbrev cJ0_checkBoundsBeginEnd_23922 : ByteArray := prog_18_method_158_code
def yJ0_checkBoundsBeginEnd_23922 : MethodName := ⟨RJ0, "checkBoundsBeginEnd", "(III)V"⟩
def RJ1 : String := "java/lang/StringLatin1"
def TJ1 : u_T := fun k => match k with
  | _ => ("", "", "", false)
def tyJ1 : Nat → FieldType := fun k => match k with
  | _ => .int
abbrev wsJ10 : List Cond := u_ws RJ1 TJ1 0
theorem nmJ1 : ∀ a, a < 0 → ∀ b, b < 0 → a ≠ b → (TJ1 a).2.1 ≠ (TJ1 b).2.1 := by decide +kernel
theorem tyJ1_ok : ∀ k, k < 0 → parseFieldDescriptor (TJ1 k).2.2.1 = some (tyJ1 k) := by decide +kernel
abbrev cJ1_canEncode_9a6ad : ByteArray := prog_19_method_4_code
def yJ1_canEncode_9a6ad : MethodName := ⟨RJ1, "canEncode", "(I)Z"⟩
abbrev cJ1_indexOf_4cfef : ByteArray := prog_19_method_22_code
def yJ1_indexOf_4cfef : MethodName := ⟨RJ1, "indexOf", "([BIII)I"⟩
abbrev cJ1_indexOfChar_4cfef : ByteArray := prog_19_method_23_code
def yJ1_indexOfChar_4cfef : MethodName := ⟨RJ1, "indexOfChar", "([BIII)I"⟩
def RJ2 : String := "java/lang/StringUTF16"
def TJ2 : u_T := fun k => match k with
  | _ => ("", "", "", false)
def tyJ2 : Nat → FieldType := fun k => match k with
  | _ => .int
abbrev wsJ20 : List Cond := u_ws RJ2 TJ2 0
theorem nmJ2 : ∀ a, a < 0 → ∀ b, b < 0 → a ≠ b → (TJ2 a).2.1 ≠ (TJ2 b).2.1 := by decide +kernel
theorem tyJ2_ok : ∀ k, k < 0 → parseFieldDescriptor (TJ2 k).2.2.1 = some (tyJ2 k) := by decide +kernel
abbrev cJ2_getChar_3b067 : ByteArray := prog_20_method_5_code
def yJ2_getChar_3b067 : MethodName := ⟨RJ2, "getChar", "([BI)C"⟩
abbrev cJ2_length_9d52b : ByteArray := prog_20_method_6_code
def yJ2_length_9d52b : MethodName := ⟨RJ2, "length", "([B)I"⟩
abbrev cJ2_indexOf_4cfef : ByteArray := prog_20_method_40_code
def yJ2_indexOf_4cfef : MethodName := ⟨RJ2, "indexOf", "([BIII)I"⟩
abbrev cJ2_indexOfChar_4cfef : ByteArray := prog_20_method_47_code
def yJ2_indexOfChar_4cfef : MethodName := ⟨RJ2, "indexOfChar", "([BIII)I"⟩
abbrev cJ2_indexOfCharUnsafe_4cfef : ByteArray := prog_20_method_48_code
def yJ2_indexOfCharUnsafe_4cfef : MethodName := ⟨RJ2, "indexOfCharUnsafe", "([BIII)I"⟩
abbrev cJ2_indexOfSupplementary_4cfef : ByteArray := prog_20_method_49_code
def yJ2_indexOfSupplementary_4cfef : MethodName := ⟨RJ2, "indexOfSupplementary", "([BIII)I"⟩
abbrev cJ2_checkBoundsBeginEnd_d044e : ByteArray := prog_20_method_93_code
def yJ2_checkBoundsBeginEnd_d044e : MethodName := ⟨RJ2, "checkBoundsBeginEnd", "(II[B)V"⟩
def RJ10 : String := "java/lang/System"
def TJ10 : u_T := fun k => match k with
  | _ => ("", "", "", false)
def tyJ10 : Nat → FieldType := fun k => match k with
  | _ => .int
abbrev wsJ100 : List Cond := u_ws RJ10 TJ10 0
theorem nmJ10 : ∀ a, a < 0 → ∀ b, b < 0 → a ≠ b → (TJ10 a).2.1 ≠ (TJ10 b).2.1 := by decide +kernel
theorem tyJ10_ok : ∀ k, k < 0 → parseFieldDescriptor (TJ10 k).2.2.1 = some (tyJ10 k) := by decide +kernel
def RJxfd54e : String := "java/lang/constant/Constable"
def TJxfd54e : u_T := fun k => match k with
  | _ => ("", "", "", false)
def tyJxfd54e : Nat → FieldType := fun k => match k with
  | _ => .int
abbrev wsJxfd54e0 : List Cond := u_ws RJxfd54e TJxfd54e 0
theorem nmJxfd54e : ∀ a, a < 0 → ∀ b, b < 0 → a ≠ b → (TJxfd54e a).2.1 ≠ (TJxfd54e b).2.1 := by decide +kernel
theorem tyJxfd54e_ok : ∀ k, k < 0 → parseFieldDescriptor (TJxfd54e k).2.2.1 = some (tyJxfd54e k) := by decide +kernel
def RJx3cf43 : String := "java/lang/constant/ConstantDesc"
def TJx3cf43 : u_T := fun k => match k with
  | _ => ("", "", "", false)
def tyJx3cf43 : Nat → FieldType := fun k => match k with
  | _ => .int
abbrev wsJx3cf430 : List Cond := u_ws RJx3cf43 TJx3cf43 0
theorem nmJx3cf43 : ∀ a, a < 0 → ∀ b, b < 0 → a ≠ b → (TJx3cf43 a).2.1 ≠ (TJx3cf43 b).2.1 := by decide +kernel
theorem tyJx3cf43_ok : ∀ k, k < 0 → parseFieldDescriptor (TJx3cf43 k).2.2.1 = some (tyJx3cf43 k) := by decide +kernel
def RJ7 : String := "java/util/Arrays"
def TJ7 : u_T := fun k => match k with
  | _ => ("", "", "", false)
def tyJ7 : Nat → FieldType := fun k => match k with
  | _ => .int
abbrev wsJ70 : List Cond := u_ws RJ7 TJ7 0
theorem nmJ7 : ∀ a, a < 0 → ∀ b, b < 0 → a ≠ b → (TJ7 a).2.1 ≠ (TJ7 b).2.1 := by decide +kernel
theorem tyJ7_ok : ∀ k, k < 0 → parseFieldDescriptor (TJ7 k).2.2.1 = some (tyJ7 k) := by decide +kernel
abbrev cJ7_fill_d0a16 : ByteArray := prog_22_method_101_code
def yJ7_fill_d0a16 : MethodName := ⟨RJ7, "fill", "([JJ)V"⟩
abbrev cJ7_fill_53178 : ByteArray := prog_22_method_103_code
def yJ7_fill_53178 : MethodName := ⟨RJ7, "fill", "([II)V"⟩
def RJ3 : String := "jdk/internal/util/Preconditions"
def TJ3 : u_T := fun k => match k with
  | _ => ("", "", "", false)
def tyJ3 : Nat → FieldType := fun k => match k with
  | _ => .int
abbrev wsJ30 : List Cond := u_ws RJ3 TJ3 0
theorem nmJ3 : ∀ a, a < 0 → ∀ b, b < 0 → a ≠ b → (TJ3 a).2.1 ≠ (TJ3 b).2.1 := by decide +kernel
theorem tyJ3_ok : ∀ k, k < 0 → parseFieldDescriptor (TJ3 k).2.2.1 = some (tyJ3 k) := by decide +kernel
abbrev cJ3_checkFromToIndex_8c36e : ByteArray := prog_23_method_12_code
def yJ3_checkFromToIndex_8c36e : MethodName := ⟨RJ3, "checkFromToIndex", "(IIILjava/util/function/BiFunction;)I"⟩
def RL : String := "PuzzleWedLaw"
abbrev cL_law : ByteArray := code
def yL_law : MethodName := ⟨RL, "law", "([I)Z"⟩
abbrev vwCl : List vw_C := [(RX0, TX0, 11), (RX1, TX1, 4), (RX2, TX2, 2), (RX3, TX3, 15), (RX4, TX4, 7), (RX5, TX5, 5), (RX6, TX6, 8), (RX8, TX8, 11), (RX9, TX9, 8), (RX10, TX10, 2), (RX11, TX11, 15), (RX12, TX12, 47)]
end
section
-- the objects of the world: kind (a class of vwCl, or 20 int[], 21 long[], 22 byte[], 23 int[][]) and length
def shT : List (Nat × Nat) := [(10, 15), (11, 47), (3, 15), (20, 12), (20, 12), (20, 12), (20, 12), (20, 12), (20, 12), (20, 12), (23, 12), (23, 12), (20, 12), (20, 12), (20, 8), (20, 8), (20, 8), (20, 8), (20, 8), (20, 8), (20, 8), (20, 8), (20, 8), (20, 8), (20, 8), (20, 8), (20, 144), (20, 144), (20, 144), (20, 144), (20, 144), (20, 144), (20, 144), (20, 144), (20, 144), (20, 144), (20, 144), (20, 144), (3, 15), (20, 12), (20, 12), (20, 12), (20, 12), (20, 12), (20, 12), (20, 12), (23, 12), (23, 12), (20, 12), (20, 12), (20, 8), (20, 8), (20, 8), (20, 8), (20, 8), (20, 8), (20, 8), (20, 8), (20, 8), (20, 8), (20, 8), (20, 8), (20, 144), (20, 144), (20, 144), (20, 144), (20, 144), (20, 144), (20, 144), (20, 144), (20, 144), (20, 144), (20, 144), (20, 144), (3, 15), (20, 12), (20, 12), (20, 12), (20, 12), (20, 12), (20, 12), (20, 12), (23, 12), (23, 12), (20, 12), (20, 12), (20, 8), (20, 8), (20, 8), (20, 8), (20, 8), (20, 8), (20, 8), (20, 8), (20, 8), (20, 8), (20, 8), (20, 8), (20, 144), (20, 144), (20, 144), (20, 144), (20, 144), (20, 144), (20, 144), (20, 144), (20, 144), (20, 144), (20, 144), (20, 144), (9, 2), (20, 260), (4, 7), (20, 512), (20, 16), (20, 16), (20, 16), (20, 64), (4, 7), (20, 512), (20, 16), (20, 16), (20, 16), (20, 64), (5, 5), (6, 8), (20, 144), (2, 2), (20, 11), (1, 4), (0, 11), (20, 12), (20, 12), (20, 12), (23, 12), (20, 12), (20, 12), (20, 12), (20, 12), (20, 12), (20, 12), (20, 12), (20, 12), (20, 12), (20, 12), (20, 12), (20, 12), (20, 4096), (20, 12), (8, 8), (20, 6), (23, 6), (20, 6), (20, 6), (20, 6), (20, 6), (20, 6), (20, 6), (20, 6), (20, 6), (7, 11), (20, 8), (21, 3721), (21, 19), (20, 19), (20, 19), (20, 8), (20, 1936), (20, 1936), (20, 1936), (22, 260), (20, 260), (20, 260), (20, 16), (20, 16), (20, 16), (20, 16), (20, 260), (20, 16), (20, 16), (20, 16), (20, 16), (20, 260), (20, 11), (20, 8), (20, 144), (20, 12), (20, 144), (20, 144), (20, 53248), (20, 12), (20, 12), (20, 6), (20, 33489), (20, 8)]
def rfT : List (List Nat) := [[2, 38, 74, 0, 110, 112, 118, 124, 125, 127, 129, 130, 149, 160, 166], [167, 168, 169, 170, 0, 0, 0, 0, 0, 0, 0, 0, 0, 0, 171, 172, 173, 174, 175, 176, 177, 178, 179, 180, 181, 182, 183, 184, 185, 0, 0, 0, 0, 0, 186, 187, 188, 189, 190, 191, 192, 193, 194, 0, 0, 0, 0], [0, 0, 3, 4, 5, 6, 7, 8, 9, 10, 11, 12, 13, 0, 0], [], [], [], [], [], [], [], [14, 15, 16, 17, 18, 19, 20, 21, 22, 23, 24, 25], [26, 27, 28, 29, 30, 31, 32, 33, 34, 35, 36, 37], [], [], [], [], [], [], [], [], [], [], [], [], [], [], [], [], [], [], [], [], [], [], [], [], [], [], [0, 0, 39, 40, 41, 42, 43, 44, 45, 46, 47, 48, 49, 0, 0], [], [], [], [], [], [], [], [50, 51, 52, 53, 54, 55, 56, 57, 58, 59, 60, 61], [62, 63, 64, 65, 66, 67, 68, 69, 70, 71, 72, 73], [], [], [], [], [], [], [], [], [], [], [], [], [], [], [], [], [], [], [], [], [], [], [], [], [], [], [0, 0, 75, 76, 77, 78, 79, 80, 81, 82, 83, 84, 85, 0, 0], [], [], [], [], [], [], [], [86, 87, 88, 89, 90, 91, 92, 93, 94, 95, 96, 97], [98, 99, 100, 101, 102, 103, 104, 105, 106, 107, 108, 109], [], [], [], [], [], [], [], [], [], [], [], [], [], [], [], [], [], [], [], [], [], [], [], [], [], [], [111, 0], [], [113, 114, 115, 116, 117, 0, 0], [], [], [], [], [], [119, 120, 121, 122, 123, 0, 0], [], [], [], [], [], [110, 0, 0, 0, 118], [110, 0, 0, 0, 126, 0, 0, 0], [], [112, 128], [], [127, 0, 0, 0], [127, 131, 0, 0, 132, 133, 0, 0, 134, 147, 148], [], [], [], [135, 136, 137, 138, 139, 140, 141, 142, 143, 144, 145, 146], [], [], [], [], [], [], [], [], [], [], [], [], [], [], [110, 0, 150, 151, 158, 159, 0, 0], [], [152, 153, 154, 155, 156, 157], [], [], [], [], [], [], [], [], [161, 0, 0, 0, 0, 162, 163, 164, 165, 0, 0], [], [], [], [], [], [], [], [], [], [], [], [], [], [], [], [], [], [], [], [], [], [], [], [], [], [], [], [], [], [], [], [], [], []]
def fkT : List (List Bool) := [[true, true, false, false, true, true, false, false, true, true, true], [true, false, false, false], [true, true], [false, false, true, true, true, true, true, true, true, true, true, true, true, false, false], [true, true, true, true, true, false, false], [true, false, false, false, true], [true, false, false, false, true, false, false, false], [true, false, false, false, false, true, true, true, true, false, false], [true, false, true, true, true, true, false, false], [true, false], [true, true, true, false, true, true, true, true, true, true, true, true, true, true, true], [true, true, true, true, false, false, false, false, false, false, false, false, false, false, true, true, true, true, true, true, true, true, true, true, true, true, true, true, true, false, false, false, false, false, true, true, true, true, true, true, true, true, true, false, false, false, false]]
def fzT : List (List Bool) := [[false, false, false, false, false, false, false, false, false, false, false], [false, false, false, false], [false, false], [false, false, false, false, false, false, false, false, false, false, false, false, false, false, false], [false, false, false, false, false, false, false], [false, false, false, false, false], [false, false, false, false, false, false, false, false], [false, true, false, false, false, false, false, false, false, false, false], [false, false, false, false, false, false, false, false], [false, false], [false, false, false, true, false, false, false, false, false, false, false, false, false, false, false], [false, false, false, false, false, false, false, false, false, false, false, false, false, false, false, false, false, false, false, false, false, false, false, false, false, false, false, false, false, false, false, false, false, false, false, false, false, false, false, false, false, false, false, false, false, false, true]]
def fnT : List (List Bool) := [[true, true, false, false, true, true, false, false, true, true, true], [true, false, false, false], [true, true], [false, false, true, true, true, true, true, true, true, true, true, true, true, false, false], [true, true, true, true, true, false, false], [true, false, false, false, true], [true, false, false, false, true, false, false, false], [true, false, false, false, false, true, true, true, true, false, false], [true, false, true, true, true, true, false, false], [true, false], [true, true, true, false, true, true, true, true, true, true, true, true, true, true, true], [true, true, true, true, false, false, false, false, false, false, false, false, false, false, true, true, true, true, true, true, true, true, true, true, true, true, true, true, true, false, false, false, false, false, true, true, true, true, true, true, true, true, true, false, false, false, false]]
abbrev shN : Nat := 195
-- (own class, place, class, field, the class that the reference names, the words' places)
def fpl : List (String × Nat × Nat × Nat × String × Nat × Nat) := [(RX3, 55, 3, 0, "PuzzleWed$Land", 149, 0), (RX11, 111, 3, 0, "PuzzleWed$Land", 150, 0), (RX11, 115, 3, 1, "PuzzleWed$Land", 151, 0), (RX3, 58, 3, 1, "PuzzleWed$Land", 152, 0), (RX3, 9, 3, 2, "PuzzleWed$Land", 153, 0), (RX0, 55, 3, 2, "PuzzleWed$Land", 154, 0), (RX11, 118, 3, 2, "PuzzleWed$Land", 155, 0), (RX1, 81, 3, 2, "PuzzleWed$Land", 156, 0), (RX2, 70, 3, 2, "PuzzleWed$Land", 157, 0), (RX3, 15, 3, 3, "PuzzleWed$Land", 158, 0), (RX11, 121, 3, 3, "PuzzleWed$Land", 159, 0), (RX1, 51, 3, 3, "PuzzleWed$Land", 160, 0), (RX2, 109, 3, 3, "PuzzleWed$Land", 161, 0), (RX3, 18, 3, 4, "PuzzleWed$Land", 162, 0), (RX1, 88, 3, 4, "PuzzleWed$Land", 163, 0), (RX2, 67, 3, 4, "PuzzleWed$Land", 164, 0), (RX11, 207, 3, 4, "PuzzleWed$Land", 165, 0), (RX3, 21, 3, 5, "PuzzleWed$Land", 166, 0), (RX1, 105, 3, 5, "PuzzleWed$Land", 167, 0), (RX2, 115, 3, 5, "PuzzleWed$Land", 168, 0), (RX11, 220, 3, 5, "PuzzleWed$Land", 169, 0), (RX3, 24, 3, 6, "PuzzleWed$Land", 170, 0), (RX11, 229, 3, 6, "PuzzleWed$Land", 171, 0), (RX3, 27, 3, 7, "PuzzleWed$Land", 172, 0), (RX2, 25, 3, 7, "PuzzleWed$Land", 173, 0), (RX11, 236, 3, 7, "PuzzleWed$Land", 174, 0), (RX3, 30, 3, 8, "PuzzleWed$Land", 175, 0), (RX11, 124, 3, 8, "PuzzleWed$Land", 176, 0), (RX2, 38, 3, 8, "PuzzleWed$Land", 177, 0), (RX3, 35, 3, 9, "PuzzleWed$Land", 178, 0), (RX2, 30, 3, 9, "PuzzleWed$Land", 179, 0), (RX11, 163, 3, 9, "PuzzleWed$Land", 180, 0), (RX3, 38, 3, 10, "PuzzleWed$Land", 181, 0), (RX1, 54, 3, 10, "PuzzleWed$Land", 182, 0), (RX11, 179, 3, 10, "PuzzleWed$Land", 183, 0), (RX3, 41, 3, 11, "PuzzleWed$Land", 184, 0), (RX1, 48, 3, 11, "PuzzleWed$Land", 185, 0), (RX11, 188, 3, 11, "PuzzleWed$Land", 186, 0), (RX3, 44, 3, 12, "PuzzleWed$Land", 187, 0), (RX1, 40, 3, 12, "PuzzleWed$Land", 188, 0), (RX11, 194, 3, 12, "PuzzleWed$Land", 189, 0), (RX1, 25, 3, 13, "PuzzleWed$Land", 190, 0), (RX2, 112, 3, 13, "PuzzleWed$Land", 191, 0), (RX3, 75, 3, 13, "PuzzleWed$Land", 192, 0), (RX11, 360, 3, 13, "PuzzleWed$Land", 193, 0), (RX3, 47, 3, 14, "PuzzleWed$Land", 194, 0), (RX11, 357, 3, 14, "PuzzleWed$Land", 195, 0), (RX10, 9, 9, 0, "PuzzleWed$Tape", 234, 0), (RX9, 46, 9, 0, "PuzzleWed$Tape", 235, 0), (RX7, 25, 9, 0, "PuzzleWed$Tape", 236, 0), (RX11, 338, 9, 0, "PuzzleWed$Tape", 237, 0), (RX10, 15, 9, 1, "PuzzleWed$Tape", 238, 0), (RX11, 141, 9, 1, "PuzzleWed$Tape", 239, 0), (RX4, 11, 4, 0, "PuzzleWed$Law", 251, 0), (RX5, 92, 4, 0, "PuzzleWed$Law", 252, 0), (RX4, 15, 4, 1, "PuzzleWed$Law", 253, 0), (RX5, 54, 4, 1, "PuzzleWed$Law", 254, 0), (RX2, 83, 4, 1, "PuzzleWed$Law", 255, 0), (RX4, 18, 4, 2, "PuzzleWed$Law", 256, 0), (RX5, 58, 4, 2, "PuzzleWed$Law", 257, 0), (RX2, 93, 4, 2, "PuzzleWed$Law", 258, 0), (RX4, 21, 4, 3, "PuzzleWed$Law", 259, 0), (RX5, 67, 4, 3, "PuzzleWed$Law", 260, 0), (RX2, 86, 4, 3, "PuzzleWed$Law", 261, 0), (RX4, 24, 4, 4, "PuzzleWed$Law", 262, 0), (RX4, 27, 4, 5, "PuzzleWed$Law", 263, 0), (RX5, 19, 4, 5, "PuzzleWed$Law", 264, 0), (RX5, 25, 4, 6, "PuzzleWed$Law", 265, 0), (RX4, 37, 4, 6, "PuzzleWed$Law", 266, 0), (RX11, 156, 4, 6, "PuzzleWed$Law", 267, 0), (RX2, 77, 4, 6, "PuzzleWed$Law", 268, 0), (RX5, 9, 5, 4, "PuzzleWed$LawReader", 293, 0), (RX7, 9, 5, 0, "PuzzleWed$Reader", 294, 0), (RX7, 9, 6, 0, "PuzzleWed$Reader", 294, 0), (RX7, 15, 5, 1, "PuzzleWed$Reader", 295, 0), (RX7, 15, 6, 1, "PuzzleWed$Reader", 295, 0), (RX5, 76, 5, 1, "PuzzleWed$LawReader", 296, 297), (RX7, 19, 5, 2, "PuzzleWed$Reader", 298, 0), (RX7, 19, 6, 2, "PuzzleWed$Reader", 298, 0), (RX6, 23, 6, 2, "PuzzleWed$ListReader", 299, 300), (RX5, 43, 5, 2, "PuzzleWed$LawReader", 301, 302), (RX7, 22, 5, 3, "PuzzleWed$Reader", 303, 0), (RX7, 22, 6, 3, "PuzzleWed$Reader", 303, 0), (RX11, 150, 5, 3, "PuzzleWed$LawReader", 304, 305), (RX11, 162, 6, 3, "PuzzleWed$ListReader", 306, 307), (RX6, 9, 6, 4, "PuzzleWed$ListReader", 325, 0), (RX11, 167, 6, 4, "PuzzleWed$ListReader", 326, 0), (RX6, 19, 6, 5, "PuzzleWed$ListReader", 327, 0), (RX11, 191, 6, 5, "PuzzleWed$ListReader", 328, 0), (RX6, 55, 6, 6, "PuzzleWed$ListReader", 329, 0), (RX6, 34, 6, 7, "PuzzleWed$ListReader", 330, 0), (RX2, 9, 2, 0, "PuzzleWed$Judge", 350, 0), (RX2, 15, 2, 1, "PuzzleWed$Judge", 351, 0), (RX1, 9, 1, 0, "PuzzleWed$Course", 363, 0), (RX1, 15, 1, 1, "PuzzleWed$Course", 364, 0), (RX11, 201, 1, 1, "PuzzleWed$Course", 365, 0), (RX1, 19, 1, 2, "PuzzleWed$Course", 366, 0), (RX11, 210, 1, 2, "PuzzleWed$Course", 367, 0), (RX1, 22, 1, 3, "PuzzleWed$Course", 368, 0), (RX11, 213, 1, 3, "PuzzleWed$Course", 369, 0), (RX0, 9, 0, 0, "PuzzleWed$Couples", 386, 0), (RX0, 15, 0, 1, "PuzzleWed$Couples", 387, 0), (RX11, 266, 0, 1, "PuzzleWed$Couples", 388, 0), (RX0, 43, 0, 2, "PuzzleWed$Couples", 389, 0), (RX11, 260, 0, 2, "PuzzleWed$Couples", 390, 0), (RX0, 46, 0, 3, "PuzzleWed$Couples", 391, 0), (RX11, 263, 0, 3, "PuzzleWed$Couples", 392, 0), (RX0, 19, 0, 4, "PuzzleWed$Couples", 393, 0), (RX0, 22, 0, 5, "PuzzleWed$Couples", 394, 0), (RX0, 36, 0, 6, "PuzzleWed$Couples", 395, 0), (RX0, 40, 0, 7, "PuzzleWed$Couples", 396, 0), (RX0, 27, 0, 8, "PuzzleWed$Couples", 397, 0), (RX0, 30, 0, 9, "PuzzleWed$Couples", 398, 0), (RX0, 33, 0, 10, "PuzzleWed$Couples", 399, 0), (RX9, 9, 8, 0, "PuzzleWed$Search", 430, 0), (RX9, 39, 8, 1, "PuzzleWed$Search", 431, 0), (RX9, 15, 8, 2, "PuzzleWed$Search", 432, 0), (RX9, 21, 8, 3, "PuzzleWed$Search", 433, 0), (RX9, 24, 8, 4, "PuzzleWed$Search", 434, 0), (RX9, 27, 8, 5, "PuzzleWed$Search", 435, 0), (RX11, 285, 8, 5, "PuzzleWed$Search", 436, 0), (RX9, 51, 8, 6, "PuzzleWed$Search", 437, 0), (RX9, 43, 8, 7, "PuzzleWed$Search", 438, 0), (RX8, 9, 7, 0, "PuzzleWed$Sander", 462, 0), (RX11, 308, 7, 0, "PuzzleWed$Sander", 463, 0), (RX8, 81, 7, 1, "PuzzleWed$Sander", 464, 0), (RX11, 302, 7, 1, "PuzzleWed$Sander", 465, 0), (RX8, 85, 7, 2, "PuzzleWed$Sander", 466, 0), (RX11, 305, 7, 2, "PuzzleWed$Sander", 467, 0), (RX8, 94, 7, 3, "PuzzleWed$Sander", 468, 0), (RX11, 323, 7, 3, "PuzzleWed$Sander", 469, 0), (RX8, 97, 7, 4, "PuzzleWed$Sander", 470, 0), (RX11, 326, 7, 4, "PuzzleWed$Sander", 471, 0), (RX8, 25, 7, 5, "PuzzleWed$Sander", 472, 0), (RX8, 15, 7, 6, "PuzzleWed$Sander", 473, 0), (RX8, 19, 7, 7, "PuzzleWed$Sander", 474, 0), (RX8, 22, 7, 8, "PuzzleWed$Sander", 475, 0), (RX8, 63, 7, 9, "PuzzleWed$Sander", 476, 0), (RX8, 67, 7, 10, "PuzzleWed$Sander", 477, 0), (RX11, 12, 10, 0, "PuzzleWed", 502, 0), (RX11, 16, 10, 1, "PuzzleWed", 503, 0), (RX11, 19, 10, 2, "PuzzleWed", 504, 0), (RX11, 22, 10, 3, "PuzzleWed", 505, 0), (RX11, 29, 10, 4, "PuzzleWed", 506, 0), (RX11, 36, 10, 5, "PuzzleWed", 507, 0), (RX11, 40, 10, 6, "PuzzleWed", 508, 0), (RX11, 48, 10, 7, "PuzzleWed", 509, 0), (RX11, 57, 10, 8, "PuzzleWed", 510, 0), (RX11, 66, 10, 9, "PuzzleWed", 511, 0), (RX11, 75, 10, 10, "PuzzleWed", 512, 0), (RX11, 82, 10, 11, "PuzzleWed", 513, 0), (RX11, 89, 10, 12, "PuzzleWed", 514, 0), (RX11, 96, 10, 13, "PuzzleWed", 515, 0), (RX11, 100, 10, 14, "PuzzleWed", 516, 0), (RX12, 7, 11, 0, "PuzzleWedModel", 1214, 0), (RX12, 13, 11, 1, "PuzzleWedModel", 1215, 0), (RX12, 16, 11, 2, "PuzzleWedModel", 1216, 0), (RX12, 19, 11, 3, "PuzzleWedModel", 1217, 0), (RX12, 126, 11, 4, "PuzzleWedModel", 1218, 0), (RX12, 133, 11, 5, "PuzzleWedModel", 1219, 0), (RX12, 136, 11, 6, "PuzzleWedModel", 1220, 0), (RX12, 143, 11, 7, "PuzzleWedModel", 1221, 0), (RX12, 149, 11, 8, "PuzzleWedModel", 1222, 0), (RX12, 160, 11, 9, "PuzzleWedModel", 1223, 0), (RX12, 156, 11, 10, "PuzzleWedModel", 1224, 0), (RX12, 163, 11, 11, "PuzzleWedModel", 1225, 0), (RX12, 213, 11, 12, "PuzzleWedModel", 1226, 0), (RX12, 225, 11, 13, "PuzzleWedModel", 1227, 0), (RX12, 23, 11, 14, "PuzzleWedModel", 1228, 0), (RX12, 26, 11, 15, "PuzzleWedModel", 1229, 0), (RX12, 29, 11, 16, "PuzzleWedModel", 1230, 0), (RX12, 32, 11, 17, "PuzzleWedModel", 1231, 0), (RX12, 35, 11, 18, "PuzzleWedModel", 1232, 0), (RX12, 38, 11, 19, "PuzzleWedModel", 1233, 0), (RX12, 41, 11, 20, "PuzzleWedModel", 1234, 0), (RX12, 44, 11, 21, "PuzzleWedModel", 1235, 0), (RX12, 47, 11, 22, "PuzzleWedModel", 1236, 0), (RX12, 50, 11, 23, "PuzzleWedModel", 1237, 0), (RX12, 53, 11, 24, "PuzzleWedModel", 1238, 0), (RX12, 56, 11, 25, "PuzzleWedModel", 1239, 0), (RX12, 59, 11, 26, "PuzzleWedModel", 1240, 0), (RX12, 62, 11, 27, "PuzzleWedModel", 1241, 0), (RX12, 65, 11, 28, "PuzzleWedModel", 1242, 0), (RX12, 268, 11, 29, "PuzzleWedModel", 1243, 0), (RX12, 274, 11, 30, "PuzzleWedModel", 1244, 0), (RX12, 289, 11, 31, "PuzzleWedModel", 1245, 0), (RX12, 280, 11, 32, "PuzzleWedModel", 1246, 0), (RX12, 302, 11, 33, "PuzzleWedModel", 1247, 0), (RX12, 68, 11, 34, "PuzzleWedModel", 1248, 0), (RX12, 71, 11, 35, "PuzzleWedModel", 1249, 0), (RX12, 74, 11, 36, "PuzzleWedModel", 1250, 0), (RX12, 78, 11, 37, "PuzzleWedModel", 1251, 0), (RX12, 81, 11, 38, "PuzzleWedModel", 1252, 0), (RX12, 84, 11, 39, "PuzzleWedModel", 1253, 0), (RX12, 87, 11, 40, "PuzzleWedModel", 1254, 0), (RX12, 91, 11, 41, "PuzzleWedModel", 1255, 0), (RX12, 94, 11, 42, "PuzzleWedModel", 1256, 0), (RX12, 379, 11, 43, "PuzzleWedModel", 1257, 0), (RX12, 370, 11, 44, "PuzzleWedModel", 1258, 0), (RX12, 373, 11, 45, "PuzzleWedModel", 1259, 0), (RX12, 408, 11, 46, "PuzzleWedModel", 1260, 0)]
def cpl : List (String × Nat × Int32 × Nat) := [(RJ2, 227, 65536, 674), (RJ11, 110, 55232, 713), (RJ11, 76, 56320, 717), (RJ6, 265, 1431655765, 903), (RJ6, 266, 858993459, 904), (RJ6, 267, 252645135, 905), (RX3, 74, 65535, 936), (RX11, 356, 65535, 1185), (RX12, 77, 53248, 1212), (RX12, 90, 33489, 1213), (RX12, 159, 1048576, 1440), (RX12, 245, 1000000000, 1542), (RX12, 298, 65536, 1595), (RX12, 333, 49152, 1647), (RX12, 407, 65535, 1763)]
def cql : List (String × Nat × Int64 × Nat) := [(RX8, 74, 16983563041, 1114), (RX8, 76, 4611686018427387904, 1120), (RX8, 54, 19, 1128)]
def nestL : List (String × Nat × MethodName × String) := [(RX3, 51, yX11_isNumber, RX11), (RX2, 63, yX11_isNumber, RX11), (RX1, 91, yX11_isNumber, RX11)]
def strL : List (String × Nat × String) := [(RX5, 46, "flwcb"), (RX5, 108, "ijsxyuvdapq")]
def strN : List Nat := [5, 11]
def strB : List (List Int32) := [[102, 108, 119, 99, 98], [105, 106, 115, 120, 121, 117, 118, 100, 97, 112, 113]]
end
section
/-! THE SMALL MACHINE: a method's code as a list, its heap as numbers (what the objects are never changes once they are made) -/
def shk (a : Nat) : Nat := (shT.getD a (99, 0)).1
def shn (a : Nat) : Nat := (shT.getD a (99, 0)).2
def rfv (a k : Nat) : Nat := (rfT.getD a []).getD k 0
def fkr (c k : Nat) : Bool := (fkT.getD c []).getD k false
def fzr (c k : Nat) : Bool := (fzT.getD c []).getD k false
def fnl (c k : Nat) : Bool := (fnT.getD c []).getD k false
theorem shT_len : shT.length = shN := by decide +kernel
theorem shk_lt {a k : Nat} (h : shk a = k) (hk : k ≠ 99) : a < shN := by
  rcases Nat.lt_or_ge a shN with q | q
  · exact q
  · refine absurd ?_ hk
    rw [← h]
    unfold shk
    rw [List.getD_eq_getElem?_getD, List.getElem?_eq_none (by rw [shT_len]; exact q)]
    rfl
abbrev MH : Type := (Nat → Nat → Int32) × (Nat → Nat → Int64)
abbrev Mth : Type := MethodName × ByteArray × Nat × Option FieldType × String
abbrev MC : Type := Option Nat × List (Option Value) × List Value × MH
abbrev ME : Type := Nat × Instr × Nat × Int32 × Int64
/-- the world: classes' numbers, the arrays' classes, the objects' addresses, the strings', their bytes' -/
abbrev MD : Type := va_G × (ClassId × ClassId × ClassId × ClassId) × (Nat → Nat) × (Nat → Nat) × (Nat → Nat)
def mv (w : MD) : Value → Value
  | .ref i => .ref (w.2.2.1 i)
  | .retAddr i => .ref (w.2.2.2.1 i)
  | v => v
theorem mv_cat (w : MD) (v : Value) : (mv w v).category = v.category := by cases v <;> rfl
def mtys (w : MD) : List (ClassId × FieldType) := [(w.2.1.1, .int), (w.2.1.2.1, .long), (w.2.1.2.2.1, .byte), (w.2.1.2.2.2, .array .int)]
def entF (w : MD) (σ : MH) (a : Nat) : List Value := (List.range (shn a)).map fun k => if fkr (shk a) k = true then .ref (w.2.2.1 (rfv a k)) else .int (σ.1 a k)
def ent (w : MD) (σ : MH) (a : Nat) : va_E :=
  if shk a = 20 then .inl (w.2.1.1, shn a, .inl (σ.1 a))
  else if shk a = 21 then .inl (w.2.1.2.1, shn a, .inr (.inl (σ.2 a)))
  else if shk a = 22 then .inl (w.2.1.2.2.1, shn a, .inl (σ.1 a))
  else if shk a = 23 then .inl (w.2.1.2.2.2, shn a, .inr (.inr (.inr (.inr (fun i => some (w.2.2.1 (rfv a i)))))))
  else .inr (shk a, entF w σ a)
def wsO (w : MD) (σ : MH) : va_W := (List.range shN).map fun a => (w.2.2.1 a, ent w σ a)
theorem wsO_get {w : MD} {σ : MH} {a : Nat} (h : a < shN) : (wsO w σ)[a]? = some (w.2.2.1 a, ent w σ a) := by
  unfold wsO
  rw [List.getElem?_map, List.getElem?_range h]
  rfl
theorem wsO_len (w : MD) (σ : MH) : (wsO w σ).length = shN := by simp [wsO]
theorem wsO_some {w : MD} {σ : MH} {a : Nat} {q : Nat × va_E} (h : (wsO w σ)[a]? = some q) : a < shN ∧ q = (w.2.2.1 a, ent w σ a) := by
  have h1 : a < shN := by
    have := (List.getElem?_eq_some_iff.mp h).1
    rwa [wsO_len] at this
  rw [wsO_get h1] at h
  exact ⟨h1, (Option.some.inj h).symm⟩
def sI (σ : MH) (a i : Nat) (v : Int32) : MH := (fun b => if b = a then upd (σ.1 b) i v else σ.1 b, σ.2)
def sJ (σ : MH) (a i : Nat) (v : Int64) : MH := (σ.1, fun b => if b = a then vp_updL (σ.2 b) i v else σ.2 b)
theorem wsO_upd {w : MD} {σ σ' : MH} {a : Nat} {e : va_E} (ha : a < shN) (he : ent w σ' a = e) (ho : ∀ b, b ≠ a → ent w σ' b = ent w σ b) : (wsO w σ).set a (w.2.2.1 a, e) = wsO w σ' := by
  apply List.ext_getElem?
  intro k
  rw [List.getElem?_set]
  by_cases hk : a = k
  · subst hk
    rw [if_pos rfl, if_pos (by rw [wsO_len]; exact ha), wsO_get ha, he]
  · rw [if_neg hk]
    by_cases hl : k < shN
    · rw [wsO_get hl, wsO_get hl, ho k (fun q => hk q.symm)]
    · rw [List.getElem?_eq_none (by rw [wsO_len]; omega), List.getElem?_eq_none (by rw [wsO_len]; omega)]
theorem ent_sI_ne {w : MD} {σ : MH} {a b i : Nat} {v : Int32} (h : b ≠ a) : ent w (sI σ a i v) b = ent w σ b := by
  unfold ent entF sI
  simp only [if_neg h]
theorem ent_sJ_ne {w : MD} {σ : MH} {a b i : Nat} {v : Int64} (h : b ≠ a) : ent w (sJ σ a i v) b = ent w σ b := by
  unfold ent entF sJ
  simp only [if_neg h]
theorem ent_i {w : MD} {σ : MH} {a : Nat} (h : shk a = 20) : ent w σ a = .inl (w.2.1.1, shn a, .inl (σ.1 a)) := by
  unfold ent; rw [if_pos h]
theorem ent_j {w : MD} {σ : MH} {a : Nat} (h : shk a = 21) : ent w σ a = .inl (w.2.1.2.1, shn a, .inr (.inl (σ.2 a))) := by
  unfold ent; rw [if_neg (by omega), if_pos h]
theorem ent_b {w : MD} {σ : MH} {a : Nat} (h : shk a = 22) : ent w σ a = .inl (w.2.1.2.2.1, shn a, .inl (σ.1 a)) := by
  unfold ent; rw [if_neg (by omega), if_neg (by omega), if_pos h]
theorem ent_r {w : MD} {σ : MH} {a : Nat} (h : shk a = 23) : ent w σ a = .inl (w.2.1.2.2.2, shn a, .inr (.inr (.inr (.inr (fun i => some (w.2.2.1 (rfv a i))))))) := by
  unfold ent; rw [if_neg (by omega), if_neg (by omega), if_neg (by omega), if_pos h]
theorem ent_o {w : MD} {σ : MH} {a c : Nat} (h : shk a = c) (hc : c < 20) : ent w σ a = .inr (c, entF w σ a) := by
  unfold ent; rw [if_neg (by omega), if_neg (by omega), if_neg (by omega), if_neg (by omega), h]
theorem wsO_sI {w : MD} {σ : MH} {a i : Nat} {v : Int32} (h : shk a = 20) : (wsO w σ).set a (w.2.2.1 a, .inl (w.2.1.1, shn a, .inl (upd (σ.1 a) i v))) = wsO w (sI σ a i v) := by
  refine wsO_upd (shk_lt h (by omega)) ?_ (fun b hb => ent_sI_ne hb)
  rw [ent_i h]; simp [sI]
theorem wsO_sB {w : MD} {σ : MH} {a i : Nat} {v : Int32} (h : shk a = 22) : (wsO w σ).set a (w.2.2.1 a, .inl (w.2.1.2.2.1, shn a, .inl (upd (σ.1 a) i v))) = wsO w (sI σ a i v) := by
  refine wsO_upd (shk_lt h (by omega)) ?_ (fun b hb => ent_sI_ne hb)
  rw [ent_b h]; simp [sI]
theorem wsO_sJ {w : MD} {σ : MH} {a i : Nat} {v : Int64} (h : shk a = 21) : (wsO w σ).set a (w.2.2.1 a, .inl (w.2.1.2.1, shn a, .inr (.inl (vp_updL (σ.2 a) i v)))) = wsO w (sJ σ a i v) := by
  refine wsO_upd (shk_lt h (by omega)) ?_ (fun b hb => ent_sJ_ne hb)
  rw [ent_j h]; simp [sJ]
theorem entF_get {w : MD} {σ : MH} {a k : Nat} (hk : k < shn a) : (entF w σ a)[k]? = some (if fkr (shk a) k = true then .ref (w.2.2.1 (rfv a k)) else .int (σ.1 a k)) := by
  unfold entF
  rw [List.getElem?_map, List.getElem?_range hk]
  rfl
theorem wsO_sF {w : MD} {σ : MH} {a c k : Nat} {v : Int32} (h : shk a = c) (hc : c < 20) (hk : k < shn a) (hf : fkr c k = false) : (wsO w σ).set a (w.2.2.1 a, .inr (c, (entF w σ a).set k (.int v))) = wsO w (sI σ a k v) := by
  refine wsO_upd (shk_lt h (by omega)) ?_ (fun b hb => ent_sI_ne hb)
  rw [ent_o h hc]
  congr 2
  apply List.ext_getElem?
  intro j
  rw [List.getElem?_set]
  have hlen : (entF w σ a).length = shn a := by simp [entF]
  by_cases hj : k = j
  · subst hj
    rw [if_pos rfl, if_pos (by rw [hlen]; exact hk), entF_get hk]
    rw [h, hf]
    simp [sI, upd]
  · rw [if_neg hj]
    by_cases hl : j < shn a
    · rw [entF_get hl, entF_get hl]
      simp only [sI, upd, if_true, if_neg (fun q : j = k => hj q.symm)]
    · rw [List.getElem?_eq_none (by simp [entF]; omega), List.getElem?_eq_none (by simp [entF]; omega)]
/-- the locals: what is known of them -/
def lvm (w : MD) (ls : Array Slot) (nL : Nat) (L : List (Option Value)) : Prop := ls.size = nL ∧ lv_wf ls ∧ ∀ (i : Nat) (v : Value), L[i]? = some (some v) → ls[i]? = some (.val (mv w v))
/-- no long stands just below -/
def nlb (L : List (Option Value)) (i : Nat) : Bool := match i with
  | 0 => true
  | k + 1 => match L.getD k none with
    | some v => v.category == 1
    | none => true
theorem lvm_st1 {w : MD} {ls : Array Slot} {nL i : Nat} {L : List (Option Value)} {v : Value} (h : lvm w ls nL L) (hi : i < nL) (hc : v.category = 1) (hp : nlb L i = true) :
    ∃ ls', storeLocals ls i (mv w v) = some ls' ∧ lvm w ls' nL (L.set i (some v)) := by
  obtain ⟨h1, h2, h3⟩ := h
  have hcm : (mv w v).category = 1 := by rw [mv_cat]; exact hc
  obtain ⟨ls', e, f1, f2, f3⟩ := lv_store1 (l := []) (v := mv w v) ⟨h1, h2, fun q hq => by cases hq⟩ hi hcm
  refine ⟨ls', e, f1, f2, fun j u hj => ?_⟩
  rw [List.getElem?_set] at hj
  by_cases hij : i = j
  · subst hij
    rw [if_pos rfl] at hj
    split at hj
    · cases hj; exact f3 (i, mv w v) (by simp)
    · cases hj
  · rw [if_neg hij] at hj
    obtain ⟨ls2, e2, g1, g2, g3⟩ := lv_store1 (l := [(j, mv w u)]) (v := mv w v) ⟨h1, h2, fun q hq => by
      rw [List.mem_singleton.mp hq]; exact h3 j u hj⟩ hi hcm
    rw [e] at e2
    cases e2
    refine g3 (j, mv w u) (List.mem_cons_of_mem _ (List.mem_filter.mpr ⟨List.mem_singleton.mpr rfl, ?_⟩))
    have hne : (j == i) = false := by simp; exact fun q => hij q.symm
    simp only [hne, Bool.not_false, Bool.true_and, Bool.not_eq_true', Bool.and_eq_false_iff]
    by_cases hj1 : j + 1 = i
    · subst hj1
      right
      simp only [nlb, List.getD_eq_getElem?_getD, hj, Option.getD_some] at hp
      rw [mv_cat]
      simp only [beq_iff_eq] at hp
      rw [hp]; rfl
    · left; simpa using hj1
theorem lvm_st2 {w : MD} {ls : Array Slot} {nL i : Nat} {L : List (Option Value)} {v : Value} (h : lvm w ls nL L) (hi : i + 1 < nL) (hc : v.category = 2) (hp : nlb L i = true) :
    ∃ ls', storeLocals ls i (mv w v) = some ls' ∧ lvm w ls' nL ((L.set i (some v)).set (i + 1) none) := by
  obtain ⟨h1, h2, h3⟩ := h
  have hcm : (mv w v).category = 2 := by rw [mv_cat]; exact hc
  obtain ⟨ls', e, f1, f2, f3⟩ := lv_store2 (l := []) (v := mv w v) ⟨h1, h2, fun q hq => by cases hq⟩ hi hcm
  refine ⟨ls', e, f1, f2, fun j u hj => ?_⟩
  rw [List.getElem?_set] at hj
  by_cases hij1 : i + 1 = j
  · subst hij1
    rw [if_pos rfl] at hj
    split at hj <;> cases hj
  rw [if_neg hij1, List.getElem?_set] at hj
  by_cases hij : i = j
  · subst hij
    rw [if_pos rfl] at hj
    split at hj
    · cases hj; exact f3 (i, mv w v) (by simp)
    · cases hj
  · rw [if_neg hij] at hj
    obtain ⟨ls2, e2, g1, g2, g3⟩ := lv_store2 (l := [(j, mv w u)]) (v := mv w v) ⟨h1, h2, fun q hq => by
      rw [List.mem_singleton.mp hq]; exact h3 j u hj⟩ hi hcm
    rw [e] at e2
    cases e2
    refine g3 (j, mv w u) (List.mem_cons_of_mem _ (List.mem_filter.mpr ⟨List.mem_singleton.mpr rfl, ?_⟩))
    have hne : (j == i) = false := by simp; exact fun q => hij q.symm
    have hne1 : (j == i + 1) = false := by simp; exact fun q => hij1 q.symm
    simp only [hne, hne1, Bool.not_false, Bool.true_and, Bool.not_eq_true', Bool.and_eq_false_iff]
    by_cases hj1 : j + 1 = i
    · subst hj1
      right
      simp only [nlb, List.getD_eq_getElem?_getD, hj, Option.getD_some] at hp
      rw [mv_cat]
      simp only [beq_iff_eq] at hp
      rw [hp]; rfl
    · left; simpa using hj1
theorem lvm_get {w : MD} {ls : Array Slot} {nL i : Nat} {L : List (Option Value)} {v : Value} (h : lvm w ls nL L) (hl : L.getD i none = some v) : ls[i]? = some (.val (mv w v)) := by
  refine h.2.2 i v ?_
  rw [List.getD_eq_getElem?_getD] at hl
  cases q : L[i]? with
  | none => rw [q] at hl; cases hl
  | some o => rw [q] at hl; simp only [Option.getD_some] at hl; rw [hl]
end
section
/-! THE JUDGEMENTS: a contract of a method (Ev), a run within a method (Go) -/
def TBG : List Cond := lw_tbl.filter goodWord
theorem TBG_mem {w : Cond} {i : Nat} (h : lw_tbl[i]? = some w) (hg : goodWord w = true) : w ∈ TBG := List.mem_filter.mpr ⟨List.mem_of_getElem? h, hg⟩
theorem TBG_good : ∀ w ∈ TBG, (w.onTables && w.keeps) = true ∨ ∃ ty, w = .arrayClass ty := fun w h => good_of_word (List.mem_filter.mp h).2
def rmD (d : Nat) : Room := { frames := d, cells := 0, slots := 0, locals := 64 * d }
/-- the objects' addresses are apart -/
def adOK (w : MD) : Prop := ∀ a b, a < shN → b < shN → w.2.2.1 a = w.2.2.1 b → a = b
/-- what may change: the world's objects, and what comes later -/
def AF (w : MD) (sz : Nat) : Nat → Prop := fun q => (∃ a, a < shN ∧ q = w.2.2.1 a) ∨ sz ≤ q
/-- what the tables say, in a state -/
def WS (w : MD) (U : State) : Prop := va_K w.1 vwCl (mtys w) U ∧ (∀ q ∈ nestL, va_Nw (.methodLinkNest q.1 q.2.1 q.2.2.1 q.2.2.2) U) ∧ ∀ (i : Nat) (q : String × Nat × String), strL[i]? = some q → vk_R q.1 q.2.1 q.2.2 (w.2.2.2.1 i) U
def WT (w : MD) (A : Nat → Prop) (U : State) (H : Heap) : Prop := vk_S 2 strN strB w.2.2.2.1 w.2.2.2.2 A U H
theorem WS.warm {w : MD} {s U : State} (hW : s.WarmedH U.vm) (h : WS w s) : WS w U := ⟨va_K.moved hW.alike h.1, fun q hq => va_Nw.warmM hW (h.2.1 q hq), fun i q hq => vk_R.warm hW (h.2.2 i q hq)⟩
theorem WS.same {w : MD} {s U : State} (hv : U.vm = s.vm) (h : WS w s) : WS w U := ⟨va_K.moved (by rw [hv]; exact Vm.Alike.refl _) h.1, fun q hq => va_Nw.same rfl hv.symm (h.2.1 q hq), fun i q hq => vk_R.same hv (h.2.2 i q hq)⟩
def TBm (N : Mth) : List Cond := .code N.1 N.2.1 N.2.2.1 N.2.2.2.1 :: TBG
/-- the contract: from every state whose heap is this one, the method answers r and leaves that heap -/
def PEv (w : MD) (sz : Nat) (σ : MH) : State → Prop := fun U => U.heap.size = sz ∧ va_P w.1 vwCl (wsO w σ) U.heap ∧ adOK w ∧ WS w U ∧ WT w (AF w sz) U U.heap
def Ev (N : Mth) (d : Nat) (as : List Value) (σ : MH) (r : Option Value) (σ' : MH) : Prop :=
  ∀ (l : Launch) (w : MD) (sz : Nat), Met l N.1 (TBm N) (rmD d) (va_Pc (as.map (mv w)) (PEv w sz σ)) (fun _ st o t => (o = .returned (r.map (mv w)) ∧ va_P w.1 vwCl (wsO w σ') t.heap) ∧ va_F (AF w sz) st t) 0 0 (AF w sz)
/-- where a method's body stands -/
def Cx (M : Mth) (d : Nat) (p : Program) (R : Room) (s : State) (m : MethodId) (args : Array Value) (meth : Method) (c : Code) (w : MD) (A : Nat → Prop) : Prop :=
  p.tables.exec = Jvm.exec ∧ c.code = M.2.1 ∧ c.maxLocals = M.2.2.1 ∧ s.vm.findClass M.2.2.2.2 = some m.cls ∧ (∀ q ∈ TBG, q.before args s = true) ∧ WS w s ∧ WT w A s s.heap ∧ adOK w ∧ (∀ a, a < shN → A (w.2.2.1 a)) ∧ (∀ q, s.heap.size ≤ q → A q) ∧ d ≤ R.frames ∧ 64 * d ≤ R.locals
def retOK (b : ByteArray) (pc : Nat) (S : List Value) : Prop := (S = [] ∧ decode b pc = .ok (.return_, 1)) ∨ (∃ x, S = [.int x] ∧ decode b pc = .ok (.ireturn, 1)) ∨ (∃ x, S = [.long x] ∧ decode b pc = .ok (.lreturn, 1))
def WM (M : Mth) (p : Program) (l : Launch) (e : Env) (R : Room) (s : State) (m : MethodId) (args : Array Value) (below : List Frame) (meth : Method) (c : Code) (w : MD) (A : Nat → Prop) (Q : State → Prop) : MC → Prop
  | (some pc, L, S, σ) => ∀ (H : Heap) (locs : List Loc) (ls : Array Slot), va_P w.1 vwCl (wsO w σ) H → va_S A s.heap H locs → lvm w ls M.2.2.1 L → W p l e R s m args below meth c H locs 0 0 Q (F0 m pc ls (S.map (mv w)))
  | (none, _, S, σ) => ∀ (H : Heap) (locs : List Loc) (ls : Array Slot) (pc : Nat), va_P w.1 vwCl (wsO w σ) H → va_S A s.heap H locs → retOK M.2.1 pc S → W p l e R s m args below meth c H locs 0 0 Q (F0 m pc ls (S.map (mv w)))
def Go (M : Mth) (d : Nat) (a b : MC) : Prop :=
  ∀ (p : Program) (l : Launch) (e : Env) (R : Room) (s : State) (m : MethodId) (args : Array Value) (below : List Frame) (meth : Method) (c : Code) (w : MD) (A : Nat → Prop) (Q : State → Prop), Cx M d p R s m args meth c w A → WM M p l e R s m args below meth c w A Q b → WM M p l e R s m args below meth c w A Q a
theorem Go.rf {M : Mth} {d : Nat} {a : MC} : Go M d a a := fun _ _ _ _ _ _ _ _ _ _ _ _ _ _ h => h
theorem Go.t {M : Mth} {d : Nat} {a b c : MC} (h1 : Go M d a b) (h2 : Go M d b c) : Go M d a c := fun p l e R s m args below meth cc w A Q C h => h1 p l e R s m args below meth cc w A Q C (h2 p l e R s m args below meth cc w A Q C h)
theorem va_D_ws {w : MD} {σ : MH} {A : Nat → Prop} (h : adOK w) (hA : ∀ a, a < shN → A (w.2.2.1 a)) : va_D A (wsO w σ) := by
  refine ⟨fun i j p q hp hq e => ?_, fun k q hq => ?_⟩
  · obtain ⟨h1, e1⟩ := wsO_some hp
    obtain ⟨h2, e2⟩ := wsO_some hq
    rw [e1, e2] at e
    exact h i j h1 h2 e
  · obtain ⟨h1, e1⟩ := wsO_some hq
    rw [e1]
    exact hA k h1
/-- fewer locals are known -/
def lforg : List (Option Value) → List (Option Value) → Bool
  | _, [] => true
  | [], none :: r => lforg [] r
  | [], some _ :: _ => false
  | _ :: a, none :: r => lforg a r
  | none :: _, some _ :: _ => false
  | some _ :: a, some _ :: r => lforg a r
/-- L' knows no more than L does -/
def LSub (L L' : List (Option Value)) : Prop := ∀ (i : Nat) (v : Value), L'[i]? = some (some v) → L[i]? = some (some v)
theorem LSub.nil {L : List (Option Value)} : LSub L [] := fun i v h => by simp at h
theorem LSub.cn {L L' : List (Option Value)} {x : Option Value} (h : LSub L L') : LSub (x :: L) (none :: L') := fun i v hi => by
  cases i with
  | zero => simp at hi
  | succ i => exact h i v hi
theorem LSub.cs {L L' : List (Option Value)} {x : Option Value} (h : LSub L L') : LSub (x :: L) (x :: L') := fun i v hi => by
  cases i with
  | zero => exact hi
  | succ i => exact h i v hi
theorem Go.fg {M : Mth} {d pc : Nat} {L L' : List (Option Value)} {S : List Value} {σ : MH} (h : LSub L L') : Go M d (some pc, L, S, σ) (some pc, L', S, σ) := by
  intro p l e R s m args below meth c w A Q C k H locs ls hP hS hl
  exact k H locs ls hP hS ⟨hl.1, hl.2.1, fun i v hi => hl.2.2 i v (h i v hi)⟩
theorem AF_in {w : MD} {sz : Nat} {A : Nat → Prop} (hA : ∀ a, a < shN → A (w.2.2.1 a)) (hB : ∀ q, sz ≤ q → A q) {sz' : Nat} (hs : sz ≤ sz') : ∀ q, AF w sz' q → A q := by
  intro q h
  rcases h with ⟨a, h1, rfl⟩ | h
  · exact hA a h1
  · exact hB q (Nat.le_trans hs h)
theorem PEv.blind {w : MD} {sz : Nat} {σ : MH} {as : List Value} : FrameBlind (va_Pc as (PEv w sz σ)) := fun _ _ _ _ q => ⟨q.1, q.2.1, q.2.2.1, q.2.2.2.1, q.2.2.2.2.1.same rfl, q.2.2.2.2.2.moved (Vm.Alike.refl _)⟩
theorem PEv.at {w : MD} {σ : MH} {s : State} {H : Heap} {A : Nat → Prop} {locs : List Loc} (hWS : WS w s) (hWT : WT w A s s.heap) (had : adOK w) (hA : ∀ a, a < shN → A (w.2.2.1 a)) (hB : ∀ q, s.heap.size ≤ q → A q) (hP : va_P w.1 vwCl (wsO w σ) H) (hS : va_S A s.heap H locs) : ∀ U : State, U.heap = H → s.WarmedH U.vm → PEv w H.size σ U := by
  intro U hU hW
  refine ⟨by rw [hU], by rw [hU]; exact hP, had, hWS.warm hW, ?_⟩
  rw [hU]
  exact ((hWT.kept hS.2.1).narrow (AF_in hA hB hS.1)).moved hW.alike
/-- a method's contract out of a run of its body -/
theorem Ev.of {M : Mth} {d : Nat} {as : List Value} {σ σ' : MH} {r : Option Value} {L : List (Option Value)} (hy : plainName M.1.cls = true) (hcls : M.1.cls = M.2.2.2.2)
    (hfit : (lg_sl as).length ≤ M.2.2.1) (hL : ∀ (i : Nat) (v : Value), L[i]? = some (some v) → (i, v) ∈ lv_args 0 as)
    (hret : match r with
      | none => M.2.2.2.1 = none
      | some (.int x) => ∃ ty, M.2.2.2.1 = some ty ∧ narrow ty (.int x) = .int x
      | some (.long _) => M.2.2.2.1 = some .long
      | _ => False)
    (h : Go M d (some 0, L, [], σ) (none, [], r.toList, σ')) : Ev M d as σ r σ' := by
  intro l w sz
  refine Met.ofW (cc := M.2.1) (maxL := M.2.2.1) (ret := M.2.2.2.1) hy rfl ?_
  intro p e s m args below meth c s₁ B hml hv
  obtain ⟨rfl, hsz, hP, had, hWS, hWT⟩ := hv
  have hx := B.exec
  have hb := B.bytes
  have hr := B.returns
  have hts0 := atoms_spec (ws := TBm M) B.pre
  have hts : ∀ q ∈ TBG, q.before ((as.map (mv w)).toArray) s = true := fun q hq => hts0 q (List.mem_cons_of_mem _ hq)
  have hown : s.vm.findClass M.1.cls = some m.cls := findClass_of_methodNamed B.named
  rw [hcls] at hown
  have hlocks := B.notSynchronized
  subst hsz
  have hcat : lg_sl (as.map (mv w)) = lg_sl (as.map (mv w)) := rfl
  have hlen : (lg_sl (as.map (mv w))).length = (lg_sl as).length := by
    have : ∀ vs : List Value, (lg_sl (vs.map (mv w))).length = (lg_sl vs).length := by
      intro vs
      induction vs with
      | nil => rfl
      | cons v vs ih =>
        simp only [lg_sl, List.map_cons, List.flatMap_cons, List.length_append] at ih ⊢
        rw [ih]
        cases v <;> rfl
    exact this as
  have hl0 := lv_entry (as.map (mv w)) (n := M.2.2.1) (by rw [hlen]; exact hfit)
  rw [lg_entry_eq]
  generalize (lg_sl (as.map (mv w)) ++ List.replicate (M.2.2.1 - (lg_sl (as.map (mv w))).length) Slot.unset).toArray = ls at hl0 ⊢
  have hmap : ∀ (vs : List Value) (n : Nat) (q : Nat × Value), q ∈ lv_args n vs → (q.1, mv w q.2) ∈ lv_args n (vs.map (mv w)) := by
    intro vs
    induction vs with
    | nil => intro n q hq; cases hq
    | cons v vs ih =>
      intro n q hq
      simp only [lv_args, List.map_cons] at hq ⊢
      rcases List.mem_cons.mp hq with rfl | hq
      · exact List.mem_cons_self
      · refine List.mem_cons_of_mem _ ?_
        rw [mv_cat]
        exact ih _ q hq
  have hl : lvm w ls M.2.2.1 L := ⟨hl0.1, hl0.2.1, fun i v hi => hl0.2.2 (i, mv w v) (hmap as 0 (i, v) (hL i v hi))⟩
  have hA : ∀ a, a < shN → AF w s.heap.size (w.2.2.1 a) := fun a ha => Or.inl ⟨a, ha, rfl⟩
  have hB : ∀ q, s.heap.size ≤ q → AF w s.heap.size q := fun q hq => Or.inr hq
  have C : Cx M d p (headSpec (TBm M) (rmD d)).room s m ((as.map (mv w)).toArray) meth c w (AF w s.heap.size) := ⟨hx, hb, hml, hown, hts, hWS, hWT, had, hA, hB, Nat.le_refl _, Nat.le_refl _⟩
  refine h p l e _ s m _ below meth c w (AF w s.heap.size) _ C ?_ s.heap [] ls hP va_S.rf hl
  intro H locs ls' pc hP' hS' hR
  have hpost : ∀ t : State, t.heap = H → va_P w.1 vwCl (wsO w σ') t.heap ∧ va_F (AF w s.heap.size) s t := fun t ht => ⟨by rw [ht]; exact hP', hS'.F ht⟩
  rcases hR with ⟨hS0, hd⟩ | ⟨x, hS0, hd⟩ | ⟨x, hS0, hd⟩
  · cases r with
    | some v => cases hS0
    | none =>
      exact W.vret hx hb (hr.trans hret) (fun t ht _ => ⟨⟨rfl, (hpost t ht).1⟩, (hpost t ht).2⟩) hS'.2.2 hd
  · cases r with
    | none => cases hS0
    | some v =>
      cases hS0
      obtain ⟨ty, h1, h2⟩ := hret
      exact W.zret hx hb (hr.trans h1) h2 (fun t ht _ => ⟨⟨rfl, (hpost t ht).1⟩, (hpost t ht).2⟩) hS'.2.2 hd
  · cases r with
    | none => cases hS0
    | some v =>
      cases hS0
      exact W.lret hx hb (hr.trans hret) (fun t ht _ => ⟨⟨rfl, (hpost t ht).1⟩, (hpost t ht).2⟩) hS'.2.2 hd
end
section
/-! ONE INSTRUCTION OF THE SMALL MACHINE, and what it asks; that the machine goes so -/
def jrem (x y : Int32) : Int32 := x - x / y * y
def jlrem (x y : Int64) : Int64 := x - x / y * y
def jshl (x y : Int32) : Int32 := x <<< (y &&& 31)
def jshr (x y : Int32) : Int32 := x >>> (y &&& 31)
def jushr (x y : Int32) : Int32 := (x.toUInt32 >>> (y.toUInt32 &&& Int32.toUInt32 31)).toInt32
def jb (x : Int32) : Int32 := x.toInt8.toInt32
def jc (x : Int32) : Int32 := (x.toUInt32 % 65536).toInt32
def IA (a n : Nat) : Prop := shk a = 20 ∧ shn a = n
def IJ (a n : Nat) : Prop := shk a = 21 ∧ shn a = n
def IB (a n : Nat) : Prop := shk a = 22 ∧ shn a = n
def IR (a n : Nat) : Prop := shk a = 23 ∧ shn a = n
/-- an index within a row -/
def inb (i : Int32) (n : Nat) : Bool := !(decide (i < 0) || Nat.ble n i.toNatClampNeg)
theorem inb_in {i : Int32} {n : Nat} (h : inb i n = true) : vp_in i n := by
  unfold inb at h
  intro q
  rcases q with q | q
  · simp [q] at h
  · simp [Nat.ble_eq.mpr q] at h
def bz (x : Int32) : Bool := x == 0 || x == 1
abbrev PL : Type := List (Nat × Nat) × List (Nat × Int32) × List (Nat × Int64) × List (Nat × Nat)
def ilen : Instr → Nat
  | .bipush _ => 2 | .sipush _ => 3 | .ldc _ => 2 | .ldc_w _ => 3 | .ldc2_w _ => 3 | .iload _ => 2 | .lload _ => 2 | .aload _ => 2 | .istore _ => 2 | .lstore _ => 2 | .astore _ => 2
  | .iinc _ _ => 3 | .goto _ => 3 | .getfield _ => 3 | .putfield _ => 3 | .ifCond _ _ => 3 | .if_icmp _ _ => 3 | .ifnonnull _ => 3 | .ifnull _ => 3 | .invokestatic _ => 3 | .invokevirtual _ => 3 | .invokespecial _ => 3
  | _ => 1
/-- what an entry of the code list must keep, beside its decoding -/
def exE (P : PL) (pc : Nat) (I : Instr) (aux : Nat) (v : Int32) (w : Int64) : Bool :=
  match I with
  | .iconst n => decide (Int32.ofInt n = v)
  | .bipush n => decide ((Int8.ofInt n).toInt32 = v)
  | .sipush n => decide ((Int16.ofInt n).toInt32 = v)
  | .ldc n => P.2.1.any (fun q => Nat.beq q.1 n && decide (q.2 = v))
  | .ldc_w n => P.2.1.any (fun q => Nat.beq q.1 n && decide (q.2 = v))
  | .ldc2_w n => P.2.2.1.any (fun q => Nat.beq q.1 n && decide (q.2 = w))
  | .lconst n => decide (Int64.ofNat n.val = w)
  | .iinc _ n => decide (Int32.ofInt n = v)
  | .goto off => decide ((pc : Int) + off = (aux : Int))
  | .ifCond _ off => decide ((pc : Int) + off = (aux : Int))
  | .if_icmp _ off => decide ((pc : Int) + off = (aux : Int))
  | .ifnonnull off => decide ((pc : Int) + off = (aux : Int))
  | .ifnull off => decide ((pc : Int) + off = (aux : Int))
  | .arraylength => decide (Int32.ofNat aux = v)
  | .getfield n => P.1.any (fun q => Nat.beq q.1 n && Nat.beq q.2 aux)
  | .putfield n => P.1.any (fun q => Nat.beq q.1 n && Nat.beq q.2 aux)
  | _ => true
def okE (M : Mth) (P : PL) (E : ME) : Prop := decode M.2.1 E.1 = .ok (E.2.1, ilen E.2.1) ∧ exE P E.1 E.2.1 E.2.2.1 E.2.2.2.1 E.2.2.2.2 = true
/-- a field's reference: its words -/
def FOK (own : String) (idx aux : Nat) : Prop := ∃ (C : String) (T : u_T) (N : Nat) (ref : String), vwCl[aux / 64]? = some (C, T, N) ∧ aux / 64 < 20 ∧ aux % 64 < N ∧ (∀ a, shk a = aux / 64 → shn a = N) ∧ (∀ w ∈ u_ws C T N, w ∈ TBG) ∧ Cond.fieldLink own idx ref (T (aux % 64)).2.1 (T (aux % 64)).2.2.1 ∈ TBG ∧ (ref = (T (aux % 64)).1 ∨ Cond.sameField ref (T (aux % 64)).1 (T (aux % 64)).2.1 (T (aux % 64)).2.2.1 ∈ TBG) ∧
  (fnl (aux / 64) (aux % 64) = (T (aux % 64)).2.2.2) ∧ (fkr (aux / 64) (aux % 64) = false → parseFieldDescriptor (T (aux % 64)).2.2.1 = some (if fzr (aux / 64) (aux % 64) = true then .boolean else .int)) ∧ (∃ ty : Nat → FieldType, ∀ k, k < N → parseFieldDescriptor (T k).2.2.1 = some (ty k)) ∧ (∀ a, a < N → ∀ b, b < N → a ≠ b → (T a).2.1 ≠ (T b).2.1)
def PLOK (own : String) (P : PL) : Prop := (∀ q ∈ P.1, FOK own q.1 q.2) ∧ (∀ q ∈ P.2.1, Cond.constant own q.1 q.2 ∈ TBG) ∧ (∀ q ∈ P.2.2.1, Cond.constantLong own q.1 q.2 ∈ TBG) ∧ (∀ q ∈ P.2.2.2, ∃ tx, strL[q.2]? = some (own, q.1, tx))
theorem PL_f {own : String} {P : PL} (h : PLOK own P) {n aux : Nat} (hq : P.1.any (fun q => Nat.beq q.1 n && Nat.beq q.2 aux) = true) : FOK own n aux := by
  obtain ⟨q, hq1, hq2⟩ := List.any_eq_true.mp hq
  simp only [Bool.and_eq_true] at hq2
  have e1 := Nat.eq_of_beq_eq_true hq2.1
  have e2 := Nat.eq_of_beq_eq_true hq2.2
  have := h.1 q hq1
  rw [e1, e2] at this
  exact this
theorem PL_c {own : String} {P : PL} (h : PLOK own P) {n : Nat} {v : Int32} (hq : P.2.1.any (fun q => Nat.beq q.1 n && decide (q.2 = v)) = true) : Cond.constant own n v ∈ TBG := by
  obtain ⟨q, hq1, hq2⟩ := List.any_eq_true.mp hq
  simp only [Bool.and_eq_true, decide_eq_true_eq] at hq2
  have e1 := Nat.eq_of_beq_eq_true hq2.1
  have := h.2.1 q hq1
  rw [e1, hq2.2] at this
  exact this
theorem PL_l {own : String} {P : PL} (h : PLOK own P) {n : Nat} {v : Int64} (hq : P.2.2.1.any (fun q => Nat.beq q.1 n && decide (q.2 = v)) = true) : Cond.constantLong own n v ∈ TBG := by
  obtain ⟨q, hq1, hq2⟩ := List.any_eq_true.mp hq
  simp only [Bool.and_eq_true, decide_eq_true_eq] at hq2
  have e1 := Nat.eq_of_beq_eq_true hq2.1
  have := h.2.2.1 q hq1
  rw [e1, hq2.2] at this
  exact this

theorem blt_lt {a b : Nat} (h : Nat.blt a b = true) : a < b := Nat.le_of_ble_eq_true h
def oP : Option Prop → Prop
  | none => True
  | some p => p
def stp (M : Mth) (pc : Nat) (I : Instr) (aux : Nat) (v : Int32) (w : Int64) (L : List (Option Value)) (S : List Value) (σ : MH) : Option (MC × Option Prop) :=
  match I with
  | .iconst n => some ((some (pc + 1), L, .int v :: S, σ), none)
  | .bipush n => some ((some (pc + 2), L, .int v :: S, σ), none)
  | .sipush n => some ((some (pc + 3), L, .int v :: S, σ), none)
  | .ldc n => some ((some (pc + 2), L, .int v :: S, σ), none)
  | .ldc_w n => some ((some (pc + 3), L, .int v :: S, σ), none)
  | .ldc2_w n => some ((some (pc + 3), L, .long w :: S, σ), none)
  | .lconst n => some ((some (pc + 1), L, .long w :: S, σ), none)
  | .aconst_null => some ((some (pc + 1), L, .null :: S, σ), none)
  | .iload n => (match L.getD n none with | some (.int x) => some ((some (pc + 2), L, .int x :: S, σ), none) | _ => none)
  | .iload_n n => (match L.getD n.val none with | some (.int x) => some ((some (pc + 1), L, .int x :: S, σ), none) | _ => none)
  | .lload n => (match L.getD n none with | some (.long x) => some ((some (pc + 2), L, .long x :: S, σ), none) | _ => none)
  | .lload_n n => (match L.getD n.val none with | some (.long x) => some ((some (pc + 1), L, .long x :: S, σ), none) | _ => none)
  | .aload n => (match L.getD n none with | some (.ref x) => some ((some (pc + 2), L, .ref x :: S, σ), none) | some .null => some ((some (pc + 2), L, .null :: S, σ), none) | _ => none)
  | .aload_n n => (match L.getD n.val none with | some (.ref x) => some ((some (pc + 1), L, .ref x :: S, σ), none) | some .null => some ((some (pc + 1), L, .null :: S, σ), none) | _ => none)
  | .iadd => (match S with | .int y :: .int x :: S => some ((some (pc + 1), L, .int (x + y) :: S, σ), none) | _ => none)
  | .isub => (match S with | .int y :: .int x :: S => some ((some (pc + 1), L, .int (x - y) :: S, σ), none) | _ => none)
  | .imul => (match S with | .int y :: .int x :: S => some ((some (pc + 1), L, .int (x * y) :: S, σ), none) | _ => none)
  | .iand => (match S with | .int y :: .int x :: S => some ((some (pc + 1), L, .int (x &&& y) :: S, σ), none) | _ => none)
  | .ior => (match S with | .int y :: .int x :: S => some ((some (pc + 1), L, .int (x ||| y) :: S, σ), none) | _ => none)
  | .ixor => (match S with | .int y :: .int x :: S => some ((some (pc + 1), L, .int (x ^^^ y) :: S, σ), none) | _ => none)
  | .ishl => (match S with | .int y :: .int x :: S => some ((some (pc + 1), L, .int (jshl x y) :: S, σ), none) | _ => none)
  | .ishr => (match S with | .int y :: .int x :: S => some ((some (pc + 1), L, .int (jshr x y) :: S, σ), none) | _ => none)
  | .iushr => (match S with | .int y :: .int x :: S => some ((some (pc + 1), L, .int (jushr x y) :: S, σ), none) | _ => none)
  | .idiv => (match S with | .int y :: .int x :: S => some ((some (pc + 1), L, .int (x / y) :: S, σ), some (y ≠ 0)) | _ => none)
  | .irem => (match S with | .int y :: .int x :: S => some ((some (pc + 1), L, .int (jrem x y) :: S, σ), some (y ≠ 0)) | _ => none)
  | .ladd => (match S with | .long y :: .long x :: S => some ((some (pc + 1), L, .long (x + y) :: S, σ), none) | _ => none)
  | .lsub => (match S with | .long y :: .long x :: S => some ((some (pc + 1), L, .long (x - y) :: S, σ), none) | _ => none)
  | .lmul => (match S with | .long y :: .long x :: S => some ((some (pc + 1), L, .long (x * y) :: S, σ), none) | _ => none)
  | .ldiv => (match S with | .long y :: .long x :: S => some ((some (pc + 1), L, .long (x / y) :: S, σ), some (y ≠ 0)) | _ => none)
  | .lrem => (match S with | .long y :: .long x :: S => some ((some (pc + 1), L, .long (jlrem x y) :: S, σ), some (y ≠ 0)) | _ => none)
  | .lcmp => (match S with | .long y :: .long x :: S => some ((some (pc + 1), L, .int (lg_cmp x y) :: S, σ), none) | _ => none)
  | .ineg => (match S with | .int x :: S => some ((some (pc + 1), L, .int (-x) :: S, σ), none) | _ => none)
  | .i2l => (match S with | .int x :: S => some ((some (pc + 1), L, .long x.toInt64 :: S, σ), none) | _ => none)
  | .l2i => (match S with | .long x :: S => some ((some (pc + 1), L, .int x.toInt32 :: S, σ), none) | _ => none)
  | .i2b => (match S with | .int x :: S => some ((some (pc + 1), L, .int (jb x) :: S, σ), none) | _ => none)
  | .i2c => (match S with | .int x :: S => some ((some (pc + 1), L, .int (jc x) :: S, σ), none) | _ => none)
  | .dup => (match S with | a :: S => if Nat.beq a.category 1 = true then some ((some (pc + 1), L, a :: a :: S, σ), none) else none | _ => none)
  | .pop => (match S with | a :: S => if Nat.beq a.category 1 = true then some ((some (pc + 1), L, S, σ), none) else none | _ => none)
  | .dup2 => (match S with | a :: b :: S => if (Nat.beq a.category 1 && Nat.beq b.category 1) = true then some ((some (pc + 1), L, a :: b :: a :: b :: S, σ), none) else none | _ => none)
  | .goto off => some ((some aux, L, S, σ), none)
  | .iaload => (match S with | .int i :: .ref a :: S => some ((some (pc + 1), L, .int (σ.1 a i.toNatClampNeg) :: S, σ), some (IA a aux ∧ inb i aux = true)) | _ => none)
  | .baload => (match S with | .int i :: .ref a :: S => some ((some (pc + 1), L, .int (σ.1 a i.toNatClampNeg) :: S, σ), some (IB a aux ∧ inb i aux = true)) | _ => none)
  | .laload => (match S with | .int i :: .ref a :: S => some ((some (pc + 1), L, .long (σ.2 a i.toNatClampNeg) :: S, σ), some (IJ a aux ∧ inb i aux = true)) | _ => none)
  | .aaload => (match S with | .int i :: .ref a :: S => some ((some (pc + 1), L, .ref (rfv a i.toNatClampNeg) :: S, σ), some (IR a aux ∧ inb i aux = true)) | _ => none)
  | .iastore => (match S with | .int x :: .int i :: .ref a :: S => some ((some (pc + 1), L, S, sI σ a i.toNatClampNeg x), some (IA a aux ∧ inb i aux = true)) | _ => none)
  | .bastore => (match S with | .int x :: .int i :: .ref a :: S => some ((some (pc + 1), L, S, sI σ a i.toNatClampNeg (vp_nar .byte x)), some (IB a aux ∧ inb i aux = true)) | _ => none)
  | .lastore => (match S with | .long x :: .int i :: .ref a :: S => some ((some (pc + 1), L, S, sJ σ a i.toNatClampNeg x), some (IJ a aux ∧ inb i aux = true)) | _ => none)
  | .arraylength => (match S with | .ref a :: S => some ((some (pc + 1), L, .int v :: S, σ), some (IA a aux)) | _ => none)
  | .getfield n => (match S with | .ref a :: S => some ((some (pc + 3), L, (if fkr (aux / 64) (aux % 64) = true then .ref (rfv a (aux % 64)) else .int (σ.1 a (aux % 64))) :: S, σ), some (shk a = aux / 64)) | _ => none)
  | .putfield n => (match S with | .int x :: .ref a :: S => if (!fkr (aux / 64) (aux % 64) && !fnl (aux / 64) (aux % 64)) = true then some ((some (pc + 3), L, S, sI σ a (aux % 64) x), some (if fzr (aux / 64) (aux % 64) = true then shk a = aux / 64 ∧ bz x = true else shk a = aux / 64)) else none | _ => none)
  | .istore n => (match S with | .int x :: S => if (Nat.blt n M.2.2.1 && nlb L n) = true then some ((some (pc + 2), L.set n (some (.int x)), S, σ), none) else none | _ => none)
  | .istore_n n => (match S with | .int x :: S => if (Nat.blt n.val M.2.2.1 && nlb L n.val) = true then some ((some (pc + 1), L.set n.val (some (.int x)), S, σ), none) else none | _ => none)
  | .astore n => (match S with | .ref x :: S => if (Nat.blt n M.2.2.1 && nlb L n) = true then some ((some (pc + 2), L.set n (some (.ref x)), S, σ), none) else none | _ => none)
  | .astore_n n => (match S with | .ref x :: S => if (Nat.blt n.val M.2.2.1 && nlb L n.val) = true then some ((some (pc + 1), L.set n.val (some (.ref x)), S, σ), none) else none | _ => none)
  | .lstore n => (match S with | .long x :: S => if (Nat.blt (n + 1) M.2.2.1 && nlb L n) = true then some ((some (pc + 2), (L.set n (some (.long x))).set (n + 1) none, S, σ), none) else none | _ => none)
  | .lstore_n n => (match S with | .long x :: S => if (Nat.blt (n.val + 1) M.2.2.1 && nlb L n.val) = true then some ((some (pc + 1), (L.set n.val (some (.long x))).set (n.val + 1) none, S, σ), none) else none | _ => none)
  | .iinc n q => (match L.getD n none with | some (.int x) => if (Nat.blt n M.2.2.1 && nlb L n) = true then some ((some (pc + 3), L.set n (some (.int (x + v))), S, σ), none) else none | _ => none)
  | _ => none
theorem gs_iconst {M : Mth} {d : Nat} {P : PL} {pc aux : Nat} {v : Int32} {w : Int64} {L : List (Option Value)} {S : List Value} {σ : MH} {c1 : MC} {Pr : Option Prop} (hPL : PLOK M.2.2.2.2 P) {n : Int} (hE : okE M P (pc, .iconst n, aux, v, w)) (h : stp M pc (.iconst n) aux v w L S σ = some (c1, Pr)) (hO : oP Pr) : Go M d (some pc, L, S, σ) c1 := by
  cases h
  intro p l e R s m args below meth c w0 A Q C k H locs ls hP hS hl
  exact lv_iconst C.1 C.2.1 hE.1 (of_decide_eq_true hE.2) (k H locs ls hP hS hl)
theorem gs_bipush {M : Mth} {d : Nat} {P : PL} {pc aux : Nat} {v : Int32} {w : Int64} {L : List (Option Value)} {S : List Value} {σ : MH} {c1 : MC} {Pr : Option Prop} (hPL : PLOK M.2.2.2.2 P) {n : Int} (hE : okE M P (pc, .bipush n, aux, v, w)) (h : stp M pc (.bipush n) aux v w L S σ = some (c1, Pr)) (hO : oP Pr) : Go M d (some pc, L, S, σ) c1 := by
  cases h
  intro p l e R s m args below meth c w0 A Q C k H locs ls hP hS hl
  exact lv_bipush C.1 C.2.1 hE.1 (of_decide_eq_true hE.2) (k H locs ls hP hS hl)
theorem gs_sipush {M : Mth} {d : Nat} {P : PL} {pc aux : Nat} {v : Int32} {w : Int64} {L : List (Option Value)} {S : List Value} {σ : MH} {c1 : MC} {Pr : Option Prop} (hPL : PLOK M.2.2.2.2 P) {n : Int} (hE : okE M P (pc, .sipush n, aux, v, w)) (h : stp M pc (.sipush n) aux v w L S σ = some (c1, Pr)) (hO : oP Pr) : Go M d (some pc, L, S, σ) c1 := by
  cases h
  intro p l e R s m args below meth c w0 A Q C k H locs ls hP hS hl
  exact lv_sipush C.1 C.2.1 hE.1 (of_decide_eq_true hE.2) (k H locs ls hP hS hl)
theorem gs_ldc {M : Mth} {d : Nat} {P : PL} {pc aux : Nat} {v : Int32} {w : Int64} {L : List (Option Value)} {S : List Value} {σ : MH} {c1 : MC} {Pr : Option Prop} (hPL : PLOK M.2.2.2.2 P) {n : Nat} (hE : okE M P (pc, .ldc n, aux, v, w)) (h : stp M pc (.ldc n) aux v w L S σ = some (c1, Pr)) (hO : oP Pr) : Go M d (some pc, L, S, σ) c1 := by
  cases h
  intro p l e R s m args below meth c w0 A Q C k H locs ls hP hS hl
  exact lv_ldc C.1 C.2.1 C.2.2.2.1 (C.2.2.2.2.1 _ (PL_c hPL hE.2)) hE.1 (k H locs ls hP hS hl)
theorem gs_ldcw {M : Mth} {d : Nat} {P : PL} {pc aux : Nat} {v : Int32} {w : Int64} {L : List (Option Value)} {S : List Value} {σ : MH} {c1 : MC} {Pr : Option Prop} (hPL : PLOK M.2.2.2.2 P) {n : Nat} (hE : okE M P (pc, .ldc_w n, aux, v, w)) (h : stp M pc (.ldc_w n) aux v w L S σ = some (c1, Pr)) (hO : oP Pr) : Go M d (some pc, L, S, σ) c1 := by
  cases h
  intro p l e R s m args below meth c w0 A Q C k H locs ls hP hS hl
  exact lv_ldcw C.1 C.2.1 C.2.2.2.1 (C.2.2.2.2.1 _ (PL_c hPL hE.2)) hE.1 (k H locs ls hP hS hl)
theorem gs_ldc2 {M : Mth} {d : Nat} {P : PL} {pc aux : Nat} {v : Int32} {w : Int64} {L : List (Option Value)} {S : List Value} {σ : MH} {c1 : MC} {Pr : Option Prop} (hPL : PLOK M.2.2.2.2 P) {n : Nat} (hE : okE M P (pc, .ldc2_w n, aux, v, w)) (h : stp M pc (.ldc2_w n) aux v w L S σ = some (c1, Pr)) (hO : oP Pr) : Go M d (some pc, L, S, σ) c1 := by
  cases h
  intro p l e R s m args below meth c w0 A Q C k H locs ls hP hS hl
  exact lv_ldc2 C.1 C.2.1 C.2.2.2.1 (C.2.2.2.2.1 _ (PL_l hPL hE.2)) hE.1 (k H locs ls hP hS hl)
theorem gs_lconst {M : Mth} {d : Nat} {P : PL} {pc aux : Nat} {v : Int32} {w : Int64} {L : List (Option Value)} {S : List Value} {σ : MH} {c1 : MC} {Pr : Option Prop} (hPL : PLOK M.2.2.2.2 P) {n : Fin 2} (hE : okE M P (pc, .lconst n, aux, v, w)) (h : stp M pc (.lconst n) aux v w L S σ = some (c1, Pr)) (hO : oP Pr) : Go M d (some pc, L, S, σ) c1 := by
  cases h
  intro p l e R s m args below meth c w0 A Q C k H locs ls hP hS hl
  exact lv_lconst C.1 C.2.1 hE.1 (of_decide_eq_true hE.2) (k H locs ls hP hS hl)
theorem gs_null {M : Mth} {d : Nat} {P : PL} {pc aux : Nat} {v : Int32} {w : Int64} {L : List (Option Value)} {S : List Value} {σ : MH} {c1 : MC} {Pr : Option Prop} (hPL : PLOK M.2.2.2.2 P) (hE : okE M P (pc, .aconst_null, aux, v, w)) (h : stp M pc .aconst_null aux v w L S σ = some (c1, Pr)) (hO : oP Pr) : Go M d (some pc, L, S, σ) c1 := by
  cases h
  intro p l e R s m args below meth c w0 A Q C k H locs ls hP hS hl
  exact lv_null C.1 C.2.1 hE.1 (k H locs ls hP hS hl)
theorem gs_iload {M : Mth} {d : Nat} {P : PL} {pc aux : Nat} {v : Int32} {w : Int64} {L : List (Option Value)} {S : List Value} {σ : MH} {c1 : MC} {Pr : Option Prop} (hPL : PLOK M.2.2.2.2 P) {n : Nat} (hE : okE M P (pc, .iload n, aux, v, w)) (h : stp M pc (.iload n) aux v w L S σ = some (c1, Pr)) (hO : oP Pr) : Go M d (some pc, L, S, σ) c1 := by
  unfold stp at h
  dsimp only at h
  split at h
  · rename_i x hm
    cases h
    intro p l e R s m args below meth c w0 A Q C k H locs ls hP hS hl
    exact lv_iload C.1 C.2.1 hE.1 (lvm_get hl hm) (k H locs ls hP hS hl)
  · cases h
theorem gs_iloadn {M : Mth} {d : Nat} {P : PL} {pc aux : Nat} {v : Int32} {w : Int64} {L : List (Option Value)} {S : List Value} {σ : MH} {c1 : MC} {Pr : Option Prop} (hPL : PLOK M.2.2.2.2 P) {n : Fin 4} (hE : okE M P (pc, .iload_n n, aux, v, w)) (h : stp M pc (.iload_n n) aux v w L S σ = some (c1, Pr)) (hO : oP Pr) : Go M d (some pc, L, S, σ) c1 := by
  unfold stp at h
  dsimp only at h
  split at h
  · rename_i x hm
    cases h
    intro p l e R s m args below meth c w0 A Q C k H locs ls hP hS hl
    exact lv_iload_n C.1 C.2.1 hE.1 rfl (lvm_get hl hm) (k H locs ls hP hS hl)
  · cases h
theorem gs_lload {M : Mth} {d : Nat} {P : PL} {pc aux : Nat} {v : Int32} {w : Int64} {L : List (Option Value)} {S : List Value} {σ : MH} {c1 : MC} {Pr : Option Prop} (hPL : PLOK M.2.2.2.2 P) {n : Nat} (hE : okE M P (pc, .lload n, aux, v, w)) (h : stp M pc (.lload n) aux v w L S σ = some (c1, Pr)) (hO : oP Pr) : Go M d (some pc, L, S, σ) c1 := by
  unfold stp at h
  dsimp only at h
  split at h
  · rename_i x hm
    cases h
    intro p l e R s m args below meth c w0 A Q C k H locs ls hP hS hl
    exact lv_lload C.1 C.2.1 hE.1 (lvm_get hl hm) (k H locs ls hP hS hl)
  · cases h
theorem gs_lloadn {M : Mth} {d : Nat} {P : PL} {pc aux : Nat} {v : Int32} {w : Int64} {L : List (Option Value)} {S : List Value} {σ : MH} {c1 : MC} {Pr : Option Prop} (hPL : PLOK M.2.2.2.2 P) {n : Fin 4} (hE : okE M P (pc, .lload_n n, aux, v, w)) (h : stp M pc (.lload_n n) aux v w L S σ = some (c1, Pr)) (hO : oP Pr) : Go M d (some pc, L, S, σ) c1 := by
  unfold stp at h
  dsimp only at h
  split at h
  · rename_i x hm
    cases h
    intro p l e R s m args below meth c w0 A Q C k H locs ls hP hS hl
    exact lv_lload_n C.1 C.2.1 hE.1 rfl (lvm_get hl hm) (k H locs ls hP hS hl)
  · cases h
theorem gs_aload {M : Mth} {d : Nat} {P : PL} {pc aux : Nat} {v : Int32} {w : Int64} {L : List (Option Value)} {S : List Value} {σ : MH} {c1 : MC} {Pr : Option Prop} (hPL : PLOK M.2.2.2.2 P) {n : Nat} (hE : okE M P (pc, .aload n, aux, v, w)) (h : stp M pc (.aload n) aux v w L S σ = some (c1, Pr)) (hO : oP Pr) : Go M d (some pc, L, S, σ) c1 := by
  unfold stp at h
  dsimp only at h
  split at h
  · rename_i x hm
    cases h
    intro p l e R s m args below meth c w0 A Q C k H locs ls hP hS hl
    exact lv_aload C.1 C.2.1 hE.1 (lvm_get hl hm) (k H locs ls hP hS hl)
  · rename_i hm
    cases h
    intro p l e R s m args below meth c w0 A Q C k H locs ls hP hS hl
    exact lv_aloadN C.1 C.2.1 hE.1 (lvm_get hl hm) (k H locs ls hP hS hl)
  · cases h
theorem gs_aloadn {M : Mth} {d : Nat} {P : PL} {pc aux : Nat} {v : Int32} {w : Int64} {L : List (Option Value)} {S : List Value} {σ : MH} {c1 : MC} {Pr : Option Prop} (hPL : PLOK M.2.2.2.2 P) {n : Fin 4} (hE : okE M P (pc, .aload_n n, aux, v, w)) (h : stp M pc (.aload_n n) aux v w L S σ = some (c1, Pr)) (hO : oP Pr) : Go M d (some pc, L, S, σ) c1 := by
  unfold stp at h
  dsimp only at h
  split at h
  · rename_i x hm
    cases h
    intro p l e R s m args below meth c w0 A Q C k H locs ls hP hS hl
    exact lv_aload_n C.1 C.2.1 hE.1 rfl (lvm_get hl hm) (k H locs ls hP hS hl)
  · rename_i hm
    cases h
    intro p l e R s m args below meth c w0 A Q C k H locs ls hP hS hl
    exact lv_aload_nN C.1 C.2.1 hE.1 rfl (lvm_get hl hm) (k H locs ls hP hS hl)
  · cases h
theorem gs_iadd {M : Mth} {d : Nat} {P : PL} {pc aux : Nat} {v : Int32} {w : Int64} {L : List (Option Value)} {S : List Value} {σ : MH} {c1 : MC} {Pr : Option Prop} (hPL : PLOK M.2.2.2.2 P) (hE : okE M P (pc, .iadd, aux, v, w)) (h : stp M pc .iadd aux v w L S σ = some (c1, Pr)) (hO : oP Pr) : Go M d (some pc, L, S, σ) c1 := by
  unfold stp at h
  dsimp only at h
  split at h
  · rename_i y x S
    cases h
    intro p l e R s m args below meth c w0 A Q C k H locs ls hP hS hl
    exact lv_iadd C.1 C.2.1 hE.1 (k H locs ls hP hS hl)
  · cases h
theorem gs_isub {M : Mth} {d : Nat} {P : PL} {pc aux : Nat} {v : Int32} {w : Int64} {L : List (Option Value)} {S : List Value} {σ : MH} {c1 : MC} {Pr : Option Prop} (hPL : PLOK M.2.2.2.2 P) (hE : okE M P (pc, .isub, aux, v, w)) (h : stp M pc .isub aux v w L S σ = some (c1, Pr)) (hO : oP Pr) : Go M d (some pc, L, S, σ) c1 := by
  unfold stp at h
  dsimp only at h
  split at h
  · rename_i y x S
    cases h
    intro p l e R s m args below meth c w0 A Q C k H locs ls hP hS hl
    exact lv_isub C.1 C.2.1 hE.1 (k H locs ls hP hS hl)
  · cases h
theorem gs_imul {M : Mth} {d : Nat} {P : PL} {pc aux : Nat} {v : Int32} {w : Int64} {L : List (Option Value)} {S : List Value} {σ : MH} {c1 : MC} {Pr : Option Prop} (hPL : PLOK M.2.2.2.2 P) (hE : okE M P (pc, .imul, aux, v, w)) (h : stp M pc .imul aux v w L S σ = some (c1, Pr)) (hO : oP Pr) : Go M d (some pc, L, S, σ) c1 := by
  unfold stp at h
  dsimp only at h
  split at h
  · rename_i y x S
    cases h
    intro p l e R s m args below meth c w0 A Q C k H locs ls hP hS hl
    exact lv_imul C.1 C.2.1 hE.1 (k H locs ls hP hS hl)
  · cases h
theorem gs_iand {M : Mth} {d : Nat} {P : PL} {pc aux : Nat} {v : Int32} {w : Int64} {L : List (Option Value)} {S : List Value} {σ : MH} {c1 : MC} {Pr : Option Prop} (hPL : PLOK M.2.2.2.2 P) (hE : okE M P (pc, .iand, aux, v, w)) (h : stp M pc .iand aux v w L S σ = some (c1, Pr)) (hO : oP Pr) : Go M d (some pc, L, S, σ) c1 := by
  unfold stp at h
  dsimp only at h
  split at h
  · rename_i y x S
    cases h
    intro p l e R s m args below meth c w0 A Q C k H locs ls hP hS hl
    exact lv_iand C.1 C.2.1 hE.1 (k H locs ls hP hS hl)
  · cases h
theorem gs_ior {M : Mth} {d : Nat} {P : PL} {pc aux : Nat} {v : Int32} {w : Int64} {L : List (Option Value)} {S : List Value} {σ : MH} {c1 : MC} {Pr : Option Prop} (hPL : PLOK M.2.2.2.2 P) (hE : okE M P (pc, .ior, aux, v, w)) (h : stp M pc .ior aux v w L S σ = some (c1, Pr)) (hO : oP Pr) : Go M d (some pc, L, S, σ) c1 := by
  unfold stp at h
  dsimp only at h
  split at h
  · rename_i y x S
    cases h
    intro p l e R s m args below meth c w0 A Q C k H locs ls hP hS hl
    exact lv_ior C.1 C.2.1 hE.1 (k H locs ls hP hS hl)
  · cases h
theorem gs_ixor {M : Mth} {d : Nat} {P : PL} {pc aux : Nat} {v : Int32} {w : Int64} {L : List (Option Value)} {S : List Value} {σ : MH} {c1 : MC} {Pr : Option Prop} (hPL : PLOK M.2.2.2.2 P) (hE : okE M P (pc, .ixor, aux, v, w)) (h : stp M pc .ixor aux v w L S σ = some (c1, Pr)) (hO : oP Pr) : Go M d (some pc, L, S, σ) c1 := by
  unfold stp at h
  dsimp only at h
  split at h
  · rename_i y x S
    cases h
    intro p l e R s m args below meth c w0 A Q C k H locs ls hP hS hl
    exact lv_ixor C.1 C.2.1 hE.1 (k H locs ls hP hS hl)
  · cases h
theorem gs_ishl {M : Mth} {d : Nat} {P : PL} {pc aux : Nat} {v : Int32} {w : Int64} {L : List (Option Value)} {S : List Value} {σ : MH} {c1 : MC} {Pr : Option Prop} (hPL : PLOK M.2.2.2.2 P) (hE : okE M P (pc, .ishl, aux, v, w)) (h : stp M pc .ishl aux v w L S σ = some (c1, Pr)) (hO : oP Pr) : Go M d (some pc, L, S, σ) c1 := by
  unfold stp at h
  dsimp only at h
  split at h
  · rename_i y x S
    cases h
    intro p l e R s m args below meth c w0 A Q C k H locs ls hP hS hl
    exact lv_ishl C.1 C.2.1 hE.1 (k H locs ls hP hS hl)
  · cases h
theorem gs_ishr {M : Mth} {d : Nat} {P : PL} {pc aux : Nat} {v : Int32} {w : Int64} {L : List (Option Value)} {S : List Value} {σ : MH} {c1 : MC} {Pr : Option Prop} (hPL : PLOK M.2.2.2.2 P) (hE : okE M P (pc, .ishr, aux, v, w)) (h : stp M pc .ishr aux v w L S σ = some (c1, Pr)) (hO : oP Pr) : Go M d (some pc, L, S, σ) c1 := by
  unfold stp at h
  dsimp only at h
  split at h
  · rename_i y x S
    cases h
    intro p l e R s m args below meth c w0 A Q C k H locs ls hP hS hl
    exact lv_ishr C.1 C.2.1 hE.1 (k H locs ls hP hS hl)
  · cases h
theorem gs_iushr {M : Mth} {d : Nat} {P : PL} {pc aux : Nat} {v : Int32} {w : Int64} {L : List (Option Value)} {S : List Value} {σ : MH} {c1 : MC} {Pr : Option Prop} (hPL : PLOK M.2.2.2.2 P) (hE : okE M P (pc, .iushr, aux, v, w)) (h : stp M pc .iushr aux v w L S σ = some (c1, Pr)) (hO : oP Pr) : Go M d (some pc, L, S, σ) c1 := by
  unfold stp at h
  dsimp only at h
  split at h
  · rename_i y x S
    cases h
    intro p l e R s m args below meth c w0 A Q C k H locs ls hP hS hl
    exact lv_iushr C.1 C.2.1 hE.1 rfl (k H locs ls hP hS hl)
  · cases h
theorem gs_idiv {M : Mth} {d : Nat} {P : PL} {pc aux : Nat} {v : Int32} {w : Int64} {L : List (Option Value)} {S : List Value} {σ : MH} {c1 : MC} {Pr : Option Prop} (hPL : PLOK M.2.2.2.2 P) (hE : okE M P (pc, .idiv, aux, v, w)) (h : stp M pc .idiv aux v w L S σ = some (c1, Pr)) (hO : oP Pr) : Go M d (some pc, L, S, σ) c1 := by
  unfold stp at h
  dsimp only at h
  split at h
  · rename_i y x S
    cases h
    dsimp only [oP] at hO
    intro p l e R s m args below meth c w0 A Q C k H locs ls hP hS hl
    exact lv_idiv C.1 C.2.1 hE.1 hO (k H locs ls hP hS hl)
  · cases h
theorem gs_irem {M : Mth} {d : Nat} {P : PL} {pc aux : Nat} {v : Int32} {w : Int64} {L : List (Option Value)} {S : List Value} {σ : MH} {c1 : MC} {Pr : Option Prop} (hPL : PLOK M.2.2.2.2 P) (hE : okE M P (pc, .irem, aux, v, w)) (h : stp M pc .irem aux v w L S σ = some (c1, Pr)) (hO : oP Pr) : Go M d (some pc, L, S, σ) c1 := by
  unfold stp at h
  dsimp only at h
  split at h
  · rename_i y x S
    cases h
    dsimp only [oP] at hO
    intro p l e R s m args below meth c w0 A Q C k H locs ls hP hS hl
    exact lv_irem C.1 C.2.1 hE.1 hO (k H locs ls hP hS hl)
  · cases h
theorem gs_ladd {M : Mth} {d : Nat} {P : PL} {pc aux : Nat} {v : Int32} {w : Int64} {L : List (Option Value)} {S : List Value} {σ : MH} {c1 : MC} {Pr : Option Prop} (hPL : PLOK M.2.2.2.2 P) (hE : okE M P (pc, .ladd, aux, v, w)) (h : stp M pc .ladd aux v w L S σ = some (c1, Pr)) (hO : oP Pr) : Go M d (some pc, L, S, σ) c1 := by
  unfold stp at h
  dsimp only at h
  split at h
  · rename_i y x S
    cases h
    intro p l e R s m args below meth c w0 A Q C k H locs ls hP hS hl
    exact lv_ladd C.1 C.2.1 hE.1 (k H locs ls hP hS hl)
  · cases h
theorem gs_lsub {M : Mth} {d : Nat} {P : PL} {pc aux : Nat} {v : Int32} {w : Int64} {L : List (Option Value)} {S : List Value} {σ : MH} {c1 : MC} {Pr : Option Prop} (hPL : PLOK M.2.2.2.2 P) (hE : okE M P (pc, .lsub, aux, v, w)) (h : stp M pc .lsub aux v w L S σ = some (c1, Pr)) (hO : oP Pr) : Go M d (some pc, L, S, σ) c1 := by
  unfold stp at h
  dsimp only at h
  split at h
  · rename_i y x S
    cases h
    intro p l e R s m args below meth c w0 A Q C k H locs ls hP hS hl
    exact lv_lsub C.1 C.2.1 hE.1 (k H locs ls hP hS hl)
  · cases h
theorem gs_lmul {M : Mth} {d : Nat} {P : PL} {pc aux : Nat} {v : Int32} {w : Int64} {L : List (Option Value)} {S : List Value} {σ : MH} {c1 : MC} {Pr : Option Prop} (hPL : PLOK M.2.2.2.2 P) (hE : okE M P (pc, .lmul, aux, v, w)) (h : stp M pc .lmul aux v w L S σ = some (c1, Pr)) (hO : oP Pr) : Go M d (some pc, L, S, σ) c1 := by
  unfold stp at h
  dsimp only at h
  split at h
  · rename_i y x S
    cases h
    intro p l e R s m args below meth c w0 A Q C k H locs ls hP hS hl
    exact lv_lmul C.1 C.2.1 hE.1 (k H locs ls hP hS hl)
  · cases h
theorem gs_ldiv {M : Mth} {d : Nat} {P : PL} {pc aux : Nat} {v : Int32} {w : Int64} {L : List (Option Value)} {S : List Value} {σ : MH} {c1 : MC} {Pr : Option Prop} (hPL : PLOK M.2.2.2.2 P) (hE : okE M P (pc, .ldiv, aux, v, w)) (h : stp M pc .ldiv aux v w L S σ = some (c1, Pr)) (hO : oP Pr) : Go M d (some pc, L, S, σ) c1 := by
  unfold stp at h
  dsimp only at h
  split at h
  · rename_i y x S
    cases h
    dsimp only [oP] at hO
    intro p l e R s m args below meth c w0 A Q C k H locs ls hP hS hl
    exact lv_ldiv C.1 C.2.1 hE.1 hO (k H locs ls hP hS hl)
  · cases h
theorem gs_lrem {M : Mth} {d : Nat} {P : PL} {pc aux : Nat} {v : Int32} {w : Int64} {L : List (Option Value)} {S : List Value} {σ : MH} {c1 : MC} {Pr : Option Prop} (hPL : PLOK M.2.2.2.2 P) (hE : okE M P (pc, .lrem, aux, v, w)) (h : stp M pc .lrem aux v w L S σ = some (c1, Pr)) (hO : oP Pr) : Go M d (some pc, L, S, σ) c1 := by
  unfold stp at h
  dsimp only at h
  split at h
  · rename_i y x S
    cases h
    dsimp only [oP] at hO
    intro p l e R s m args below meth c w0 A Q C k H locs ls hP hS hl
    exact lv_lrem C.1 C.2.1 hE.1 hO (k H locs ls hP hS hl)
  · cases h
theorem gs_lcmp {M : Mth} {d : Nat} {P : PL} {pc aux : Nat} {v : Int32} {w : Int64} {L : List (Option Value)} {S : List Value} {σ : MH} {c1 : MC} {Pr : Option Prop} (hPL : PLOK M.2.2.2.2 P) (hE : okE M P (pc, .lcmp, aux, v, w)) (h : stp M pc .lcmp aux v w L S σ = some (c1, Pr)) (hO : oP Pr) : Go M d (some pc, L, S, σ) c1 := by
  unfold stp at h
  dsimp only at h
  split at h
  · rename_i y x S
    cases h
    intro p l e R s m args below meth c w0 A Q C k H locs ls hP hS hl
    exact W.lcmp C.1 C.2.1 hE.1 (k H locs ls hP hS hl)
  · cases h
theorem gs_ineg {M : Mth} {d : Nat} {P : PL} {pc aux : Nat} {v : Int32} {w : Int64} {L : List (Option Value)} {S : List Value} {σ : MH} {c1 : MC} {Pr : Option Prop} (hPL : PLOK M.2.2.2.2 P) (hE : okE M P (pc, .ineg, aux, v, w)) (h : stp M pc .ineg aux v w L S σ = some (c1, Pr)) (hO : oP Pr) : Go M d (some pc, L, S, σ) c1 := by
  unfold stp at h
  dsimp only at h
  split at h
  · rename_i x S
    cases h
    intro p l e R s m args below meth c w0 A Q C k H locs ls hP hS hl
    exact lv_ineg C.1 C.2.1 hE.1 (k H locs ls hP hS hl)
  · cases h
theorem gs_i2l {M : Mth} {d : Nat} {P : PL} {pc aux : Nat} {v : Int32} {w : Int64} {L : List (Option Value)} {S : List Value} {σ : MH} {c1 : MC} {Pr : Option Prop} (hPL : PLOK M.2.2.2.2 P) (hE : okE M P (pc, .i2l, aux, v, w)) (h : stp M pc .i2l aux v w L S σ = some (c1, Pr)) (hO : oP Pr) : Go M d (some pc, L, S, σ) c1 := by
  unfold stp at h
  dsimp only at h
  split at h
  · rename_i x S
    cases h
    intro p l e R s m args below meth c w0 A Q C k H locs ls hP hS hl
    exact lv_i2l C.1 C.2.1 hE.1 rfl (k H locs ls hP hS hl)
  · cases h
theorem gs_l2i {M : Mth} {d : Nat} {P : PL} {pc aux : Nat} {v : Int32} {w : Int64} {L : List (Option Value)} {S : List Value} {σ : MH} {c1 : MC} {Pr : Option Prop} (hPL : PLOK M.2.2.2.2 P) (hE : okE M P (pc, .l2i, aux, v, w)) (h : stp M pc .l2i aux v w L S σ = some (c1, Pr)) (hO : oP Pr) : Go M d (some pc, L, S, σ) c1 := by
  unfold stp at h
  dsimp only at h
  split at h
  · rename_i x S
    cases h
    intro p l e R s m args below meth c w0 A Q C k H locs ls hP hS hl
    exact lv_l2i C.1 C.2.1 hE.1 rfl (k H locs ls hP hS hl)
  · cases h
theorem gs_i2b {M : Mth} {d : Nat} {P : PL} {pc aux : Nat} {v : Int32} {w : Int64} {L : List (Option Value)} {S : List Value} {σ : MH} {c1 : MC} {Pr : Option Prop} (hPL : PLOK M.2.2.2.2 P) (hE : okE M P (pc, .i2b, aux, v, w)) (h : stp M pc .i2b aux v w L S σ = some (c1, Pr)) (hO : oP Pr) : Go M d (some pc, L, S, σ) c1 := by
  unfold stp at h
  dsimp only at h
  split at h
  · rename_i x S
    cases h
    intro p l e R s m args below meth c w0 A Q C k H locs ls hP hS hl
    exact lv_i2b C.1 C.2.1 hE.1 rfl (k H locs ls hP hS hl)
  · cases h
theorem gs_i2c {M : Mth} {d : Nat} {P : PL} {pc aux : Nat} {v : Int32} {w : Int64} {L : List (Option Value)} {S : List Value} {σ : MH} {c1 : MC} {Pr : Option Prop} (hPL : PLOK M.2.2.2.2 P) (hE : okE M P (pc, .i2c, aux, v, w)) (h : stp M pc .i2c aux v w L S σ = some (c1, Pr)) (hO : oP Pr) : Go M d (some pc, L, S, σ) c1 := by
  unfold stp at h
  dsimp only at h
  split at h
  · rename_i x S
    cases h
    intro p l e R s m args below meth c w0 A Q C k H locs ls hP hS hl
    exact lv_i2c C.1 C.2.1 hE.1 rfl (k H locs ls hP hS hl)
  · cases h
theorem gs_dup {M : Mth} {d : Nat} {P : PL} {pc aux : Nat} {v : Int32} {w : Int64} {L : List (Option Value)} {S : List Value} {σ : MH} {c1 : MC} {Pr : Option Prop} (hPL : PLOK M.2.2.2.2 P) (hE : okE M P (pc, .dup, aux, v, w)) (h : stp M pc .dup aux v w L S σ = some (c1, Pr)) (hO : oP Pr) : Go M d (some pc, L, S, σ) c1 := by
  unfold stp at h
  dsimp only at h
  split at h
  · rename_i a S
    split at h
    case isFalse => cases h
    rename_i hI
    cases h
    intro p l e R s m args below meth c w0 A Q C k H locs ls hP hS hl
    exact lv_dup C.1 C.2.1 hE.1 ((mv_cat w0 a).trans (Nat.eq_of_beq_eq_true hI)) (k H locs ls hP hS hl)
  · cases h
theorem gs_pop {M : Mth} {d : Nat} {P : PL} {pc aux : Nat} {v : Int32} {w : Int64} {L : List (Option Value)} {S : List Value} {σ : MH} {c1 : MC} {Pr : Option Prop} (hPL : PLOK M.2.2.2.2 P) (hE : okE M P (pc, .pop, aux, v, w)) (h : stp M pc .pop aux v w L S σ = some (c1, Pr)) (hO : oP Pr) : Go M d (some pc, L, S, σ) c1 := by
  unfold stp at h
  dsimp only at h
  split at h
  · rename_i a S
    split at h
    case isFalse => cases h
    rename_i hI
    cases h
    intro p l e R s m args below meth c w0 A Q C k H locs ls hP hS hl
    exact lv_pop C.1 C.2.1 hE.1 ((mv_cat w0 a).trans (Nat.eq_of_beq_eq_true hI)) (k H locs ls hP hS hl)
  · cases h
theorem gs_dup2 {M : Mth} {d : Nat} {P : PL} {pc aux : Nat} {v : Int32} {w : Int64} {L : List (Option Value)} {S : List Value} {σ : MH} {c1 : MC} {Pr : Option Prop} (hPL : PLOK M.2.2.2.2 P) (hE : okE M P (pc, .dup2, aux, v, w)) (h : stp M pc .dup2 aux v w L S σ = some (c1, Pr)) (hO : oP Pr) : Go M d (some pc, L, S, σ) c1 := by
  unfold stp at h
  dsimp only at h
  split at h
  · rename_i a b S
    split at h
    case isFalse => cases h
    rename_i hI
    cases h
    intro p l e R s m args below meth c w0 A Q C k H locs ls hP hS hl
    exact lv_dup2_11 C.1 C.2.1 hE.1 ((mv_cat w0 a).trans (Nat.eq_of_beq_eq_true (Bool.and_eq_true_iff.mp hI).1)) ((mv_cat w0 b).trans (Nat.eq_of_beq_eq_true (Bool.and_eq_true_iff.mp hI).2)) (k H locs ls hP hS hl)
  · cases h
theorem gs_goto {M : Mth} {d : Nat} {P : PL} {pc aux : Nat} {v : Int32} {w : Int64} {L : List (Option Value)} {S : List Value} {σ : MH} {c1 : MC} {Pr : Option Prop} (hPL : PLOK M.2.2.2.2 P) {off : Int} (hE : okE M P (pc, .goto off, aux, v, w)) (h : stp M pc (.goto off) aux v w L S σ = some (c1, Pr)) (hO : oP Pr) : Go M d (some pc, L, S, σ) c1 := by
  cases h
  intro p l e R s m args below meth c w0 A Q C k H locs ls hP hS hl
  exact lv_goto C.1 C.2.1 hE.1 (of_decide_eq_true hE.2) (k H locs ls hP hS hl)
theorem gs_iaload {M : Mth} {d : Nat} {P : PL} {pc aux : Nat} {v : Int32} {w : Int64} {L : List (Option Value)} {S : List Value} {σ : MH} {c1 : MC} {Pr : Option Prop} (hPL : PLOK M.2.2.2.2 P) (hE : okE M P (pc, .iaload, aux, v, w)) (h : stp M pc .iaload aux v w L S σ = some (c1, Pr)) (hO : oP Pr) : Go M d (some pc, L, S, σ) c1 := by
  unfold stp at h
  dsimp only at h
  split at h
  · rename_i i a S
    cases h
    dsimp only [oP] at hO
    intro p l e R s m args below meth c w0 A Q C k H locs ls hP hS hl
    exact va_iald C.1 C.2.1 C.2.2.2.2.2.1.1 hP a 0 ((wsO_get (shk_lt hO.1.1 (by omega))).trans (by rw [ent_i hO.1.1])) rfl (by rw [hO.1.2]; exact inb_in hO.2) hE.1 (k H locs ls hP hS hl)
  · cases h
theorem gs_baload {M : Mth} {d : Nat} {P : PL} {pc aux : Nat} {v : Int32} {w : Int64} {L : List (Option Value)} {S : List Value} {σ : MH} {c1 : MC} {Pr : Option Prop} (hPL : PLOK M.2.2.2.2 P) (hE : okE M P (pc, .baload, aux, v, w)) (h : stp M pc .baload aux v w L S σ = some (c1, Pr)) (hO : oP Pr) : Go M d (some pc, L, S, σ) c1 := by
  unfold stp at h
  dsimp only at h
  split at h
  · rename_i i a S
    cases h
    dsimp only [oP] at hO
    intro p l e R s m args below meth c w0 A Q C k H locs ls hP hS hl
    exact va_bald C.1 C.2.1 C.2.2.2.2.2.1.1 hP a 2 ((wsO_get (shk_lt hO.1.1 (by omega))).trans (by rw [ent_b hO.1.1])) rfl (by rw [hO.1.2]; exact inb_in hO.2) hE.1 (k H locs ls hP hS hl)
  · cases h
theorem gs_laload {M : Mth} {d : Nat} {P : PL} {pc aux : Nat} {v : Int32} {w : Int64} {L : List (Option Value)} {S : List Value} {σ : MH} {c1 : MC} {Pr : Option Prop} (hPL : PLOK M.2.2.2.2 P) (hE : okE M P (pc, .laload, aux, v, w)) (h : stp M pc .laload aux v w L S σ = some (c1, Pr)) (hO : oP Pr) : Go M d (some pc, L, S, σ) c1 := by
  unfold stp at h
  dsimp only at h
  split at h
  · rename_i i a S
    cases h
    dsimp only [oP] at hO
    intro p l e R s m args below meth c w0 A Q C k H locs ls hP hS hl
    exact va_lald C.1 C.2.1 C.2.2.2.2.2.1.1 hP a 1 ((wsO_get (shk_lt hO.1.1 (by omega))).trans (by rw [ent_j hO.1.1])) rfl (by rw [hO.1.2]; exact inb_in hO.2) hE.1 (k H locs ls hP hS hl)
  · cases h
theorem gs_aaload {M : Mth} {d : Nat} {P : PL} {pc aux : Nat} {v : Int32} {w : Int64} {L : List (Option Value)} {S : List Value} {σ : MH} {c1 : MC} {Pr : Option Prop} (hPL : PLOK M.2.2.2.2 P) (hE : okE M P (pc, .aaload, aux, v, w)) (h : stp M pc .aaload aux v w L S σ = some (c1, Pr)) (hO : oP Pr) : Go M d (some pc, L, S, σ) c1 := by
  unfold stp at h
  dsimp only at h
  split at h
  · rename_i i a S
    cases h
    dsimp only [oP] at hO
    intro p l e R s m args below meth c w0 A Q C k H locs ls hP hS hl
    have hlt : i.toNatClampNeg < aux := Nat.not_le.mp fun q => inb_in hO.2 (Or.inr q)
    have hsh := hO.1.2
    have ha : (wsO w0 σ)[a]? = some (w0.2.2.1 a, .inl (w0.2.1.2.2.2, aux, .inr (.inr (.inr (.inr (fun i => some (w0.2.2.1 (rfv a i)))))))) := (wsO_get (shk_lt hO.1.1 (by omega))).trans (by rw [ent_r hO.1.1, hsh])
    exact W.aald (v := .ref (w0.2.2.1 (rfv a i.toNatClampNeg))) (ty := .array .int) C.1 C.2.1 (hP a _ ha) ((C.2.2.2.2.2.1.1.2 3 _ rfl).1 aux (fun j => .ref (w0.2.2.1 (rfv a j)))) rfl (fun q => by cases q) (by show ¬ (i < 0 ∨ (arrV _ _ _).slots.size ≤ _); rw [arrV_size]; exact inb_in hO.2) (by show (arrV _ _ _).slots[_]? = _; rw [arrV_read _ _ hlt]; rfl) rfl rfl hE.1 (k H locs ls hP hS hl)
  · cases h
theorem gs_iastore {M : Mth} {d : Nat} {P : PL} {pc aux : Nat} {v : Int32} {w : Int64} {L : List (Option Value)} {S : List Value} {σ : MH} {c1 : MC} {Pr : Option Prop} (hPL : PLOK M.2.2.2.2 P) (hE : okE M P (pc, .iastore, aux, v, w)) (h : stp M pc .iastore aux v w L S σ = some (c1, Pr)) (hO : oP Pr) : Go M d (some pc, L, S, σ) c1 := by
  unfold stp at h
  dsimp only at h
  split at h
  · rename_i x i a S
    cases h
    dsimp only [oP] at hO
    intro p l e R s m args below meth c w0 A Q C k H locs ls hP hS hl
    exact va_iast C.1 C.2.1 C.2.2.2.2.2.1.1 hP (va_D_ws C.2.2.2.2.2.2.2.1 C.2.2.2.2.2.2.2.2.1) hS a 0 ((wsO_get (shk_lt hO.1.1 (by omega))).trans (by rw [ent_i hO.1.1])) rfl (by rw [hO.1.2]; exact inb_in hO.2) hE.1 (fun H1 locs1 hP1 _ hS1 => k H1 locs1 ls (by rw [← wsO_sI hO.1.1]; exact hP1) hS1 hl)
  · cases h
theorem gs_bastore {M : Mth} {d : Nat} {P : PL} {pc aux : Nat} {v : Int32} {w : Int64} {L : List (Option Value)} {S : List Value} {σ : MH} {c1 : MC} {Pr : Option Prop} (hPL : PLOK M.2.2.2.2 P) (hE : okE M P (pc, .bastore, aux, v, w)) (h : stp M pc .bastore aux v w L S σ = some (c1, Pr)) (hO : oP Pr) : Go M d (some pc, L, S, σ) c1 := by
  unfold stp at h
  dsimp only at h
  split at h
  · rename_i x i a S
    cases h
    dsimp only [oP] at hO
    intro p l e R s m args below meth c w0 A Q C k H locs ls hP hS hl
    exact va_bast C.1 C.2.1 C.2.2.2.2.2.1.1 hP (va_D_ws C.2.2.2.2.2.2.2.1 C.2.2.2.2.2.2.2.2.1) hS a 2 ((wsO_get (shk_lt hO.1.1 (by omega))).trans (by rw [ent_b hO.1.1])) rfl (by rw [hO.1.2]; exact inb_in hO.2) hE.1 (fun H1 locs1 hP1 _ hS1 => k H1 locs1 ls (by rw [← wsO_sB hO.1.1]; exact hP1) hS1 hl)
  · cases h
theorem gs_lastore {M : Mth} {d : Nat} {P : PL} {pc aux : Nat} {v : Int32} {w : Int64} {L : List (Option Value)} {S : List Value} {σ : MH} {c1 : MC} {Pr : Option Prop} (hPL : PLOK M.2.2.2.2 P) (hE : okE M P (pc, .lastore, aux, v, w)) (h : stp M pc .lastore aux v w L S σ = some (c1, Pr)) (hO : oP Pr) : Go M d (some pc, L, S, σ) c1 := by
  unfold stp at h
  dsimp only at h
  split at h
  · rename_i x i a S
    cases h
    dsimp only [oP] at hO
    intro p l e R s m args below meth c w0 A Q C k H locs ls hP hS hl
    exact va_last C.1 C.2.1 C.2.2.2.2.2.1.1 hP (va_D_ws C.2.2.2.2.2.2.2.1 C.2.2.2.2.2.2.2.2.1) hS a 1 ((wsO_get (shk_lt hO.1.1 (by omega))).trans (by rw [ent_j hO.1.1])) rfl (by rw [hO.1.2]; exact inb_in hO.2) hE.1 (fun H1 locs1 hP1 _ hS1 => k H1 locs1 ls (by rw [← wsO_sJ hO.1.1]; exact hP1) hS1 hl)
  · cases h
theorem gs_alen {M : Mth} {d : Nat} {P : PL} {pc aux : Nat} {v : Int32} {w : Int64} {L : List (Option Value)} {S : List Value} {σ : MH} {c1 : MC} {Pr : Option Prop} (hPL : PLOK M.2.2.2.2 P) (hE : okE M P (pc, .arraylength, aux, v, w)) (h : stp M pc .arraylength aux v w L S σ = some (c1, Pr)) (hO : oP Pr) : Go M d (some pc, L, S, σ) c1 := by
  unfold stp at h
  dsimp only at h
  split at h
  · rename_i a S
    cases h
    dsimp only [oP] at hO
    intro p l e R s m args below meth c w0 A Q C k H locs ls hP hS hl
    exact va_alen C.1 C.2.1 C.2.2.2.2.2.1.1 hP a 0 ((wsO_get (shk_lt hO.1 (by omega))).trans (by rw [ent_i hO.1])) rfl (by rw [hO.2]; exact of_decide_eq_true hE.2) hE.1 (k H locs ls hP hS hl)
  · cases h
theorem gs_getfield {M : Mth} {d : Nat} {P : PL} {pc aux : Nat} {v : Int32} {w : Int64} {L : List (Option Value)} {S : List Value} {σ : MH} {c1 : MC} {Pr : Option Prop} (hPL : PLOK M.2.2.2.2 P) {n : Nat} (hE : okE M P (pc, .getfield n, aux, v, w)) (h : stp M pc (.getfield n) aux v w L S σ = some (c1, Pr)) (hO : oP Pr) : Go M d (some pc, L, S, σ) c1 := by
  unfold stp at h
  dsimp only at h
  split at h
  · rename_i a S
    cases h
    dsimp only [oP] at hO
    intro p l e R s m args below meth c w0 A Q C k H locs ls hP hS hl
    obtain ⟨Cn, T, N, ref, h1, h2, h3, h4, h5, h6, h7, h8, h9, h10, h11⟩ := PL_f hPL hE.2
    have hlt : aux / 64 < 20 := h2
    have hsh := h4 a hO
    have ha : (wsO w0 σ)[a]? = some (w0.2.2.1 a, .inr (aux / 64, entF w0 σ a)) := (wsO_get (shk_lt hO (by omega))).trans (by rw [ent_o hO h2])
    refine va_get (D := w0.1) (ci := aux / 64) (C := Cn) (T := T) (N := N) C.1 C.2.1 C.2.2.2.2.1 h5 C.2.2.2.1 C.2.2.2.2.2.1.1 hP a ha h1 (aux % 64) h3 (C.2.2.2.2.1 _ h6) ?_ (v := mv w0 (if fkr (aux / 64) (aux % 64) = true then .ref (rfv a (aux % 64)) else .int (σ.1 a (aux % 64)))) ?_ hE.1 (k H locs ls hP hS hl)
    · rcases h7 with h7 | h7
      · intro x hx; rw [h7]; exact hx
      · intro x hx; exact u_same (C.2.2.2.2.1 _ h7) x hx
    · rw [entF_get (by rw [hsh]; exact h3), hO]
      split <;> rfl
  · cases h
theorem gs_putfield {M : Mth} {d : Nat} {P : PL} {pc aux : Nat} {v : Int32} {w : Int64} {L : List (Option Value)} {S : List Value} {σ : MH} {c1 : MC} {Pr : Option Prop} (hPL : PLOK M.2.2.2.2 P) {n : Nat} (hE : okE M P (pc, .putfield n, aux, v, w)) (h : stp M pc (.putfield n) aux v w L S σ = some (c1, Pr)) (hO : oP Pr) : Go M d (some pc, L, S, σ) c1 := by
  unfold stp at h
  dsimp only at h
  split at h
  · rename_i x a S
    split at h
    case isFalse => cases h
    rename_i hI
    cases h
    dsimp only [oP] at hO
    intro p l e R s m args below meth c w0 A Q C k H locs ls hP hS hl
    obtain ⟨Cn, T, N, ref, h1, h2, h3, h4, h5, h6, h7, h8, h9, ⟨ty, h10⟩, h11⟩ := PL_f hPL hE.2
    obtain ⟨hI1, hI2⟩ := Bool.and_eq_true_iff.mp hI
    have hO1 : fkr (aux / 64) (aux % 64) = false := by simpa using hI1
    have hO2 : fnl (aux / 64) (aux % 64) = false := by simpa using hI2
    have hO3 : fzr (aux / 64) (aux % 64) = true → bz x = true := fun q => by rw [if_pos q] at hO; exact hO.2
    have hO : shk a = aux / 64 := by
      split at hO
      · exact hO.1
      · exact hO
    have hlt : aux / 64 < 20 := h2
    have hsh := h4 a hO
    have ha : (wsO w0 σ)[a]? = some (w0.2.2.1 a, .inr (aux / 64, entF w0 σ a)) := (wsO_get (shk_lt hO (by omega))).trans (by rw [ent_o hO h2])
    have hnf : narrow (if fzr (aux / 64) (aux % 64) = true then .boolean else .int) (.int x) = .int x ∧ fits (if fzr (aux / 64) (aux % 64) = true then .boolean else .int) (.int x) = true := by
      by_cases hz : fzr (aux / 64) (aux % 64) = true
      · rw [if_pos hz]
        have hx := hO3 hz
        unfold bz at hx
        simp only [Bool.or_eq_true, beq_iff_eq] at hx
        rcases hx with rfl | rfl <;> exact ⟨by decide, by decide⟩
      · rw [if_neg hz]
        exact ⟨rfl, rfl⟩
    refine va_put (D := w0.1) (ci := aux / 64) (C := Cn) (T := T) (N := N) C.1 C.2.1 C.2.2.2.2.1 h5 ty h10 h11 C.2.2.2.1 C.2.2.2.2.2.1.1 hP (va_D_ws C.2.2.2.2.2.2.2.1 C.2.2.2.2.2.2.2.2.1) hS a ha h1 (aux % 64) h3 (C.2.2.2.2.1 _ h6) ?_ (h8.symm.trans hO2) (h9 hO1) hnf.1 hnf.2 (by simp [entF]; rw [hsh]; exact h3) hE.1 (fun H1 locs1 hP1 _ hS1 => k H1 locs1 ls (by rw [← wsO_sF hO h2 (by rw [hsh]; exact h3) hO1]; exact hP1) hS1 hl)
    rcases h7 with h7 | h7
    · intro x hx; rw [h7]; exact hx
    · intro x hx; exact u_same (C.2.2.2.2.1 _ h7) x hx
  · cases h
theorem gs_istore {M : Mth} {d : Nat} {P : PL} {pc aux : Nat} {v : Int32} {w : Int64} {L : List (Option Value)} {S : List Value} {σ : MH} {c1 : MC} {Pr : Option Prop} (hPL : PLOK M.2.2.2.2 P) {n : Nat} (hE : okE M P (pc, .istore n, aux, v, w)) (h : stp M pc (.istore n) aux v w L S σ = some (c1, Pr)) (hO : oP Pr) : Go M d (some pc, L, S, σ) c1 := by
  unfold stp at h
  dsimp only at h
  split at h
  · rename_i x S
    split at h
    case isFalse => cases h
    rename_i hI
    cases h
    intro p l e R s m args below meth c w0 A Q C k H locs ls hP hS hl
    obtain ⟨ls', e', h'⟩ := lvm_st1 (v := .int x) hl (blt_lt (Bool.and_eq_true_iff.mp hI).1) rfl (Bool.and_eq_true_iff.mp hI).2
    have hE1 := hE.1
    have hx := C.1
    have hb := C.2.1
    intro T hT X
    obtain ⟨t, a1, b1⟩ := k H locs ls' hP hS h' T hT X
    refine ⟨t, ?_, b1⟩
    dsimp only at hE1
    simp only [mv, List.map_cons] at e' ⊢
    jvm_step X.here [X.here.top, ↓top_set X.here.top, hx, hb, hE1, e', Value.isRef, ilen]
    exact a1
  · cases h
theorem gs_istoren {M : Mth} {d : Nat} {P : PL} {pc aux : Nat} {v : Int32} {w : Int64} {L : List (Option Value)} {S : List Value} {σ : MH} {c1 : MC} {Pr : Option Prop} (hPL : PLOK M.2.2.2.2 P) {n : Fin 4} (hE : okE M P (pc, .istore_n n, aux, v, w)) (h : stp M pc (.istore_n n) aux v w L S σ = some (c1, Pr)) (hO : oP Pr) : Go M d (some pc, L, S, σ) c1 := by
  unfold stp at h
  dsimp only at h
  split at h
  · rename_i x S
    split at h
    case isFalse => cases h
    rename_i hI
    cases h
    intro p l e R s m args below meth c w0 A Q C k H locs ls hP hS hl
    obtain ⟨ls', e', h'⟩ := lvm_st1 (v := .int x) hl (blt_lt (Bool.and_eq_true_iff.mp hI).1) rfl (Bool.and_eq_true_iff.mp hI).2
    have hE1 := hE.1
    have hx := C.1
    have hb := C.2.1
    intro T hT X
    obtain ⟨t, a1, b1⟩ := k H locs ls' hP hS h' T hT X
    refine ⟨t, ?_, b1⟩
    dsimp only at hE1
    simp only [mv, List.map_cons] at e' ⊢
    jvm_step X.here [X.here.top, ↓top_set X.here.top, hx, hb, hE1, e', Value.isRef, ilen]
    exact a1
  · cases h
theorem gs_astore {M : Mth} {d : Nat} {P : PL} {pc aux : Nat} {v : Int32} {w : Int64} {L : List (Option Value)} {S : List Value} {σ : MH} {c1 : MC} {Pr : Option Prop} (hPL : PLOK M.2.2.2.2 P) {n : Nat} (hE : okE M P (pc, .astore n, aux, v, w)) (h : stp M pc (.astore n) aux v w L S σ = some (c1, Pr)) (hO : oP Pr) : Go M d (some pc, L, S, σ) c1 := by
  unfold stp at h
  dsimp only at h
  split at h
  · rename_i x S
    split at h
    case isFalse => cases h
    rename_i hI
    cases h
    intro p l e R s m args below meth c w0 A Q C k H locs ls hP hS hl
    obtain ⟨ls', e', h'⟩ := lvm_st1 (v := .ref x) hl (blt_lt (Bool.and_eq_true_iff.mp hI).1) rfl (Bool.and_eq_true_iff.mp hI).2
    have hE1 := hE.1
    have hx := C.1
    have hb := C.2.1
    intro T hT X
    obtain ⟨t, a1, b1⟩ := k H locs ls' hP hS h' T hT X
    refine ⟨t, ?_, b1⟩
    dsimp only at hE1
    simp only [mv, List.map_cons] at e' ⊢
    jvm_step X.here [X.here.top, ↓top_set X.here.top, hx, hb, hE1, e', Value.isRef, ilen]
    exact a1
  · cases h
theorem gs_astoren {M : Mth} {d : Nat} {P : PL} {pc aux : Nat} {v : Int32} {w : Int64} {L : List (Option Value)} {S : List Value} {σ : MH} {c1 : MC} {Pr : Option Prop} (hPL : PLOK M.2.2.2.2 P) {n : Fin 4} (hE : okE M P (pc, .astore_n n, aux, v, w)) (h : stp M pc (.astore_n n) aux v w L S σ = some (c1, Pr)) (hO : oP Pr) : Go M d (some pc, L, S, σ) c1 := by
  unfold stp at h
  dsimp only at h
  split at h
  · rename_i x S
    split at h
    case isFalse => cases h
    rename_i hI
    cases h
    intro p l e R s m args below meth c w0 A Q C k H locs ls hP hS hl
    obtain ⟨ls', e', h'⟩ := lvm_st1 (v := .ref x) hl (blt_lt (Bool.and_eq_true_iff.mp hI).1) rfl (Bool.and_eq_true_iff.mp hI).2
    have hE1 := hE.1
    have hx := C.1
    have hb := C.2.1
    intro T hT X
    obtain ⟨t, a1, b1⟩ := k H locs ls' hP hS h' T hT X
    refine ⟨t, ?_, b1⟩
    dsimp only at hE1
    simp only [mv, List.map_cons] at e' ⊢
    jvm_step X.here [X.here.top, ↓top_set X.here.top, hx, hb, hE1, e', Value.isRef, ilen]
    exact a1
  · cases h
theorem gs_lstore {M : Mth} {d : Nat} {P : PL} {pc aux : Nat} {v : Int32} {w : Int64} {L : List (Option Value)} {S : List Value} {σ : MH} {c1 : MC} {Pr : Option Prop} (hPL : PLOK M.2.2.2.2 P) {n : Nat} (hE : okE M P (pc, .lstore n, aux, v, w)) (h : stp M pc (.lstore n) aux v w L S σ = some (c1, Pr)) (hO : oP Pr) : Go M d (some pc, L, S, σ) c1 := by
  unfold stp at h
  dsimp only at h
  split at h
  · rename_i x S
    split at h
    case isFalse => cases h
    rename_i hI
    cases h
    intro p l e R s m args below meth c w0 A Q C k H locs ls hP hS hl
    obtain ⟨ls', e', h'⟩ := lvm_st2 (v := .long x) hl (blt_lt (Bool.and_eq_true_iff.mp hI).1) rfl (Bool.and_eq_true_iff.mp hI).2
    have hE1 := hE.1
    have hx := C.1
    have hb := C.2.1
    intro T hT X
    obtain ⟨t, a1, b1⟩ := k H locs ls' hP hS h' T hT X
    refine ⟨t, ?_, b1⟩
    dsimp only at hE1
    simp only [mv, List.map_cons] at e' ⊢
    jvm_step X.here [X.here.top, ↓top_set X.here.top, hx, hb, hE1, e', ilen]
    exact a1
  · cases h
theorem gs_lstoren {M : Mth} {d : Nat} {P : PL} {pc aux : Nat} {v : Int32} {w : Int64} {L : List (Option Value)} {S : List Value} {σ : MH} {c1 : MC} {Pr : Option Prop} (hPL : PLOK M.2.2.2.2 P) {n : Fin 4} (hE : okE M P (pc, .lstore_n n, aux, v, w)) (h : stp M pc (.lstore_n n) aux v w L S σ = some (c1, Pr)) (hO : oP Pr) : Go M d (some pc, L, S, σ) c1 := by
  unfold stp at h
  dsimp only at h
  split at h
  · rename_i x S
    split at h
    case isFalse => cases h
    rename_i hI
    cases h
    intro p l e R s m args below meth c w0 A Q C k H locs ls hP hS hl
    obtain ⟨ls', e', h'⟩ := lvm_st2 (v := .long x) hl (blt_lt (Bool.and_eq_true_iff.mp hI).1) rfl (Bool.and_eq_true_iff.mp hI).2
    have hE1 := hE.1
    have hx := C.1
    have hb := C.2.1
    intro T hT X
    obtain ⟨t, a1, b1⟩ := k H locs ls' hP hS h' T hT X
    refine ⟨t, ?_, b1⟩
    dsimp only at hE1
    simp only [mv, List.map_cons] at e' ⊢
    jvm_step X.here [X.here.top, ↓top_set X.here.top, hx, hb, hE1, e', ilen]
    exact a1
  · cases h
theorem gs_iinc {M : Mth} {d : Nat} {P : PL} {pc aux : Nat} {v : Int32} {w : Int64} {L : List (Option Value)} {S : List Value} {σ : MH} {c1 : MC} {Pr : Option Prop} (hPL : PLOK M.2.2.2.2 P) {n : Nat} {q : Int} (hE : okE M P (pc, .iinc n q, aux, v, w)) (h : stp M pc (.iinc n q) aux v w L S σ = some (c1, Pr)) (hO : oP Pr) : Go M d (some pc, L, S, σ) c1 := by
  unfold stp at h
  dsimp only at h
  split at h
  · rename_i x hm
    split at h
    case isFalse => cases h
    rename_i hI
    cases h
    intro p l e R s m args below meth c w0 A Q C k H locs ls hP hS hl
    obtain ⟨ls', e', h'⟩ := lvm_st1 (v := .int (x + v)) hl (blt_lt (Bool.and_eq_true_iff.mp hI).1) rfl (Bool.and_eq_true_iff.mp hI).2
    have hg := lvm_get hl hm
    have hE1 := hE.1
    have hv : Int32.ofInt q = v := of_decide_eq_true hE.2
    have hx := C.1
    have hb := C.2.1
    intro T hT X
    obtain ⟨t, a1, b1⟩ := k H locs ls' hP hS h' T hT X
    refine ⟨t, ?_, b1⟩
    subst hv
    dsimp only at hE1
    simp only [mv] at e' hg ⊢
    jvm_step X.here [X.here.top, ↓top_set X.here.top, hx, hb, hE1, hg, e', ilen]
    exact a1
  · cases h
/-- one instruction -/
theorem stp_ok {M : Mth} {d : Nat} {P : PL} {pc aux : Nat} {v : Int32} {w : Int64} {L : List (Option Value)} {S : List Value} {σ : MH} {c1 : MC} {Pr : Option Prop} (hPL : PLOK M.2.2.2.2 P) {I : Instr} (hE : okE M P (pc, I, aux, v, w)) (h : stp M pc I aux v w L S σ = some (c1, Pr)) (hO : oP Pr) : Go M d (some pc, L, S, σ) c1 := by
  cases I with
  | iconst _ => exact gs_iconst hPL hE h hO
  | bipush _ => exact gs_bipush hPL hE h hO
  | sipush _ => exact gs_sipush hPL hE h hO
  | ldc _ => exact gs_ldc hPL hE h hO
  | ldc_w _ => exact gs_ldcw hPL hE h hO
  | ldc2_w _ => exact gs_ldc2 hPL hE h hO
  | lconst _ => exact gs_lconst hPL hE h hO
  | aconst_null => exact gs_null hPL hE h hO
  | iload _ => exact gs_iload hPL hE h hO
  | iload_n _ => exact gs_iloadn hPL hE h hO
  | lload _ => exact gs_lload hPL hE h hO
  | lload_n _ => exact gs_lloadn hPL hE h hO
  | aload _ => exact gs_aload hPL hE h hO
  | aload_n _ => exact gs_aloadn hPL hE h hO
  | iadd => exact gs_iadd hPL hE h hO
  | isub => exact gs_isub hPL hE h hO
  | imul => exact gs_imul hPL hE h hO
  | iand => exact gs_iand hPL hE h hO
  | ior => exact gs_ior hPL hE h hO
  | ixor => exact gs_ixor hPL hE h hO
  | ishl => exact gs_ishl hPL hE h hO
  | ishr => exact gs_ishr hPL hE h hO
  | iushr => exact gs_iushr hPL hE h hO
  | idiv => exact gs_idiv hPL hE h hO
  | irem => exact gs_irem hPL hE h hO
  | ladd => exact gs_ladd hPL hE h hO
  | lsub => exact gs_lsub hPL hE h hO
  | lmul => exact gs_lmul hPL hE h hO
  | ldiv => exact gs_ldiv hPL hE h hO
  | lrem => exact gs_lrem hPL hE h hO
  | lcmp => exact gs_lcmp hPL hE h hO
  | ineg => exact gs_ineg hPL hE h hO
  | i2l => exact gs_i2l hPL hE h hO
  | l2i => exact gs_l2i hPL hE h hO
  | i2b => exact gs_i2b hPL hE h hO
  | i2c => exact gs_i2c hPL hE h hO
  | dup => exact gs_dup hPL hE h hO
  | pop => exact gs_pop hPL hE h hO
  | dup2 => exact gs_dup2 hPL hE h hO
  | goto _ => exact gs_goto hPL hE h hO
  | iaload => exact gs_iaload hPL hE h hO
  | baload => exact gs_baload hPL hE h hO
  | laload => exact gs_laload hPL hE h hO
  | aaload => exact gs_aaload hPL hE h hO
  | iastore => exact gs_iastore hPL hE h hO
  | bastore => exact gs_bastore hPL hE h hO
  | lastore => exact gs_lastore hPL hE h hO
  | arraylength => exact gs_alen hPL hE h hO
  | getfield _ => exact gs_getfield hPL hE h hO
  | putfield _ => exact gs_putfield hPL hE h hO
  | istore _ => exact gs_istore hPL hE h hO
  | istore_n _ => exact gs_istoren hPL hE h hO
  | astore _ => exact gs_astore hPL hE h hO
  | astore_n _ => exact gs_astoren hPL hE h hO
  | lstore _ => exact gs_lstore hPL hE h hO
  | lstore_n _ => exact gs_lstoren hPL hE h hO
  | iinc _ _ => exact gs_iinc hPL hE h hO
  | _ => exact absurd h (by simp [stp])
end
