theorem in_t1 : ∀ w ∈ tables_1_1, w ∈ lw_tbl := fun w h => List.mem_append_right _ (show w ∈ tables_1 from List.mem_append_left _ h)
theorem in_t2 : ∀ w ∈ tables_1_2, w ∈ lw_tbl := fun w h => List.mem_append_right _ (show w ∈ tables_1 from List.mem_append_right _ (List.mem_append_left _ h))
theorem in_t3 : ∀ w ∈ tables_1_3, w ∈ lw_tbl := fun w h => List.mem_append_right _ (show w ∈ tables_1 from List.mem_append_right _ (List.mem_append_right _ (List.mem_append_left _ h)))
theorem in_t4 : ∀ w ∈ tables_1_4, w ∈ lw_tbl := fun w h => List.mem_append_right _ (show w ∈ tables_1 from List.mem_append_right _ (List.mem_append_right _ (List.mem_append_right _ (List.mem_append_left _ h))))
theorem in_t5 : ∀ w ∈ tables_1_5, w ∈ lw_tbl := fun w h => List.mem_append_right _ (show w ∈ tables_1 from List.mem_append_right _ (List.mem_append_right _ (List.mem_append_right _ (List.mem_append_right _ (List.mem_append_left _ h)))))
theorem in_t6 : ∀ w ∈ tables_1_6, w ∈ lw_tbl := fun w h => List.mem_append_right _ (show w ∈ tables_1 from List.mem_append_right _ (List.mem_append_right _ (List.mem_append_right _ (List.mem_append_right _ (List.mem_append_right _ (List.mem_append_left _ h))))))
theorem in_t7 : ∀ w ∈ tables_1_7, w ∈ lw_tbl := fun w h => List.mem_append_right _ (show w ∈ tables_1 from List.mem_append_right _ (List.mem_append_right _ (List.mem_append_right _ (List.mem_append_right _ (List.mem_append_right _ (List.mem_append_right _ (h)))))))
theorem tw0 : (.selects RX5 yX5_readClause yX5_readClause : Cond) ∈ TBG := TBG_mem (i := 0) (by decide +kernel) rfl
theorem tw1 : (.selects RX5 yX5_readSum yX5_readSum : Cond) ∈ TBG := TBG_mem (i := 1) (by decide +kernel) rfl
theorem tw2 : (.selects RX5 yX5_readProduct yX5_readProduct : Cond) ∈ TBG := TBG_mem (i := 2) (by decide +kernel) rfl
theorem tw3 : (.selects RX5 yX5_readFactor yX5_readFactor : Cond) ∈ TBG := TBG_mem (i := 3) (by decide +kernel) rfl
theorem tw4 : (.selects RX5 yX5_pass yX5_pass : Cond) ∈ TBG := TBG_mem (i := 4) (by decide +kernel) rfl
theorem tw5 : (.selects RX5 yX5_readNumber yX5_readNumber : Cond) ∈ TBG := TBG_mem (i := 5) (by decide +kernel) rfl
theorem tw6 : (.selects RX5 yX5_readEither yX5_readEither : Cond) ∈ TBG := TBG_mem (i := 6) (by decide +kernel) rfl
theorem tw7 : (.selects RX5 yX5_readBoth yX5_readBoth : Cond) ∈ TBG := TBG_mem (i := 7) (by decide +kernel) rfl
theorem tw8 : (.selects RX5 yX5_readTest yX5_readTest : Cond) ∈ TBG := TBG_mem (i := 8) (by decide +kernel) rfl
theorem tw9 : (.selects RX5 yX5_readInner yX5_readInner : Cond) ∈ TBG := TBG_mem (i := 9) (by decide +kernel) rfl
theorem tw10 : (.selects RX5 yX5_emitJump yX5_emitJump : Cond) ∈ TBG := TBG_mem (i := 10) (by decide +kernel) rfl
theorem tw11 : (.selects RX5 yX5_land yX5_land : Cond) ∈ TBG := TBG_mem (i := 11) (by decide +kernel) rfl
theorem tw12 : (.selects RX6 yX6_readHeight yX6_readHeight : Cond) ∈ TBG := TBG_mem (i := 12) (by decide +kernel) rfl
theorem tw13 : (.selects RX6 yX6_readTimes yX6_readTimes : Cond) ∈ TBG := TBG_mem (i := 13) (by decide +kernel) rfl
theorem tw14 : (.selects RX6 yX6_put yX6_put : Cond) ∈ TBG := TBG_mem (i := 14) (by decide +kernel) rfl
theorem tw15 : (.selects RX1 yX1_travel yX1_travel : Cond) ∈ TBG := TBG_mem (i := 15) (by decide +kernel) rfl
theorem tw16 : (.selects RX1 yX1_meet yX1_meet : Cond) ∈ TBG := TBG_mem (i := 16) (by decide +kernel) rfl
theorem tw17 : (.selects RX2 yX2_fill yX2_fill : Cond) ∈ TBG := TBG_mem (i := 17) (by decide +kernel) rfl
theorem tw18 : (.selects RX1 yX1_strain yX1_strain : Cond) ∈ TBG := TBG_mem (i := 18) (by decide +kernel) rfl
theorem tw19 : (.selects RX11 yX11_whomItFits yX11_whomItFits : Cond) ∈ TBG := TBG_mem (i := 19) (by decide +kernel) rfl
theorem tw20 : (.selects RX11 yX11_fitsAbove yX11_fitsAbove : Cond) ∈ TBG := TBG_mem (i := 20) (by decide +kernel) rfl
theorem tw21 : (.selects RX0 yX0_gather yX0_gather : Cond) ∈ TBG := TBG_mem (i := 21) (by decide +kernel) rfl
theorem tw22 : (.selects RX0 yX0_weighAll yX0_weighAll : Cond) ∈ TBG := TBG_mem (i := 22) (by decide +kernel) rfl
theorem tw23 : (.selects RX0 yX0_setBest yX0_setBest : Cond) ∈ TBG := TBG_mem (i := 23) (by decide +kernel) rfl
theorem tw24 : (.selects RX0 yX0_bestOf yX0_bestOf : Cond) ∈ TBG := TBG_mem (i := 24) (by decide +kernel) rfl
theorem tw25 : (.selects RX0 yX0_withBond yX0_withBond : Cond) ∈ TBG := TBG_mem (i := 25) (by decide +kernel) rfl
theorem tw26 : (.selects RX0 yX0_choose yX0_choose : Cond) ∈ TBG := TBG_mem (i := 26) (by decide +kernel) rfl
theorem tw27 : (.selects RX0 yX0_askNext yX0_askNext : Cond) ∈ TBG := TBG_mem (i := 27) (by decide +kernel) rfl
theorem tw28 : (.selects RX0 yX0_prefers yX0_prefers : Cond) ∈ TBG := TBG_mem (i := 28) (by decide +kernel) rfl
theorem tw29 : (.selects RX11 yX11_wouldLeave yX11_wouldLeave : Cond) ∈ TBG := TBG_mem (i := 29) (by decide +kernel) rfl
theorem tw30 : (.selects RX11 yX11_likingNow yX11_likingNow : Cond) ∈ TBG := TBG_mem (i := 30) (by decide +kernel) rfl
theorem tw31 : (.selects RX9 yX9_weigh yX9_weigh : Cond) ∈ TBG := TBG_mem (i := 31) (by decide +kernel) rfl
theorem tw32 : (.selects RX9 yX9_nextOrder yX9_nextOrder : Cond) ∈ TBG := TBG_mem (i := 32) (by decide +kernel) rfl
theorem tw33 : (.selects RX9 yX9_swap yX9_swap : Cond) ∈ TBG := TBG_mem (i := 33) (by decide +kernel) rfl
theorem tw34 : (.selects RX9 yX9_commonDivisor yX9_commonDivisor : Cond) ∈ TBG := TBG_mem (i := 34) (by decide +kernel) rfl
theorem tw35 : (.selects RX11 yX11_canSand yX11_canSand : Cond) ∈ TBG := TBG_mem (i := 35) (by decide +kernel) rfl
theorem tw36 : (.selects RX8 yX8_weigh yX8_weigh : Cond) ∈ TBG := TBG_mem (i := 36) (by decide +kernel) rfl
theorem tw37 : (.selects RX8 yX8_bestHere yX8_bestHere : Cond) ∈ TBG := TBG_mem (i := 37) (by decide +kernel) rfl
theorem tw38 : (.selects RX8 yX8_leastOf yX8_leastOf : Cond) ∈ TBG := TBG_mem (i := 38) (by decide +kernel) rfl
theorem tw39 : (.selects RX8 yX8_read yX8_read : Cond) ∈ TBG := TBG_mem (i := 39) (by decide +kernel) rfl
theorem tw40 : (.selects RX11 yX11_fitOthers yX11_fitOthers : Cond) ∈ TBG := TBG_mem (i := 40) (by decide +kernel) rfl
theorem tw41 : (.selects RX11 yX11_rulesAll yX11_rulesAll : Cond) ∈ TBG := TBG_mem (i := 41) (by decide +kernel) rfl
theorem tw42 : (.selects RX11 yX11_cut yX11_cut : Cond) ∈ TBG := TBG_mem (i := 42) (by decide +kernel) rfl
theorem tw43 : (.selects RX11 yX11_madeBy yX11_madeBy : Cond) ∈ TBG := TBG_mem (i := 43) (by decide +kernel) rfl
theorem tw44 : (.selects RX12 yX12_isPerson yX12_isPerson : Cond) ∈ TBG := TBG_mem (i := 44) (by decide +kernel) rfl
theorem tw45 : (.selects RX12 yX12_lives yX12_lives : Cond) ∈ TBG := TBG_mem (i := 45) (by decide +kernel) rfl
theorem tw46 : (.selects RX12 yX12_parts yX12_parts : Cond) ∈ TBG := TBG_mem (i := 46) (by decide +kernel) rfl
theorem tw47 : (.selects RX12 yX12_isFree yX12_isFree : Cond) ∈ TBG := TBG_mem (i := 47) (by decide +kernel) rfl
theorem tw48 : (.selects RX12 yX12_wedsTwo yX12_wedsTwo : Cond) ∈ TBG := TBG_mem (i := 48) (by decide +kernel) rfl
theorem tw49 : (.selects RX12 yX12_types yX12_types : Cond) ∈ TBG := TBG_mem (i := 49) (by decide +kernel) rfl
theorem tw50 : (.selects RX12 yX12_readsClause yX12_readsClause : Cond) ∈ TBG := TBG_mem (i := 50) (by decide +kernel) rfl
theorem tw51 : (.selects RX12 yX12_here yX12_here : Cond) ∈ TBG := TBG_mem (i := 51) (by decide +kernel) rfl
theorem tw52 : (.selects RX12 yX12_wrongAt yX12_wrongAt : Cond) ∈ TBG := TBG_mem (i := 52) (by decide +kernel) rfl
theorem tw53 : (.selects RX12 yX12_readsSum yX12_readsSum : Cond) ∈ TBG := TBG_mem (i := 53) (by decide +kernel) rfl
theorem tw54 : (.selects RX12 yX12_readsFactor yX12_readsFactor : Cond) ∈ TBG := TBG_mem (i := 54) (by decide +kernel) rfl
theorem tw55 : (.selects RX12 yX12_opens yX12_opens : Cond) ∈ TBG := TBG_mem (i := 55) (by decide +kernel) rfl
theorem tw56 : (.selects RX12 yX12_isDigit yX12_isDigit : Cond) ∈ TBG := TBG_mem (i := 56) (by decide +kernel) rfl
theorem tw57 : (.selects RX12 yX12_readsNumber yX12_readsNumber : Cond) ∈ TBG := TBG_mem (i := 57) (by decide +kernel) rfl
theorem tw58 : (.selects RX12 yX12_notes yX12_notes : Cond) ∈ TBG := TBG_mem (i := 58) (by decide +kernel) rfl
theorem tw59 : (.selects RX12 yX12_closesSums yX12_closesSums : Cond) ∈ TBG := TBG_mem (i := 59) (by decide +kernel) rfl
theorem tw60 : (.selects RX12 yX12_waitTop yX12_waitTop : Cond) ∈ TBG := TBG_mem (i := 60) (by decide +kernel) rfl
theorem tw61 : (.selects RX12 yX12_hasOpenSum yX12_hasOpenSum : Cond) ∈ TBG := TBG_mem (i := 61) (by decide +kernel) rfl
theorem tw62 : (.selects RX12 yX12_readsCondition yX12_readsCondition : Cond) ∈ TBG := TBG_mem (i := 62) (by decide +kernel) rfl
theorem tw63 : (.selects RX12 yX12_readsCompared yX12_readsCompared : Cond) ∈ TBG := TBG_mem (i := 63) (by decide +kernel) rfl
theorem tw64 : (.selects RX12 yX12_endsPiece yX12_endsPiece : Cond) ∈ TBG := TBG_mem (i := 64) (by decide +kernel) rfl
theorem tw65 : (.selects RX12 yX12_lands yX12_lands : Cond) ∈ TBG := TBG_mem (i := 65) (by decide +kernel) rfl
theorem tw66 : (.selects RX12 yX12_jumps yX12_jumps : Cond) ∈ TBG := TBG_mem (i := 66) (by decide +kernel) rfl
theorem tw67 : (.selects RX12 yX12_takes yX12_takes : Cond) ∈ TBG := TBG_mem (i := 67) (by decide +kernel) rfl
theorem tw68 : (.selects RX12 yX12_readsHeight yX12_readsHeight : Cond) ∈ TBG := TBG_mem (i := 68) (by decide +kernel) rfl
theorem tw69 : (.selects RX12 yX12_readsStop yX12_readsStop : Cond) ∈ TBG := TBG_mem (i := 69) (by decide +kernel) rfl
theorem tw70 : (.selects RX12 yX12_daysGo yX12_daysGo : Cond) ∈ TBG := TBG_mem (i := 70) (by decide +kernel) rfl
theorem tw71 : (.selects RX12 yX12_travels yX12_travels : Cond) ∈ TBG := TBG_mem (i := 71) (by decide +kernel) rfl
theorem tw72 : (.selects RX12 yX12_triesIn yX12_triesIn : Cond) ∈ TBG := TBG_mem (i := 72) (by decide +kernel) rfl
theorem tw73 : (.selects RX12 yX12_haveTried yX12_haveTried : Cond) ∈ TBG := TBG_mem (i := 73) (by decide +kernel) rfl
theorem tw74 : (.selects RX12 yX12_fit yX12_fit : Cond) ∈ TBG := TBG_mem (i := 74) (by decide +kernel) rfl
theorem tw75 : (.selects RX12 yX12_slackBy yX12_slackBy : Cond) ∈ TBG := TBG_mem (i := 75) (by decide +kernel) rfl
theorem tw76 : (.selects RX12 yX12_slackOf yX12_slackOf : Cond) ∈ TBG := TBG_mem (i := 76) (by decide +kernel) rfl
theorem tw77 : (.selects RX12 yX12_heightOf yX12_heightOf : Cond) ∈ TBG := TBG_mem (i := 77) (by decide +kernel) rfl
theorem tw78 : (.selects RX12 yX12_allowed yX12_allowed : Cond) ∈ TBG := TBG_mem (i := 78) (by decide +kernel) rfl
theorem tw79 : (.selects RX12 yX12_feels yX12_feels : Cond) ∈ TBG := TBG_mem (i := 79) (by decide +kernel) rfl
theorem tw80 : (.selects RX12 yX12_byLaw yX12_byLaw : Cond) ∈ TBG := TBG_mem (i := 80) (by decide +kernel) rfl
theorem tw81 : (.selects RX12 yX12_comesTo yX12_comesTo : Cond) ∈ TBG := TBG_mem (i := 81) (by decide +kernel) rfl
theorem tw82 : (.selects RX12 yX12_wearsBy yX12_wearsBy : Cond) ∈ TBG := TBG_mem (i := 82) (by decide +kernel) rfl
theorem tw83 : (.selects RX12 yX12_wearsAll yX12_wearsAll : Cond) ∈ TBG := TBG_mem (i := 83) (by decide +kernel) rfl
theorem tw84 : (.selects RX12 yX12_creak yX12_creak : Cond) ∈ TBG := TBG_mem (i := 84) (by decide +kernel) rfl
theorem tw85 : (.selects RX12 yX12_draws yX12_draws : Cond) ∈ TBG := TBG_mem (i := 85) (by decide +kernel) rfl
theorem tw86 : (.selects RX12 yX12_wedTwos yX12_wedTwos : Cond) ∈ TBG := TBG_mem (i := 86) (by decide +kernel) rfl
theorem tw87 : (.selects RX12 yX12_fitting yX12_fitting : Cond) ∈ TBG := TBG_mem (i := 87) (by decide +kernel) rfl
theorem tw88 : (.selects RX12 yX12_likes yX12_likes : Cond) ∈ TBG := TBG_mem (i := 88) (by decide +kernel) rfl
theorem tw89 : (.selects RX12 yX12_laysFits yX12_laysFits : Cond) ∈ TBG := TBG_mem (i := 89) (by decide +kernel) rfl
theorem tw90 : (.selects RX12 yX12_isOne yX12_isOne : Cond) ∈ TBG := TBG_mem (i := 90) (by decide +kernel) rfl
theorem tw91 : (.selects RX12 yX12_laysMost yX12_laysMost : Cond) ∈ TBG := TBG_mem (i := 91) (by decide +kernel) rfl
theorem tw92 : (.selects RX12 yX12_mayGet yX12_mayGet : Cond) ∈ TBG := TBG_mem (i := 92) (by decide +kernel) rfl
theorem tw93 : (.selects RX12 yX12_getsBy yX12_getsBy : Cond) ∈ TBG := TBG_mem (i := 93) (by decide +kernel) rfl
theorem tw94 : (.selects RX12 yX12_laysStable yX12_laysStable : Cond) ∈ TBG := TBG_mem (i := 94) (by decide +kernel) rfl
theorem tw95 : (.selects RX12 yX12_nextAsked yX12_nextAsked : Cond) ∈ TBG := TBG_mem (i := 95) (by decide +kernel) rfl
theorem tw96 : (.selects RX12 yX12_keeps yX12_keeps : Cond) ∈ TBG := TBG_mem (i := 96) (by decide +kernel) rfl
theorem tw97 : (.selects RX12 yX12_likesWed yX12_likesWed : Cond) ∈ TBG := TBG_mem (i := 97) (by decide +kernel) rfl
theorem tw98 : (.selects RX12 yX12_areBounds yX12_areBounds : Cond) ∈ TBG := TBG_mem (i := 98) (by decide +kernel) rfl
theorem tw99 : (.selects RX12 yX12_readsRow yX12_readsRow : Cond) ∈ TBG := TBG_mem (i := 99) (by decide +kernel) rfl
theorem tw100 : (.selects RX12 yX12_sumBy yX12_sumBy : Cond) ∈ TBG := TBG_mem (i := 100) (by decide +kernel) rfl
theorem tw101 : (.selects RX12 yX12_laysWork yX12_laysWork : Cond) ∈ TBG := TBG_mem (i := 101) (by decide +kernel) rfl
theorem tw102 : (.selects RX12 yX12_workBy yX12_workBy : Cond) ∈ TBG := TBG_mem (i := 102) (by decide +kernel) rfl
theorem tw103 : (.selects RX12 yX12_workAt yX12_workAt : Cond) ∈ TBG := TBG_mem (i := 103) (by decide +kernel) rfl
theorem tw104 : (.selects RX12 yX12_laysSanded yX12_laysSanded : Cond) ∈ TBG := TBG_mem (i := 104) (by decide +kernel) rfl
theorem tw105 : (.selects RX12 yX12_slackOfSanded yX12_slackOfSanded : Cond) ∈ TBG := TBG_mem (i := 105) (by decide +kernel) rfl
theorem tw106 : (.selects RX12 yX12_slackSteamed yX12_slackSteamed : Cond) ∈ TBG := TBG_mem (i := 106) (by decide +kernel) rfl
theorem tw107 : (.selects RX12 yX12_makesAll yX12_makesAll : Cond) ∈ TBG := TBG_mem (i := 107) (by decide +kernel) rfl
theorem tw108 : (.selects RX12 yX12_makes yX12_makes : Cond) ∈ TBG := TBG_mem (i := 108) (by decide +kernel) rfl
theorem tw109 : (.selects RX12 yX12_areSame yX12_areSame : Cond) ∈ TBG := TBG_mem (i := 109) (by decide +kernel) rfl
theorem tw110 : (.initialized RL : Cond) ∈ TBG := List.mem_filter.mpr ⟨in_t1 _ (List.mem_of_getElem? (i := 0) (by decide +kernel)), rfl⟩
theorem tw111 : (.initialized RX11 : Cond) ∈ TBG := List.mem_filter.mpr ⟨in_t1 _ (List.mem_of_getElem? (i := 1) (by decide +kernel)), rfl⟩
theorem tw112 : (.initialized RX3 : Cond) ∈ TBG := List.mem_filter.mpr ⟨in_t1 _ (List.mem_of_getElem? (i := 2) (by decide +kernel)), rfl⟩
theorem tw113 : (.initialized RX10 : Cond) ∈ TBG := List.mem_filter.mpr ⟨in_t1 _ (List.mem_of_getElem? (i := 3) (by decide +kernel)), rfl⟩
theorem tw114 : (.initialized RX4 : Cond) ∈ TBG := List.mem_filter.mpr ⟨in_t1 _ (List.mem_of_getElem? (i := 4) (by decide +kernel)), rfl⟩
theorem tw115 : (.initialized RX7 : Cond) ∈ TBG := List.mem_filter.mpr ⟨in_t1 _ (List.mem_of_getElem? (i := 5) (by decide +kernel)), rfl⟩
theorem tw116 : (.initialized RX5 : Cond) ∈ TBG := List.mem_filter.mpr ⟨in_t1 _ (List.mem_of_getElem? (i := 6) (by decide +kernel)), rfl⟩
theorem tw117 : (.initialized RX6 : Cond) ∈ TBG := List.mem_filter.mpr ⟨in_t1 _ (List.mem_of_getElem? (i := 7) (by decide +kernel)), rfl⟩
theorem tw118 : (.initialized RX2 : Cond) ∈ TBG := List.mem_filter.mpr ⟨in_t1 _ (List.mem_of_getElem? (i := 8) (by decide +kernel)), rfl⟩
theorem tw119 : (.initialized RX1 : Cond) ∈ TBG := List.mem_filter.mpr ⟨in_t1 _ (List.mem_of_getElem? (i := 9) (by decide +kernel)), rfl⟩
theorem tw120 : (.initialized RX0 : Cond) ∈ TBG := List.mem_filter.mpr ⟨in_t1 _ (List.mem_of_getElem? (i := 10) (by decide +kernel)), rfl⟩
theorem tw121 : (.initialized RX9 : Cond) ∈ TBG := List.mem_filter.mpr ⟨in_t1 _ (List.mem_of_getElem? (i := 11) (by decide +kernel)), rfl⟩
theorem tw122 : (.initialized RX8 : Cond) ∈ TBG := List.mem_filter.mpr ⟨in_t1 _ (List.mem_of_getElem? (i := 12) (by decide +kernel)), rfl⟩
theorem tw123 : (.initialized RX12 : Cond) ∈ TBG := List.mem_filter.mpr ⟨in_t1 _ (List.mem_of_getElem? (i := 13) (by decide +kernel)), rfl⟩
theorem tw124 : (.initialized RJ0 : Cond) ∈ TBG := List.mem_filter.mpr ⟨in_t1 _ (List.mem_of_getElem? (i := 14) (by decide +kernel)), rfl⟩
theorem tw125 : (.initialized RJ1 : Cond) ∈ TBG := List.mem_filter.mpr ⟨in_t1 _ (List.mem_of_getElem? (i := 15) (by decide +kernel)), rfl⟩
theorem tw126 : (.initialized RJ9 : Cond) ∈ TBG := List.mem_filter.mpr ⟨in_t1 _ (List.mem_of_getElem? (i := 16) (by decide +kernel)), rfl⟩
theorem tw127 : (.initialized RJ2 : Cond) ∈ TBG := List.mem_filter.mpr ⟨in_t1 _ (List.mem_of_getElem? (i := 17) (by decide +kernel)), rfl⟩
theorem tw128 : (.initialized RJ3 : Cond) ∈ TBG := List.mem_filter.mpr ⟨in_t1 _ (List.mem_of_getElem? (i := 18) (by decide +kernel)), rfl⟩
theorem tw129 : (.initialized RJ11 : Cond) ∈ TBG := List.mem_filter.mpr ⟨in_t1 _ (List.mem_of_getElem? (i := 19) (by decide +kernel)), rfl⟩
theorem tw130 : (.initialized RJ10 : Cond) ∈ TBG := List.mem_filter.mpr ⟨in_t1 _ (List.mem_of_getElem? (i := 20) (by decide +kernel)), rfl⟩
theorem tw131 : (.initialized RJ7 : Cond) ∈ TBG := List.mem_filter.mpr ⟨in_t1 _ (List.mem_of_getElem? (i := 21) (by decide +kernel)), rfl⟩
theorem tw132 : (.initialized RJ6 : Cond) ∈ TBG := List.mem_filter.mpr ⟨in_t1 _ (List.mem_of_getElem? (i := 22) (by decide +kernel)), rfl⟩
theorem tw136 : (.instanceMethod yX11_init : Cond) ∈ TBG := List.mem_filter.mpr ⟨in_t1 _ (List.mem_of_getElem? (i := 26) (by decide +kernel)), rfl⟩
set_option maxRecDepth 20000 in
theorem tw137 : (.code yX11_init cX11_init 1 (none) : Cond) ∈ TBG := List.mem_filter.mpr ⟨in_t1 _ (List.mem_of_getElem? (i := 27) rfl), rfl⟩
theorem tw139 : (.instanceMethod ⟨"java/lang/Object", "<init>", "()V"⟩ : Cond) ∈ TBG := List.mem_filter.mpr ⟨in_t1 _ (List.mem_of_getElem? (i := 29) (by decide +kernel)), rfl⟩
theorem tw144 : (.instanceMethod yX3_init : Cond) ∈ TBG := List.mem_filter.mpr ⟨in_t1 _ (List.mem_of_getElem? (i := 34) (by decide +kernel)), rfl⟩
set_option maxRecDepth 20000 in
theorem tw145 : (.code yX3_init cX3_init 2 (none) : Cond) ∈ TBG := List.mem_filter.mpr ⟨in_t1 _ (List.mem_of_getElem? (i := 35) rfl), rfl⟩
theorem tw149 : (.fieldLink RX3 55 "PuzzleWed$Land" "told" "I" : Cond) ∈ TBG := List.mem_filter.mpr ⟨in_t1 _ (List.mem_of_getElem? (i := 39) (by decide +kernel)), rfl⟩
theorem tw150 : (.fieldLink RX11 111 "PuzzleWed$Land" "told" "I" : Cond) ∈ TBG := List.mem_filter.mpr ⟨in_t1 _ (List.mem_of_getElem? (i := 40) (by decide +kernel)), rfl⟩
theorem tw151 : (.fieldLink RX11 115 "PuzzleWed$Land" "living" "I" : Cond) ∈ TBG := List.mem_filter.mpr ⟨in_t1 _ (List.mem_of_getElem? (i := 41) (by decide +kernel)), rfl⟩
theorem tw152 : (.fieldLink RX3 58 "PuzzleWed$Land" "living" "I" : Cond) ∈ TBG := List.mem_filter.mpr ⟨in_t1 _ (List.mem_of_getElem? (i := 42) (by decide +kernel)), rfl⟩
theorem tw153 : (.fieldLink RX3 9 "PuzzleWed$Land" "side" "[I" : Cond) ∈ TBG := List.mem_filter.mpr ⟨in_t1 _ (List.mem_of_getElem? (i := 43) (by decide +kernel)), rfl⟩
theorem tw154 : (.fieldLink RX0 55 "PuzzleWed$Land" "side" "[I" : Cond) ∈ TBG := List.mem_filter.mpr ⟨in_t1 _ (List.mem_of_getElem? (i := 44) (by decide +kernel)), rfl⟩
theorem tw155 : (.fieldLink RX11 118 "PuzzleWed$Land" "side" "[I" : Cond) ∈ TBG := List.mem_filter.mpr ⟨in_t1 _ (List.mem_of_getElem? (i := 45) (by decide +kernel)), rfl⟩
theorem tw156 : (.fieldLink RX1 81 "PuzzleWed$Land" "side" "[I" : Cond) ∈ TBG := List.mem_filter.mpr ⟨in_t1 _ (List.mem_of_getElem? (i := 46) (by decide +kernel)), rfl⟩
theorem tw157 : (.fieldLink RX2 70 "PuzzleWed$Land" "side" "[I" : Cond) ∈ TBG := List.mem_filter.mpr ⟨in_t1 _ (List.mem_of_getElem? (i := 47) (by decide +kernel)), rfl⟩
theorem tw158 : (.fieldLink RX3 15 "PuzzleWed$Land" "town" "[I" : Cond) ∈ TBG := List.mem_filter.mpr ⟨in_t1 _ (List.mem_of_getElem? (i := 48) (by decide +kernel)), rfl⟩
theorem tw159 : (.fieldLink RX11 121 "PuzzleWed$Land" "town" "[I" : Cond) ∈ TBG := List.mem_filter.mpr ⟨in_t1 _ (List.mem_of_getElem? (i := 49) (by decide +kernel)), rfl⟩
theorem tw160 : (.fieldLink RX1 51 "PuzzleWed$Land" "town" "[I" : Cond) ∈ TBG := List.mem_filter.mpr ⟨in_t1 _ (List.mem_of_getElem? (i := 50) (by decide +kernel)), rfl⟩
theorem tw161 : (.fieldLink RX2 109 "PuzzleWed$Land" "town" "[I" : Cond) ∈ TBG := List.mem_filter.mpr ⟨in_t1 _ (List.mem_of_getElem? (i := 51) (by decide +kernel)), rfl⟩
theorem tw162 : (.fieldLink RX3 18 "PuzzleWed$Land" "wedTo" "[I" : Cond) ∈ TBG := List.mem_filter.mpr ⟨in_t1 _ (List.mem_of_getElem? (i := 52) (by decide +kernel)), rfl⟩
theorem tw163 : (.fieldLink RX1 88 "PuzzleWed$Land" "wedTo" "[I" : Cond) ∈ TBG := List.mem_filter.mpr ⟨in_t1 _ (List.mem_of_getElem? (i := 53) (by decide +kernel)), rfl⟩
theorem tw164 : (.fieldLink RX2 67 "PuzzleWed$Land" "wedTo" "[I" : Cond) ∈ TBG := List.mem_filter.mpr ⟨in_t1 _ (List.mem_of_getElem? (i := 54) (by decide +kernel)), rfl⟩
theorem tw165 : (.fieldLink RX11 207 "PuzzleWed$Land" "wedTo" "[I" : Cond) ∈ TBG := List.mem_filter.mpr ⟨in_t1 _ (List.mem_of_getElem? (i := 55) (by decide +kernel)), rfl⟩
theorem tw166 : (.fieldLink RX3 21 "PuzzleWed$Land" "creaks" "[I" : Cond) ∈ TBG := List.mem_filter.mpr ⟨in_t1 _ (List.mem_of_getElem? (i := 56) (by decide +kernel)), rfl⟩
theorem tw167 : (.fieldLink RX1 105 "PuzzleWed$Land" "creaks" "[I" : Cond) ∈ TBG := List.mem_filter.mpr ⟨in_t1 _ (List.mem_of_getElem? (i := 57) (by decide +kernel)), rfl⟩
theorem tw168 : (.fieldLink RX2 115 "PuzzleWed$Land" "creaks" "[I" : Cond) ∈ TBG := List.mem_filter.mpr ⟨in_t1 _ (List.mem_of_getElem? (i := 58) (by decide +kernel)), rfl⟩
theorem tw169 : (.fieldLink RX11 220 "PuzzleWed$Land" "creaks" "[I" : Cond) ∈ TBG := List.mem_filter.mpr ⟨in_t1 _ (List.mem_of_getElem? (i := 59) (by decide +kernel)), rfl⟩
theorem tw170 : (.fieldLink RX3 24 "PuzzleWed$Land" "triedBits" "[I" : Cond) ∈ TBG := List.mem_filter.mpr ⟨in_t1 _ (List.mem_of_getElem? (i := 60) (by decide +kernel)), rfl⟩
theorem tw171 : (.fieldLink RX11 229 "PuzzleWed$Land" "triedBits" "[I" : Cond) ∈ TBG := List.mem_filter.mpr ⟨in_t1 _ (List.mem_of_getElem? (i := 61) (by decide +kernel)), rfl⟩
theorem tw172 : (.fieldLink RX3 27 "PuzzleWed$Land" "holder" "[I" : Cond) ∈ TBG := List.mem_filter.mpr ⟨in_t1 _ (List.mem_of_getElem? (i := 62) (by decide +kernel)), rfl⟩
theorem tw173 : (.fieldLink RX2 25 "PuzzleWed$Land" "holder" "[I" : Cond) ∈ TBG := List.mem_filter.mpr ⟨in_t1 _ (List.mem_of_getElem? (i := 63) (by decide +kernel)), rfl⟩
theorem tw174 : (.fieldLink RX11 236 "PuzzleWed$Land" "holder" "[I" : Cond) ∈ TBG := List.mem_filter.mpr ⟨in_t1 _ (List.mem_of_getElem? (i := 64) (by decide +kernel)), rfl⟩
theorem tw175 : (.fieldLink RX3 30 "PuzzleWed$Land" "wear" "[I" : Cond) ∈ TBG := List.mem_filter.mpr ⟨in_t1 _ (List.mem_of_getElem? (i := 65) (by decide +kernel)), rfl⟩
theorem tw176 : (.fieldLink RX11 124 "PuzzleWed$Land" "wear" "[I" : Cond) ∈ TBG := List.mem_filter.mpr ⟨in_t1 _ (List.mem_of_getElem? (i := 66) (by decide +kernel)), rfl⟩
theorem tw177 : (.fieldLink RX2 38 "PuzzleWed$Land" "wear" "[I" : Cond) ∈ TBG := List.mem_filter.mpr ⟨in_t1 _ (List.mem_of_getElem? (i := 67) (by decide +kernel)), rfl⟩
theorem tw178 : (.fieldLink RX3 35 "PuzzleWed$Land" "height" "[[I" : Cond) ∈ TBG := List.mem_filter.mpr ⟨in_t1 _ (List.mem_of_getElem? (i := 68) (by decide +kernel)), rfl⟩
theorem tw179 : (.fieldLink RX2 30 "PuzzleWed$Land" "height" "[[I" : Cond) ∈ TBG := List.mem_filter.mpr ⟨in_t1 _ (List.mem_of_getElem? (i := 69) (by decide +kernel)), rfl⟩
theorem tw180 : (.fieldLink RX11 163 "PuzzleWed$Land" "height" "[[I" : Cond) ∈ TBG := List.mem_filter.mpr ⟨in_t1 _ (List.mem_of_getElem? (i := 70) (by decide +kernel)), rfl⟩
theorem tw181 : (.fieldLink RX3 38 "PuzzleWed$Land" "way" "[[I" : Cond) ∈ TBG := List.mem_filter.mpr ⟨in_t1 _ (List.mem_of_getElem? (i := 71) (by decide +kernel)), rfl⟩
theorem tw182 : (.fieldLink RX1 54 "PuzzleWed$Land" "way" "[[I" : Cond) ∈ TBG := List.mem_filter.mpr ⟨in_t1 _ (List.mem_of_getElem? (i := 72) (by decide +kernel)), rfl⟩
theorem tw183 : (.fieldLink RX11 179 "PuzzleWed$Land" "way" "[[I" : Cond) ∈ TBG := List.mem_filter.mpr ⟨in_t1 _ (List.mem_of_getElem? (i := 73) (by decide +kernel)), rfl⟩
theorem tw184 : (.fieldLink RX3 41 "PuzzleWed$Land" "wayLength" "[I" : Cond) ∈ TBG := List.mem_filter.mpr ⟨in_t1 _ (List.mem_of_getElem? (i := 74) (by decide +kernel)), rfl⟩
theorem tw185 : (.fieldLink RX1 48 "PuzzleWed$Land" "wayLength" "[I" : Cond) ∈ TBG := List.mem_filter.mpr ⟨in_t1 _ (List.mem_of_getElem? (i := 75) (by decide +kernel)), rfl⟩
theorem tw186 : (.fieldLink RX11 188 "PuzzleWed$Land" "wayLength" "[I" : Cond) ∈ TBG := List.mem_filter.mpr ⟨in_t1 _ (List.mem_of_getElem? (i := 76) (by decide +kernel)), rfl⟩
theorem tw187 : (.fieldLink RX3 44 "PuzzleWed$Land" "wayGone" "[I" : Cond) ∈ TBG := List.mem_filter.mpr ⟨in_t1 _ (List.mem_of_getElem? (i := 77) (by decide +kernel)), rfl⟩
theorem tw188 : (.fieldLink RX1 40 "PuzzleWed$Land" "wayGone" "[I" : Cond) ∈ TBG := List.mem_filter.mpr ⟨in_t1 _ (List.mem_of_getElem? (i := 78) (by decide +kernel)), rfl⟩
theorem tw189 : (.fieldLink RX11 194 "PuzzleWed$Land" "wayGone" "[I" : Cond) ∈ TBG := List.mem_filter.mpr ⟨in_t1 _ (List.mem_of_getElem? (i := 79) (by decide +kernel)), rfl⟩
theorem tw190 : (.fieldLink RX1 25 "PuzzleWed$Land" "day" "I" : Cond) ∈ TBG := List.mem_filter.mpr ⟨in_t1 _ (List.mem_of_getElem? (i := 80) (by decide +kernel)), rfl⟩
theorem tw191 : (.fieldLink RX2 112 "PuzzleWed$Land" "day" "I" : Cond) ∈ TBG := List.mem_filter.mpr ⟨in_t1 _ (List.mem_of_getElem? (i := 81) (by decide +kernel)), rfl⟩
theorem tw192 : (.fieldLink RX3 75 "PuzzleWed$Land" "day" "I" : Cond) ∈ TBG := List.mem_filter.mpr ⟨in_t1 _ (List.mem_of_getElem? (i := 82) (by decide +kernel)), rfl⟩
theorem tw193 : (.fieldLink RX11 360 "PuzzleWed$Land" "day" "I" : Cond) ∈ TBG := List.mem_filter.mpr ⟨in_t1 _ (List.mem_of_getElem? (i := 83) (by decide +kernel)), rfl⟩
theorem tw194 : (.fieldLink RX3 47 "PuzzleWed$Land" "x" "I" : Cond) ∈ TBG := List.mem_filter.mpr ⟨in_t1 _ (List.mem_of_getElem? (i := 84) (by decide +kernel)), rfl⟩
theorem tw195 : (.fieldLink RX11 357 "PuzzleWed$Land" "x" "I" : Cond) ∈ TBG := List.mem_filter.mpr ⟨in_t1 _ (List.mem_of_getElem? (i := 85) (by decide +kernel)), rfl⟩
theorem tw231 : (.instanceMethod yX10_init : Cond) ∈ TBG := List.mem_filter.mpr ⟨in_t1 _ (List.mem_of_getElem? (i := 121) (by decide +kernel)), rfl⟩
set_option maxRecDepth 20000 in
theorem tw232 : (.code yX10_init cX10_init 1 (none) : Cond) ∈ TBG := List.mem_filter.mpr ⟨in_t1 _ (List.mem_of_getElem? (i := 122) rfl), rfl⟩
theorem tw234 : (.fieldLink RX10 9 "PuzzleWed$Tape" "bytes" "[I" : Cond) ∈ TBG := List.mem_filter.mpr ⟨in_t1 _ (List.mem_of_getElem? (i := 124) (by decide +kernel)), rfl⟩
theorem tw235 : (.fieldLink RX9 46 "PuzzleWed$Tape" "bytes" "[I" : Cond) ∈ TBG := List.mem_filter.mpr ⟨in_t1 _ (List.mem_of_getElem? (i := 125) (by decide +kernel)), rfl⟩
theorem tw236 : (.fieldLink RX7 25 "PuzzleWed$Tape" "bytes" "[I" : Cond) ∈ TBG := List.mem_filter.mpr ⟨in_t1 _ (List.mem_of_getElem? (i := 126) (by decide +kernel)), rfl⟩
theorem tw237 : (.fieldLink RX11 338 "PuzzleWed$Tape" "bytes" "[I" : Cond) ∈ TBG := List.mem_filter.mpr ⟨in_t1 _ (List.mem_of_getElem? (i := 127) (by decide +kernel)), rfl⟩
theorem tw238 : (.fieldLink RX10 15 "PuzzleWed$Tape" "length" "I" : Cond) ∈ TBG := List.mem_filter.mpr ⟨in_t1 _ (List.mem_of_getElem? (i := 128) (by decide +kernel)), rfl⟩
theorem tw239 : (.fieldLink RX11 141 "PuzzleWed$Tape" "length" "I" : Cond) ∈ TBG := List.mem_filter.mpr ⟨in_t1 _ (List.mem_of_getElem? (i := 129) (by decide +kernel)), rfl⟩
theorem tw248 : (.instanceMethod yX4_init : Cond) ∈ TBG := List.mem_filter.mpr ⟨in_t1 _ (List.mem_of_getElem? (i := 138) (by decide +kernel)), rfl⟩
set_option maxRecDepth 20000 in
theorem tw249 : (.code yX4_init cX4_init 1 (none) : Cond) ∈ TBG := List.mem_filter.mpr ⟨in_t1 _ (List.mem_of_getElem? (i := 139) rfl), rfl⟩
theorem tw251 : (.fieldLink RX4 11 "PuzzleWed$Law" "code" "[I" : Cond) ∈ TBG := List.mem_filter.mpr ⟨in_t1 _ (List.mem_of_getElem? (i := 141) (by decide +kernel)), rfl⟩
theorem tw252 : (.fieldLink RX5 92 "PuzzleWed$Law" "code" "[I" : Cond) ∈ TBG := List.mem_filter.mpr ⟨in_t1 _ (List.mem_of_getElem? (i := 142) (by decide +kernel)), rfl⟩
theorem tw253 : (.fieldLink RX4 15 "PuzzleWed$Law" "letter" "[I" : Cond) ∈ TBG := List.mem_filter.mpr ⟨in_t1 _ (List.mem_of_getElem? (i := 143) (by decide +kernel)), rfl⟩
theorem tw254 : (.fieldLink RX5 54 "PuzzleWed$Law" "letter" "[I" : Cond) ∈ TBG := List.mem_filter.mpr ⟨in_t1 _ (List.mem_of_getElem? (i := 144) (by decide +kernel)), rfl⟩
theorem tw255 : (.fieldLink RX2 83 "PuzzleWed$Law" "letter" "[I" : Cond) ∈ TBG := List.mem_filter.mpr ⟨in_t1 _ (List.mem_of_getElem? (i := 145) (by decide +kernel)), rfl⟩
theorem tw256 : (.fieldLink RX4 18 "PuzzleWed$Law" "worthAt" "[I" : Cond) ∈ TBG := List.mem_filter.mpr ⟨in_t1 _ (List.mem_of_getElem? (i := 146) (by decide +kernel)), rfl⟩
theorem tw257 : (.fieldLink RX5 58 "PuzzleWed$Law" "worthAt" "[I" : Cond) ∈ TBG := List.mem_filter.mpr ⟨in_t1 _ (List.mem_of_getElem? (i := 147) (by decide +kernel)), rfl⟩
theorem tw258 : (.fieldLink RX2 93 "PuzzleWed$Law" "worthAt" "[I" : Cond) ∈ TBG := List.mem_filter.mpr ⟨in_t1 _ (List.mem_of_getElem? (i := 148) (by decide +kernel)), rfl⟩
theorem tw259 : (.fieldLink RX4 21 "PuzzleWed$Law" "whenAt" "[I" : Cond) ∈ TBG := List.mem_filter.mpr ⟨in_t1 _ (List.mem_of_getElem? (i := 149) (by decide +kernel)), rfl⟩
theorem tw260 : (.fieldLink RX5 67 "PuzzleWed$Law" "whenAt" "[I" : Cond) ∈ TBG := List.mem_filter.mpr ⟨in_t1 _ (List.mem_of_getElem? (i := 150) (by decide +kernel)), rfl⟩
theorem tw261 : (.fieldLink RX2 86 "PuzzleWed$Law" "whenAt" "[I" : Cond) ∈ TBG := List.mem_filter.mpr ⟨in_t1 _ (List.mem_of_getElem? (i := 151) (by decide +kernel)), rfl⟩
theorem tw262 : (.fieldLink RX4 24 "PuzzleWed$Law" "stack" "[I" : Cond) ∈ TBG := List.mem_filter.mpr ⟨in_t1 _ (List.mem_of_getElem? (i := 152) (by decide +kernel)), rfl⟩
theorem tw263 : (.fieldLink RX4 27 "PuzzleWed$Law" "used" "I" : Cond) ∈ TBG := List.mem_filter.mpr ⟨in_t1 _ (List.mem_of_getElem? (i := 153) (by decide +kernel)), rfl⟩
theorem tw264 : (.fieldLink RX5 19 "PuzzleWed$Law" "used" "I" : Cond) ∈ TBG := List.mem_filter.mpr ⟨in_t1 _ (List.mem_of_getElem? (i := 154) (by decide +kernel)), rfl⟩
theorem tw265 : (.fieldLink RX5 25 "PuzzleWed$Law" "clauses" "I" : Cond) ∈ TBG := List.mem_filter.mpr ⟨in_t1 _ (List.mem_of_getElem? (i := 155) (by decide +kernel)), rfl⟩
theorem tw266 : (.fieldLink RX4 37 "PuzzleWed$Law" "clauses" "I" : Cond) ∈ TBG := List.mem_filter.mpr ⟨in_t1 _ (List.mem_of_getElem? (i := 156) (by decide +kernel)), rfl⟩
theorem tw267 : (.fieldLink RX11 156 "PuzzleWed$Law" "clauses" "I" : Cond) ∈ TBG := List.mem_filter.mpr ⟨in_t1 _ (List.mem_of_getElem? (i := 157) (by decide +kernel)), rfl⟩
theorem tw268 : (.fieldLink RX2 77 "PuzzleWed$Law" "clauses" "I" : Cond) ∈ TBG := List.mem_filter.mpr ⟨in_t1 _ (List.mem_of_getElem? (i := 158) (by decide +kernel)), rfl⟩
theorem tw287 : (.instanceMethod yX5_init : Cond) ∈ TBG := List.mem_filter.mpr ⟨in_t1 _ (List.mem_of_getElem? (i := 177) (by decide +kernel)), rfl⟩
set_option maxRecDepth 20000 in
theorem tw288 : (.code yX5_init cX5_init 3 (none) : Cond) ∈ TBG := List.mem_filter.mpr ⟨in_t1 _ (List.mem_of_getElem? (i := 178) rfl), rfl⟩
theorem tw290 : (.instanceMethod yX7_init : Cond) ∈ TBG := List.mem_filter.mpr ⟨in_t1 _ (List.mem_of_getElem? (i := 180) (by decide +kernel)), rfl⟩
set_option maxRecDepth 20000 in
theorem tw291 : (.code yX7_init cX7_init 2 (none) : Cond) ∈ TBG := List.mem_filter.mpr ⟨in_t1 _ (List.mem_of_getElem? (i := 181) rfl), rfl⟩
theorem tw293 : (.fieldLink RX5 9 "PuzzleWed$LawReader" "draft" "LPuzzleWed$Law;" : Cond) ∈ TBG := List.mem_filter.mpr ⟨in_t1 _ (List.mem_of_getElem? (i := 183) (by decide +kernel)), rfl⟩
theorem tw294 : (.fieldLink RX7 9 "PuzzleWed$Reader" "tape" "LPuzzleWed$Tape;" : Cond) ∈ TBG := List.mem_filter.mpr ⟨in_t1 _ (List.mem_of_getElem? (i := 184) (by decide +kernel)), rfl⟩
theorem tw295 : (.fieldLink RX7 15 "PuzzleWed$Reader" "length" "I" : Cond) ∈ TBG := List.mem_filter.mpr ⟨in_t1 _ (List.mem_of_getElem? (i := 185) (by decide +kernel)), rfl⟩
theorem tw296 : (.fieldLink RX5 76 "PuzzleWed$LawReader" "length" "I" : Cond) ∈ TBG := List.mem_filter.mpr ⟨in_t1 _ (List.mem_of_getElem? (i := 186) (by decide +kernel)), rfl⟩
theorem tw297 : (.sameField "PuzzleWed$LawReader" "PuzzleWed$Reader" "length" "I" : Cond) ∈ TBG := List.mem_filter.mpr ⟨in_t1 _ (List.mem_of_getElem? (i := 187) (by decide +kernel)), rfl⟩
theorem tw298 : (.fieldLink RX7 19 "PuzzleWed$Reader" "at" "I" : Cond) ∈ TBG := List.mem_filter.mpr ⟨in_t1 _ (List.mem_of_getElem? (i := 188) (by decide +kernel)), rfl⟩
theorem tw299 : (.fieldLink RX6 23 "PuzzleWed$ListReader" "at" "I" : Cond) ∈ TBG := List.mem_filter.mpr ⟨in_t1 _ (List.mem_of_getElem? (i := 189) (by decide +kernel)), rfl⟩
theorem tw300 : (.sameField "PuzzleWed$ListReader" "PuzzleWed$Reader" "at" "I" : Cond) ∈ TBG := List.mem_filter.mpr ⟨in_t1 _ (List.mem_of_getElem? (i := 190) (by decide +kernel)), rfl⟩
theorem tw301 : (.fieldLink RX5 43 "PuzzleWed$LawReader" "at" "I" : Cond) ∈ TBG := List.mem_filter.mpr ⟨in_t1 _ (List.mem_of_getElem? (i := 191) (by decide +kernel)), rfl⟩
theorem tw302 : (.sameField "PuzzleWed$LawReader" "PuzzleWed$Reader" "at" "I" : Cond) ∈ TBG := List.mem_filter.mpr ⟨in_t1 _ (List.mem_of_getElem? (i := 192) (by decide +kernel)), rfl⟩
theorem tw303 : (.fieldLink RX7 22 "PuzzleWed$Reader" "fault" "I" : Cond) ∈ TBG := List.mem_filter.mpr ⟨in_t1 _ (List.mem_of_getElem? (i := 193) (by decide +kernel)), rfl⟩
theorem tw304 : (.fieldLink RX11 150 "PuzzleWed$LawReader" "fault" "I" : Cond) ∈ TBG := List.mem_filter.mpr ⟨in_t1 _ (List.mem_of_getElem? (i := 194) (by decide +kernel)), rfl⟩
theorem tw305 : (.sameField "PuzzleWed$LawReader" "PuzzleWed$Reader" "fault" "I" : Cond) ∈ TBG := List.mem_filter.mpr ⟨in_t1 _ (List.mem_of_getElem? (i := 195) (by decide +kernel)), rfl⟩
theorem tw306 : (.fieldLink RX11 162 "PuzzleWed$ListReader" "fault" "I" : Cond) ∈ TBG := List.mem_filter.mpr ⟨in_t1 _ (List.mem_of_getElem? (i := 196) (by decide +kernel)), rfl⟩
theorem tw307 : (.sameField "PuzzleWed$ListReader" "PuzzleWed$Reader" "fault" "I" : Cond) ∈ TBG := List.mem_filter.mpr ⟨in_t1 _ (List.mem_of_getElem? (i := 197) (by decide +kernel)), rfl⟩
theorem tw322 : (.instanceMethod yX6_init : Cond) ∈ TBG := List.mem_filter.mpr ⟨in_t1 _ (List.mem_of_getElem? (i := 212) (by decide +kernel)), rfl⟩
set_option maxRecDepth 20000 in
theorem tw323 : (.code yX6_init cX6_init 2 (none) : Cond) ∈ TBG := List.mem_filter.mpr ⟨in_t1 _ (List.mem_of_getElem? (i := 213) rfl), rfl⟩
theorem tw325 : (.fieldLink RX6 9 "PuzzleWed$ListReader" "list" "[I" : Cond) ∈ TBG := List.mem_filter.mpr ⟨in_t1 _ (List.mem_of_getElem? (i := 215) (by decide +kernel)), rfl⟩
theorem tw326 : (.fieldLink RX11 167 "PuzzleWed$ListReader" "list" "[I" : Cond) ∈ TBG := List.mem_filter.mpr ⟨in_t1 _ (List.mem_of_getElem? (i := 216) (by decide +kernel)), rfl⟩
theorem tw327 : (.fieldLink RX6 19 "PuzzleWed$ListReader" "filled" "I" : Cond) ∈ TBG := List.mem_filter.mpr ⟨in_t1 _ (List.mem_of_getElem? (i := 217) (by decide +kernel)), rfl⟩
theorem tw328 : (.fieldLink RX11 191 "PuzzleWed$ListReader" "filled" "I" : Cond) ∈ TBG := List.mem_filter.mpr ⟨in_t1 _ (List.mem_of_getElem? (i := 218) (by decide +kernel)), rfl⟩
theorem tw329 : (.fieldLink RX6 55 "PuzzleWed$ListReader" "value" "I" : Cond) ∈ TBG := List.mem_filter.mpr ⟨in_t1 _ (List.mem_of_getElem? (i := 219) (by decide +kernel)), rfl⟩
theorem tw330 : (.fieldLink RX6 34 "PuzzleWed$ListReader" "times" "I" : Cond) ∈ TBG := List.mem_filter.mpr ⟨in_t1 _ (List.mem_of_getElem? (i := 220) (by decide +kernel)), rfl⟩
theorem tw347 : (.instanceMethod yX2_init : Cond) ∈ TBG := List.mem_filter.mpr ⟨in_t1 _ (List.mem_of_getElem? (i := 237) (by decide +kernel)), rfl⟩
set_option maxRecDepth 20000 in
theorem tw348 : (.code yX2_init cX2_init 2 (none) : Cond) ∈ TBG := List.mem_filter.mpr ⟨in_t1 _ (List.mem_of_getElem? (i := 238) rfl), rfl⟩
theorem tw350 : (.fieldLink RX2 9 "PuzzleWed$Judge" "law" "LPuzzleWed$Law;" : Cond) ∈ TBG := List.mem_filter.mpr ⟨in_t2 _ (List.mem_of_getElem? (i := 0) (by decide +kernel)), rfl⟩
theorem tw351 : (.fieldLink RX2 15 "PuzzleWed$Judge" "letters" "[I" : Cond) ∈ TBG := List.mem_filter.mpr ⟨in_t2 _ (List.mem_of_getElem? (i := 1) (by decide +kernel)), rfl⟩
theorem tw360 : (.instanceMethod yX1_init : Cond) ∈ TBG := List.mem_filter.mpr ⟨in_t2 _ (List.mem_of_getElem? (i := 10) (by decide +kernel)), rfl⟩
set_option maxRecDepth 20000 in
theorem tw361 : (.code yX1_init cX1_init 2 (none) : Cond) ∈ TBG := List.mem_filter.mpr ⟨in_t2 _ (List.mem_of_getElem? (i := 11) rfl), rfl⟩
theorem tw363 : (.fieldLink RX1 9 "PuzzleWed$Course" "judge" "LPuzzleWed$Judge;" : Cond) ∈ TBG := List.mem_filter.mpr ⟨in_t2 _ (List.mem_of_getElem? (i := 13) (by decide +kernel)), rfl⟩
theorem tw364 : (.fieldLink RX1 15 "PuzzleWed$Course" "wed" "I" : Cond) ∈ TBG := List.mem_filter.mpr ⟨in_t2 _ (List.mem_of_getElem? (i := 14) (by decide +kernel)), rfl⟩
theorem tw365 : (.fieldLink RX11 201 "PuzzleWed$Course" "wed" "I" : Cond) ∈ TBG := List.mem_filter.mpr ⟨in_t2 _ (List.mem_of_getElem? (i := 15) (by decide +kernel)), rfl⟩
theorem tw366 : (.fieldLink RX1 19 "PuzzleWed$Course" "tries" "I" : Cond) ∈ TBG := List.mem_filter.mpr ⟨in_t2 _ (List.mem_of_getElem? (i := 16) (by decide +kernel)), rfl⟩
theorem tw367 : (.fieldLink RX11 210 "PuzzleWed$Course" "tries" "I" : Cond) ∈ TBG := List.mem_filter.mpr ⟨in_t2 _ (List.mem_of_getElem? (i := 17) (by decide +kernel)), rfl⟩
theorem tw368 : (.fieldLink RX1 22 "PuzzleWed$Course" "parted" "I" : Cond) ∈ TBG := List.mem_filter.mpr ⟨in_t2 _ (List.mem_of_getElem? (i := 18) (by decide +kernel)), rfl⟩
theorem tw369 : (.fieldLink RX11 213 "PuzzleWed$Course" "parted" "I" : Cond) ∈ TBG := List.mem_filter.mpr ⟨in_t2 _ (List.mem_of_getElem? (i := 19) (by decide +kernel)), rfl⟩
theorem tw382 : (.instanceMethod yX0_init : Cond) ∈ TBG := List.mem_filter.mpr ⟨in_t2 _ (List.mem_of_getElem? (i := 32) (by decide +kernel)), rfl⟩
set_option maxRecDepth 20000 in
theorem tw383 : (.code yX0_init cX0_init 2 (none) : Cond) ∈ TBG := List.mem_filter.mpr ⟨in_t2 _ (List.mem_of_getElem? (i := 33) rfl), rfl⟩
theorem tw386 : (.fieldLink RX0 9 "PuzzleWed$Couples" "judge" "LPuzzleWed$Judge;" : Cond) ∈ TBG := List.mem_filter.mpr ⟨in_t2 _ (List.mem_of_getElem? (i := 36) (by decide +kernel)), rfl⟩
theorem tw387 : (.fieldLink RX0 15 "PuzzleWed$Couples" "partner" "[I" : Cond) ∈ TBG := List.mem_filter.mpr ⟨in_t2 _ (List.mem_of_getElem? (i := 37) (by decide +kernel)), rfl⟩
theorem tw388 : (.fieldLink RX11 266 "PuzzleWed$Couples" "partner" "[I" : Cond) ∈ TBG := List.mem_filter.mpr ⟨in_t2 _ (List.mem_of_getElem? (i := 38) (by decide +kernel)), rfl⟩
theorem tw389 : (.fieldLink RX0 43 "PuzzleWed$Couples" "twos" "I" : Cond) ∈ TBG := List.mem_filter.mpr ⟨in_t2 _ (List.mem_of_getElem? (i := 39) (by decide +kernel)), rfl⟩
theorem tw390 : (.fieldLink RX11 260 "PuzzleWed$Couples" "twos" "I" : Cond) ∈ TBG := List.mem_filter.mpr ⟨in_t2 _ (List.mem_of_getElem? (i := 40) (by decide +kernel)), rfl⟩
theorem tw391 : (.fieldLink RX0 46 "PuzzleWed$Couples" "slackSum" "I" : Cond) ∈ TBG := List.mem_filter.mpr ⟨in_t2 _ (List.mem_of_getElem? (i := 41) (by decide +kernel)), rfl⟩
theorem tw392 : (.fieldLink RX11 263 "PuzzleWed$Couples" "slackSum" "I" : Cond) ∈ TBG := List.mem_filter.mpr ⟨in_t2 _ (List.mem_of_getElem? (i := 42) (by decide +kernel)), rfl⟩
theorem tw393 : (.fieldLink RX0 19 "PuzzleWed$Couples" "ones" "[I" : Cond) ∈ TBG := List.mem_filter.mpr ⟨in_t2 _ (List.mem_of_getElem? (i := 43) (by decide +kernel)), rfl⟩
theorem tw394 : (.fieldLink RX0 22 "PuzzleWed$Couples" "others" "[I" : Cond) ∈ TBG := List.mem_filter.mpr ⟨in_t2 _ (List.mem_of_getElem? (i := 44) (by decide +kernel)), rfl⟩
theorem tw395 : (.fieldLink RX0 36 "PuzzleWed$Couples" "oneCount" "I" : Cond) ∈ TBG := List.mem_filter.mpr ⟨in_t2 _ (List.mem_of_getElem? (i := 45) (by decide +kernel)), rfl⟩
theorem tw396 : (.fieldLink RX0 40 "PuzzleWed$Couples" "otherCount" "I" : Cond) ∈ TBG := List.mem_filter.mpr ⟨in_t2 _ (List.mem_of_getElem? (i := 46) (by decide +kernel)), rfl⟩
theorem tw397 : (.fieldLink RX0 27 "PuzzleWed$Couples" "bond" "[[I" : Cond) ∈ TBG := List.mem_filter.mpr ⟨in_t2 _ (List.mem_of_getElem? (i := 47) (by decide +kernel)), rfl⟩
theorem tw398 : (.fieldLink RX0 30 "PuzzleWed$Couples" "best" "[I" : Cond) ∈ TBG := List.mem_filter.mpr ⟨in_t2 _ (List.mem_of_getElem? (i := 48) (by decide +kernel)), rfl⟩
theorem tw399 : (.fieldLink RX0 33 "PuzzleWed$Couples" "asked" "[I" : Cond) ∈ TBG := List.mem_filter.mpr ⟨in_t2 _ (List.mem_of_getElem? (i := 49) (by decide +kernel)), rfl⟩
theorem tw426 : (.instanceMethod yX9_init : Cond) ∈ TBG := List.mem_filter.mpr ⟨in_t2 _ (List.mem_of_getElem? (i := 76) (by decide +kernel)), rfl⟩
set_option maxRecDepth 20000 in
theorem tw427 : (.code yX9_init cX9_init 2 (none) : Cond) ∈ TBG := List.mem_filter.mpr ⟨in_t2 _ (List.mem_of_getElem? (i := 77) rfl), rfl⟩
theorem tw430 : (.fieldLink RX9 9 "PuzzleWed$Search" "tape" "LPuzzleWed$Tape;" : Cond) ∈ TBG := List.mem_filter.mpr ⟨in_t2 _ (List.mem_of_getElem? (i := 80) (by decide +kernel)), rfl⟩
theorem tw431 : (.fieldLink RX9 39 "PuzzleWed$Search" "towns" "I" : Cond) ∈ TBG := List.mem_filter.mpr ⟨in_t2 _ (List.mem_of_getElem? (i := 81) (by decide +kernel)), rfl⟩
theorem tw432 : (.fieldLink RX9 15 "PuzzleWed$Search" "weight" "[I" : Cond) ∈ TBG := List.mem_filter.mpr ⟨in_t2 _ (List.mem_of_getElem? (i := 82) (by decide +kernel)), rfl⟩
theorem tw433 : (.fieldLink RX9 21 "PuzzleWed$Search" "travel" "[[I" : Cond) ∈ TBG := List.mem_filter.mpr ⟨in_t2 _ (List.mem_of_getElem? (i := 83) (by decide +kernel)), rfl⟩
theorem tw434 : (.fieldLink RX9 24 "PuzzleWed$Search" "order" "[I" : Cond) ∈ TBG := List.mem_filter.mpr ⟨in_t2 _ (List.mem_of_getElem? (i := 84) (by decide +kernel)), rfl⟩
theorem tw435 : (.fieldLink RX9 27 "PuzzleWed$Search" "bestOrder" "[I" : Cond) ∈ TBG := List.mem_filter.mpr ⟨in_t2 _ (List.mem_of_getElem? (i := 85) (by decide +kernel)), rfl⟩
theorem tw436 : (.fieldLink RX11 285 "PuzzleWed$Search" "bestOrder" "[I" : Cond) ∈ TBG := List.mem_filter.mpr ⟨in_t2 _ (List.mem_of_getElem? (i := 86) (by decide +kernel)), rfl⟩
theorem tw437 : (.fieldLink RX9 51 "PuzzleWed$Search" "bestSum" "I" : Cond) ∈ TBG := List.mem_filter.mpr ⟨in_t2 _ (List.mem_of_getElem? (i := 87) (by decide +kernel)), rfl⟩
theorem tw438 : (.fieldLink RX9 43 "PuzzleWed$Search" "weights" "I" : Cond) ∈ TBG := List.mem_filter.mpr ⟨in_t2 _ (List.mem_of_getElem? (i := 88) (by decide +kernel)), rfl⟩
theorem tw459 : (.instanceMethod yX8_init : Cond) ∈ TBG := List.mem_filter.mpr ⟨in_t2 _ (List.mem_of_getElem? (i := 109) (by decide +kernel)), rfl⟩
set_option maxRecDepth 20000 in
theorem tw460 : (.code yX8_init cX8_init 1 (none) : Cond) ∈ TBG := List.mem_filter.mpr ⟨in_t2 _ (List.mem_of_getElem? (i := 110) rfl), rfl⟩
theorem tw462 : (.fieldLink RX8 9 "PuzzleWed$Sander" "made" "[I" : Cond) ∈ TBG := List.mem_filter.mpr ⟨in_t2 _ (List.mem_of_getElem? (i := 112) (by decide +kernel)), rfl⟩
theorem tw463 : (.fieldLink RX11 308 "PuzzleWed$Sander" "made" "[I" : Cond) ∈ TBG := List.mem_filter.mpr ⟨in_t2 _ (List.mem_of_getElem? (i := 113) (by decide +kernel)), rfl⟩
theorem tw464 : (.fieldLink RX8 81 "PuzzleWed$Sander" "done" "Z" : Cond) ∈ TBG := List.mem_filter.mpr ⟨in_t2 _ (List.mem_of_getElem? (i := 114) (by decide +kernel)), rfl⟩
theorem tw465 : (.fieldLink RX11 302 "PuzzleWed$Sander" "done" "Z" : Cond) ∈ TBG := List.mem_filter.mpr ⟨in_t2 _ (List.mem_of_getElem? (i := 115) (by decide +kernel)), rfl⟩
theorem tw466 : (.fieldLink RX8 85 "PuzzleWed$Sander" "work" "I" : Cond) ∈ TBG := List.mem_filter.mpr ⟨in_t2 _ (List.mem_of_getElem? (i := 116) (by decide +kernel)), rfl⟩
theorem tw467 : (.fieldLink RX11 305 "PuzzleWed$Sander" "work" "I" : Cond) ∈ TBG := List.mem_filter.mpr ⟨in_t2 _ (List.mem_of_getElem? (i := 117) (by decide +kernel)), rfl⟩
theorem tw468 : (.fieldLink RX8 94 "PuzzleWed$Sander" "turns" "I" : Cond) ∈ TBG := List.mem_filter.mpr ⟨in_t2 _ (List.mem_of_getElem? (i := 118) (by decide +kernel)), rfl⟩
theorem tw469 : (.fieldLink RX11 323 "PuzzleWed$Sander" "turns" "I" : Cond) ∈ TBG := List.mem_filter.mpr ⟨in_t2 _ (List.mem_of_getElem? (i := 119) (by decide +kernel)), rfl⟩
theorem tw470 : (.fieldLink RX8 97 "PuzzleWed$Sander" "raising" "I" : Cond) ∈ TBG := List.mem_filter.mpr ⟨in_t2 _ (List.mem_of_getElem? (i := 120) (by decide +kernel)), rfl⟩
theorem tw471 : (.fieldLink RX11 326 "PuzzleWed$Sander" "raising" "I" : Cond) ∈ TBG := List.mem_filter.mpr ⟨in_t2 _ (List.mem_of_getElem? (i := 121) (by decide +kernel)), rfl⟩
theorem tw472 : (.fieldLink RX8 25 "PuzzleWed$Sander" "least" "[J" : Cond) ∈ TBG := List.mem_filter.mpr ⟨in_t2 _ (List.mem_of_getElem? (i := 122) (by decide +kernel)), rfl⟩
theorem tw473 : (.fieldLink RX8 15 "PuzzleWed$Sander" "cost" "[J" : Cond) ∈ TBG := List.mem_filter.mpr ⟨in_t2 _ (List.mem_of_getElem? (i := 123) (by decide +kernel)), rfl⟩
theorem tw474 : (.fieldLink RX8 19 "PuzzleWed$Sander" "gapOne" "[I" : Cond) ∈ TBG := List.mem_filter.mpr ⟨in_t2 _ (List.mem_of_getElem? (i := 124) (by decide +kernel)), rfl⟩
theorem tw475 : (.fieldLink RX8 22 "PuzzleWed$Sander" "gapOther" "[I" : Cond) ∈ TBG := List.mem_filter.mpr ⟨in_t2 _ (List.mem_of_getElem? (i := 125) (by decide +kernel)), rfl⟩
theorem tw476 : (.fieldLink RX8 63 "PuzzleWed$Sander" "low" "I" : Cond) ∈ TBG := List.mem_filter.mpr ⟨in_t2 _ (List.mem_of_getElem? (i := 126) (by decide +kernel)), rfl⟩
theorem tw477 : (.fieldLink RX8 67 "PuzzleWed$Sander" "high" "I" : Cond) ∈ TBG := List.mem_filter.mpr ⟨in_t2 _ (List.mem_of_getElem? (i := 127) (by decide +kernel)), rfl⟩
theorem tw502 : (.fieldLink RX11 12 "PuzzleWed" "land" "LPuzzleWed$Land;" : Cond) ∈ TBG := List.mem_filter.mpr ⟨in_t2 _ (List.mem_of_getElem? (i := 152) (by decide +kernel)), rfl⟩
theorem tw503 : (.fieldLink RX11 16 "PuzzleWed" "kept" "LPuzzleWed$Land;" : Cond) ∈ TBG := List.mem_filter.mpr ⟨in_t2 _ (List.mem_of_getElem? (i := 153) (by decide +kernel)), rfl⟩
theorem tw504 : (.fieldLink RX11 19 "PuzzleWed" "trial" "LPuzzleWed$Land;" : Cond) ∈ TBG := List.mem_filter.mpr ⟨in_t2 _ (List.mem_of_getElem? (i := 154) (by decide +kernel)), rfl⟩
theorem tw505 : (.fieldLink RX11 22 "PuzzleWed" "hasKept" "Z" : Cond) ∈ TBG := List.mem_filter.mpr ⟨in_t2 _ (List.mem_of_getElem? (i := 155) (by decide +kernel)), rfl⟩
theorem tw506 : (.fieldLink RX11 29 "PuzzleWed" "tape" "LPuzzleWed$Tape;" : Cond) ∈ TBG := List.mem_filter.mpr ⟨in_t2 _ (List.mem_of_getElem? (i := 156) (by decide +kernel)), rfl⟩
theorem tw507 : (.fieldLink RX11 36 "PuzzleWed" "law" "LPuzzleWed$Law;" : Cond) ∈ TBG := List.mem_filter.mpr ⟨in_t2 _ (List.mem_of_getElem? (i := 157) (by decide +kernel)), rfl⟩
theorem tw508 : (.fieldLink RX11 40 "PuzzleWed" "draft" "LPuzzleWed$Law;" : Cond) ∈ TBG := List.mem_filter.mpr ⟨in_t2 _ (List.mem_of_getElem? (i := 158) (by decide +kernel)), rfl⟩
theorem tw509 : (.fieldLink RX11 48 "PuzzleWed" "lawReader" "LPuzzleWed$LawReader;" : Cond) ∈ TBG := List.mem_filter.mpr ⟨in_t2 _ (List.mem_of_getElem? (i := 159) (by decide +kernel)), rfl⟩
theorem tw510 : (.fieldLink RX11 57 "PuzzleWed" "listReader" "LPuzzleWed$ListReader;" : Cond) ∈ TBG := List.mem_filter.mpr ⟨in_t2 _ (List.mem_of_getElem? (i := 160) (by decide +kernel)), rfl⟩
theorem tw511 : (.fieldLink RX11 66 "PuzzleWed" "judge" "LPuzzleWed$Judge;" : Cond) ∈ TBG := List.mem_filter.mpr ⟨in_t2 _ (List.mem_of_getElem? (i := 161) (by decide +kernel)), rfl⟩
theorem tw512 : (.fieldLink RX11 75 "PuzzleWed" "course" "LPuzzleWed$Course;" : Cond) ∈ TBG := List.mem_filter.mpr ⟨in_t2 _ (List.mem_of_getElem? (i := 162) (by decide +kernel)), rfl⟩
theorem tw513 : (.fieldLink RX11 82 "PuzzleWed" "couples" "LPuzzleWed$Couples;" : Cond) ∈ TBG := List.mem_filter.mpr ⟨in_t2 _ (List.mem_of_getElem? (i := 163) (by decide +kernel)), rfl⟩
theorem tw514 : (.fieldLink RX11 89 "PuzzleWed" "quest" "LPuzzleWed$Search;" : Cond) ∈ TBG := List.mem_filter.mpr ⟨in_t2 _ (List.mem_of_getElem? (i := 164) (by decide +kernel)), rfl⟩
theorem tw515 : (.fieldLink RX11 96 "PuzzleWed" "sander" "LPuzzleWed$Sander;" : Cond) ∈ TBG := List.mem_filter.mpr ⟨in_t2 _ (List.mem_of_getElem? (i := 165) (by decide +kernel)), rfl⟩
theorem tw516 : (.fieldLink RX11 100 "PuzzleWed" "row" "[I" : Cond) ∈ TBG := List.mem_filter.mpr ⟨in_t2 _ (List.mem_of_getElem? (i := 166) (by decide +kernel)), rfl⟩
theorem tw548 : (.methodLink RL 13 yX11_person : Cond) ∈ TBG := List.mem_filter.mpr ⟨in_t2 _ (List.mem_of_getElem? (i := 198) (by decide +kernel)), rfl⟩
theorem tw549 : (.instanceMethod yX11_person : Cond) ∈ TBG := List.mem_filter.mpr ⟨in_t2 _ (List.mem_of_getElem? (i := 199) (by decide +kernel)), rfl⟩
theorem tw550 : (.selects RX11 yX11_person yX11_person : Cond) ∈ TBG := List.mem_filter.mpr ⟨in_t2 _ (List.mem_of_getElem? (i := 200) (by decide +kernel)), rfl⟩
set_option maxRecDepth 20000 in
theorem tw551 : (.code yX11_person cX11_person 4 (some .boolean) : Cond) ∈ TBG := List.mem_filter.mpr ⟨in_t2 _ (List.mem_of_getElem? (i := 201) rfl), rfl⟩
theorem tw552 : (.methodLink RX11 104 yX11_isNumber : Cond) ∈ TBG := List.mem_filter.mpr ⟨in_t2 _ (List.mem_of_getElem? (i := 202) (by decide +kernel)), rfl⟩
theorem tw553 : (.static yX11_isNumber : Cond) ∈ TBG := List.mem_filter.mpr ⟨in_t2 _ (List.mem_of_getElem? (i := 203) (by decide +kernel)), rfl⟩
set_option maxRecDepth 20000 in
theorem tw554 : (.code yX11_isNumber cX11_isNumber 1 (some .boolean) : Cond) ∈ TBG := List.mem_filter.mpr ⟨in_t2 _ (List.mem_of_getElem? (i := 204) rfl), rfl⟩
theorem tw555 : (.methodLink RX11 108 yX3_isTold : Cond) ∈ TBG := List.mem_filter.mpr ⟨in_t2 _ (List.mem_of_getElem? (i := 205) (by decide +kernel)), rfl⟩
theorem tw556 : (.instanceMethod yX3_isTold : Cond) ∈ TBG := List.mem_filter.mpr ⟨in_t2 _ (List.mem_of_getElem? (i := 206) (by decide +kernel)), rfl⟩
theorem tw557 : (.selects RX3 yX3_isTold yX3_isTold : Cond) ∈ TBG := List.mem_filter.mpr ⟨in_t2 _ (List.mem_of_getElem? (i := 207) (by decide +kernel)), rfl⟩
set_option maxRecDepth 20000 in
theorem tw558 : (.code yX3_isTold cX3_isTold 2 (some .boolean) : Cond) ∈ TBG := List.mem_filter.mpr ⟨in_t2 _ (List.mem_of_getElem? (i := 208) rfl), rfl⟩
theorem tw560 : (.methodLink RL 18 yX11_wear : Cond) ∈ TBG := List.mem_filter.mpr ⟨in_t2 _ (List.mem_of_getElem? (i := 210) (by decide +kernel)), rfl⟩
theorem tw561 : (.instanceMethod yX11_wear : Cond) ∈ TBG := List.mem_filter.mpr ⟨in_t2 _ (List.mem_of_getElem? (i := 211) (by decide +kernel)), rfl⟩
theorem tw562 : (.selects RX11 yX11_wear yX11_wear : Cond) ∈ TBG := List.mem_filter.mpr ⟨in_t2 _ (List.mem_of_getElem? (i := 212) (by decide +kernel)), rfl⟩
set_option maxRecDepth 20000 in
theorem tw563 : (.code yX11_wear cX11_wear 3 (some .boolean) : Cond) ∈ TBG := List.mem_filter.mpr ⟨in_t2 _ (List.mem_of_getElem? (i := 213) rfl), rfl⟩
theorem tw564 : (.methodLink RL 23 yX11_dies : Cond) ∈ TBG := List.mem_filter.mpr ⟨in_t2 _ (List.mem_of_getElem? (i := 214) (by decide +kernel)), rfl⟩
theorem tw565 : (.instanceMethod yX11_dies : Cond) ∈ TBG := List.mem_filter.mpr ⟨in_t2 _ (List.mem_of_getElem? (i := 215) (by decide +kernel)), rfl⟩
theorem tw566 : (.selects RX11 yX11_dies yX11_dies : Cond) ∈ TBG := List.mem_filter.mpr ⟨in_t2 _ (List.mem_of_getElem? (i := 216) (by decide +kernel)), rfl⟩
set_option maxRecDepth 20000 in
theorem tw567 : (.code yX11_dies cX11_dies 2 (some .boolean) : Cond) ∈ TBG := List.mem_filter.mpr ⟨in_t2 _ (List.mem_of_getElem? (i := 217) rfl), rfl⟩
theorem tw568 : (.methodLink RX11 127 yX3_isAlive : Cond) ∈ TBG := List.mem_filter.mpr ⟨in_t2 _ (List.mem_of_getElem? (i := 218) (by decide +kernel)), rfl⟩
theorem tw569 : (.instanceMethod yX3_isAlive : Cond) ∈ TBG := List.mem_filter.mpr ⟨in_t2 _ (List.mem_of_getElem? (i := 219) (by decide +kernel)), rfl⟩
theorem tw570 : (.selects RX3 yX3_isAlive yX3_isAlive : Cond) ∈ TBG := List.mem_filter.mpr ⟨in_t2 _ (List.mem_of_getElem? (i := 220) (by decide +kernel)), rfl⟩
set_option maxRecDepth 20000 in
theorem tw571 : (.code yX3_isAlive cX3_isAlive 2 (some .boolean) : Cond) ∈ TBG := List.mem_filter.mpr ⟨in_t2 _ (List.mem_of_getElem? (i := 221) rfl), rfl⟩
theorem tw572 : (.methodLink RX11 130 yX3_bury : Cond) ∈ TBG := List.mem_filter.mpr ⟨in_t2 _ (List.mem_of_getElem? (i := 222) (by decide +kernel)), rfl⟩
theorem tw573 : (.instanceMethod yX3_bury : Cond) ∈ TBG := List.mem_filter.mpr ⟨in_t2 _ (List.mem_of_getElem? (i := 223) (by decide +kernel)), rfl⟩
theorem tw574 : (.selects RX3 yX3_bury yX3_bury : Cond) ∈ TBG := List.mem_filter.mpr ⟨in_t2 _ (List.mem_of_getElem? (i := 224) (by decide +kernel)), rfl⟩
set_option maxRecDepth 20000 in
theorem tw575 : (.code yX3_bury cX3_bury 4 (none) : Cond) ∈ TBG := List.mem_filter.mpr ⟨in_t2 _ (List.mem_of_getElem? (i := 225) rfl), rfl⟩
theorem tw576 : (.methodLink RX3 64 yX3_separate : Cond) ∈ TBG := List.mem_filter.mpr ⟨in_t2 _ (List.mem_of_getElem? (i := 226) (by decide +kernel)), rfl⟩
theorem tw577 : (.instanceMethod yX3_separate : Cond) ∈ TBG := List.mem_filter.mpr ⟨in_t2 _ (List.mem_of_getElem? (i := 227) (by decide +kernel)), rfl⟩
theorem tw578 : (.selects RX3 yX3_separate yX3_separate : Cond) ∈ TBG := List.mem_filter.mpr ⟨in_t2 _ (List.mem_of_getElem? (i := 228) (by decide +kernel)), rfl⟩
set_option maxRecDepth 20000 in
theorem tw579 : (.code yX3_separate cX3_separate 3 (none) : Cond) ∈ TBG := List.mem_filter.mpr ⟨in_t2 _ (List.mem_of_getElem? (i := 229) rfl), rfl⟩
theorem tw580 : (.methodLink RL 28 yX11_weds : Cond) ∈ TBG := List.mem_filter.mpr ⟨in_t2 _ (List.mem_of_getElem? (i := 230) (by decide +kernel)), rfl⟩
theorem tw581 : (.instanceMethod yX11_weds : Cond) ∈ TBG := List.mem_filter.mpr ⟨in_t2 _ (List.mem_of_getElem? (i := 231) (by decide +kernel)), rfl⟩
theorem tw582 : (.selects RX11 yX11_weds yX11_weds : Cond) ∈ TBG := List.mem_filter.mpr ⟨in_t2 _ (List.mem_of_getElem? (i := 232) (by decide +kernel)), rfl⟩
set_option maxRecDepth 20000 in
theorem tw583 : (.code yX11_weds cX11_weds 3 (some .boolean) : Cond) ∈ TBG := List.mem_filter.mpr ⟨in_t2 _ (List.mem_of_getElem? (i := 233) rfl), rfl⟩
theorem tw584 : (.methodLink RX11 134 yX3_isFree : Cond) ∈ TBG := List.mem_filter.mpr ⟨in_t2 _ (List.mem_of_getElem? (i := 234) (by decide +kernel)), rfl⟩
theorem tw585 : (.instanceMethod yX3_isFree : Cond) ∈ TBG := List.mem_filter.mpr ⟨in_t2 _ (List.mem_of_getElem? (i := 235) (by decide +kernel)), rfl⟩
theorem tw586 : (.selects RX3 yX3_isFree yX3_isFree : Cond) ∈ TBG := List.mem_filter.mpr ⟨in_t2 _ (List.mem_of_getElem? (i := 236) (by decide +kernel)), rfl⟩
set_option maxRecDepth 20000 in
theorem tw587 : (.code yX3_isFree cX3_isFree 2 (some .boolean) : Cond) ∈ TBG := List.mem_filter.mpr ⟨in_t2 _ (List.mem_of_getElem? (i := 237) rfl), rfl⟩
theorem tw588 : (.methodLink RX3 61 yX3_isAlive : Cond) ∈ TBG := List.mem_filter.mpr ⟨in_t2 _ (List.mem_of_getElem? (i := 238) (by decide +kernel)), rfl⟩
theorem tw589 : (.methodLink RX11 137 yX3_join : Cond) ∈ TBG := List.mem_filter.mpr ⟨in_t2 _ (List.mem_of_getElem? (i := 239) (by decide +kernel)), rfl⟩
theorem tw590 : (.instanceMethod yX3_join : Cond) ∈ TBG := List.mem_filter.mpr ⟨in_t3 _ (List.mem_of_getElem? (i := 0) (by decide +kernel)), rfl⟩
theorem tw591 : (.selects RX3 yX3_join yX3_join : Cond) ∈ TBG := List.mem_filter.mpr ⟨in_t3 _ (List.mem_of_getElem? (i := 1) (by decide +kernel)), rfl⟩
set_option maxRecDepth 20000 in
theorem tw592 : (.code yX3_join cX3_join 3 (none) : Cond) ∈ TBG := List.mem_filter.mpr ⟨in_t3 _ (List.mem_of_getElem? (i := 2) rfl), rfl⟩
theorem tw593 : (.methodLink RL 32 yX11_feed : Cond) ∈ TBG := List.mem_filter.mpr ⟨in_t3 _ (List.mem_of_getElem? (i := 3) (by decide +kernel)), rfl⟩
theorem tw594 : (.instanceMethod yX11_feed : Cond) ∈ TBG := List.mem_filter.mpr ⟨in_t3 _ (List.mem_of_getElem? (i := 4) (by decide +kernel)), rfl⟩
theorem tw595 : (.selects RX11 yX11_feed yX11_feed : Cond) ∈ TBG := List.mem_filter.mpr ⟨in_t3 _ (List.mem_of_getElem? (i := 5) (by decide +kernel)), rfl⟩
set_option maxRecDepth 20000 in
theorem tw596 : (.code yX11_feed cX11_feed 6 (some .int) : Cond) ∈ TBG := List.mem_filter.mpr ⟨in_t3 _ (List.mem_of_getElem? (i := 6) rfl), rfl⟩
theorem tw597 : (.methodLink RX11 144 yX10_add : Cond) ∈ TBG := List.mem_filter.mpr ⟨in_t3 _ (List.mem_of_getElem? (i := 7) (by decide +kernel)), rfl⟩
theorem tw598 : (.instanceMethod yX10_add : Cond) ∈ TBG := List.mem_filter.mpr ⟨in_t3 _ (List.mem_of_getElem? (i := 8) (by decide +kernel)), rfl⟩
theorem tw599 : (.selects RX10 yX10_add yX10_add : Cond) ∈ TBG := List.mem_filter.mpr ⟨in_t3 _ (List.mem_of_getElem? (i := 9) (by decide +kernel)), rfl⟩
set_option maxRecDepth 20000 in
theorem tw600 : (.code yX10_add cX10_add 3 (none) : Cond) ∈ TBG := List.mem_filter.mpr ⟨in_t3 _ (List.mem_of_getElem? (i := 10) rfl), rfl⟩
theorem tw601 : (.methodLink RL 37 yX11_law : Cond) ∈ TBG := List.mem_filter.mpr ⟨in_t3 _ (List.mem_of_getElem? (i := 11) (by decide +kernel)), rfl⟩
theorem tw602 : (.instanceMethod yX11_law : Cond) ∈ TBG := List.mem_filter.mpr ⟨in_t3 _ (List.mem_of_getElem? (i := 12) (by decide +kernel)), rfl⟩
theorem tw603 : (.selects RX11 yX11_law yX11_law : Cond) ∈ TBG := List.mem_filter.mpr ⟨in_t3 _ (List.mem_of_getElem? (i := 13) (by decide +kernel)), rfl⟩
set_option maxRecDepth 20000 in
theorem tw604 : (.code yX11_law cX11_law 3 (some .int) : Cond) ∈ TBG := List.mem_filter.mpr ⟨in_t3 _ (List.mem_of_getElem? (i := 14) rfl), rfl⟩
theorem tw605 : (.methodLink RX11 147 yX5_readLaw : Cond) ∈ TBG := List.mem_filter.mpr ⟨in_t3 _ (List.mem_of_getElem? (i := 15) (by decide +kernel)), rfl⟩
theorem tw606 : (.instanceMethod yX5_readLaw : Cond) ∈ TBG := List.mem_filter.mpr ⟨in_t3 _ (List.mem_of_getElem? (i := 16) (by decide +kernel)), rfl⟩
theorem tw607 : (.selects RX5 yX5_readLaw yX5_readLaw : Cond) ∈ TBG := List.mem_filter.mpr ⟨in_t3 _ (List.mem_of_getElem? (i := 17) (by decide +kernel)), rfl⟩
set_option maxRecDepth 20000 in
theorem tw608 : (.code yX5_readLaw cX5_readLaw 3 (some .boolean) : Cond) ∈ TBG := List.mem_filter.mpr ⟨in_t3 _ (List.mem_of_getElem? (i := 18) rfl), rfl⟩
theorem tw609 : (.methodLink RX5 15 ⟨"PuzzleWed$LawReader", "begin", "(I)V"⟩ : Cond) ∈ TBG := List.mem_filter.mpr ⟨in_t3 _ (List.mem_of_getElem? (i := 19) (by decide +kernel)), rfl⟩
theorem tw610 : (.sameMethod RX5 RX7 "begin" "(I)V" : Cond) ∈ TBG := List.mem_filter.mpr ⟨in_t3 _ (List.mem_of_getElem? (i := 20) (by decide +kernel)), rfl⟩
theorem tw612 : (.selects RX5 ⟨"PuzzleWed$LawReader", "begin", "(I)V"⟩ yX7_begin : Cond) ∈ TBG := List.mem_filter.mpr ⟨in_t3 _ (List.mem_of_getElem? (i := 22) (by decide +kernel)), rfl⟩
theorem tw613 : (.instanceMethod yX7_begin : Cond) ∈ TBG := List.mem_filter.mpr ⟨in_t3 _ (List.mem_of_getElem? (i := 23) (by decide +kernel)), rfl⟩
set_option maxRecDepth 20000 in
theorem tw614 : (.code yX7_begin cX7_begin 2 (none) : Cond) ∈ TBG := List.mem_filter.mpr ⟨in_t3 _ (List.mem_of_getElem? (i := 24) rfl), rfl⟩
theorem tw615 : (.methodLink RX5 28 yX5_readClause : Cond) ∈ TBG := List.mem_filter.mpr ⟨in_t3 _ (List.mem_of_getElem? (i := 25) (by decide +kernel)), rfl⟩
theorem tw617 : (.instanceMethod yX5_readClause : Cond) ∈ TBG := List.mem_filter.mpr ⟨in_t3 _ (List.mem_of_getElem? (i := 27) (by decide +kernel)), rfl⟩
set_option maxRecDepth 20000 in
theorem tw618 : (.code yX5_readClause cX5_readClause 2 (some .boolean) : Cond) ∈ TBG := List.mem_filter.mpr ⟨in_t3 _ (List.mem_of_getElem? (i := 28) rfl), rfl⟩
theorem tw619 : (.methodLink RX5 32 ⟨"PuzzleWed$LawReader", "isEnd", "()Z"⟩ : Cond) ∈ TBG := List.mem_filter.mpr ⟨in_t3 _ (List.mem_of_getElem? (i := 29) (by decide +kernel)), rfl⟩
theorem tw620 : (.sameMethod RX5 RX7 "isEnd" "()Z" : Cond) ∈ TBG := List.mem_filter.mpr ⟨in_t3 _ (List.mem_of_getElem? (i := 30) (by decide +kernel)), rfl⟩
theorem tw622 : (.selects RX5 ⟨"PuzzleWed$LawReader", "isEnd", "()Z"⟩ yX7_isEnd : Cond) ∈ TBG := List.mem_filter.mpr ⟨in_t3 _ (List.mem_of_getElem? (i := 32) (by decide +kernel)), rfl⟩
theorem tw623 : (.instanceMethod yX7_isEnd : Cond) ∈ TBG := List.mem_filter.mpr ⟨in_t3 _ (List.mem_of_getElem? (i := 33) (by decide +kernel)), rfl⟩
set_option maxRecDepth 20000 in
theorem tw624 : (.code yX7_isEnd cX7_isEnd 1 (some .boolean) : Cond) ∈ TBG := List.mem_filter.mpr ⟨in_t3 _ (List.mem_of_getElem? (i := 34) rfl), rfl⟩
theorem tw626 : (.methodLink RX5 35 ⟨"PuzzleWed$LawReader", "sign", "()I"⟩ : Cond) ∈ TBG := List.mem_filter.mpr ⟨in_t3 _ (List.mem_of_getElem? (i := 36) (by decide +kernel)), rfl⟩
theorem tw627 : (.sameMethod RX5 RX7 "sign" "()I" : Cond) ∈ TBG := List.mem_filter.mpr ⟨in_t3 _ (List.mem_of_getElem? (i := 37) (by decide +kernel)), rfl⟩
theorem tw629 : (.selects RX5 ⟨"PuzzleWed$LawReader", "sign", "()I"⟩ yX7_sign : Cond) ∈ TBG := List.mem_filter.mpr ⟨in_t3 _ (List.mem_of_getElem? (i := 39) (by decide +kernel)), rfl⟩
theorem tw630 : (.instanceMethod yX7_sign : Cond) ∈ TBG := List.mem_filter.mpr ⟨in_t3 _ (List.mem_of_getElem? (i := 40) (by decide +kernel)), rfl⟩
set_option maxRecDepth 20000 in
theorem tw631 : (.code yX7_sign cX7_sign 1 (some .int) : Cond) ∈ TBG := List.mem_filter.mpr ⟨in_t3 _ (List.mem_of_getElem? (i := 41) rfl), rfl⟩
theorem tw632 : (.methodLink RX5 48 yJ0_indexOf_0f7a4 : Cond) ∈ TBG := List.mem_filter.mpr ⟨in_t3 _ (List.mem_of_getElem? (i := 42) (by decide +kernel)), rfl⟩
theorem tw633 : (.instanceMethod yJ0_indexOf_0f7a4 : Cond) ∈ TBG := List.mem_filter.mpr ⟨in_t3 _ (List.mem_of_getElem? (i := 43) (by decide +kernel)), rfl⟩
theorem tw634 : (.selects RJ0 yJ0_indexOf_0f7a4 yJ0_indexOf_0f7a4 : Cond) ∈ TBG := List.mem_filter.mpr ⟨in_t3 _ (List.mem_of_getElem? (i := 44) (by decide +kernel)), rfl⟩
set_option maxRecDepth 20000 in
theorem tw635 : (.code yJ0_indexOf_0f7a4 cJ0_indexOf_0f7a4 2 (some .int) : Cond) ∈ TBG := List.mem_filter.mpr ⟨in_t3 _ (List.mem_of_getElem? (i := 45) rfl), rfl⟩
theorem tw636 : (.methodLink RJ0 633 yJ0_indexOf_7cf53 : Cond) ∈ TBG := List.mem_filter.mpr ⟨in_t3 _ (List.mem_of_getElem? (i := 46) (by decide +kernel)), rfl⟩
theorem tw637 : (.instanceMethod yJ0_indexOf_7cf53 : Cond) ∈ TBG := List.mem_filter.mpr ⟨in_t3 _ (List.mem_of_getElem? (i := 47) (by decide +kernel)), rfl⟩
theorem tw638 : (.selects RJ0 yJ0_indexOf_7cf53 yJ0_indexOf_7cf53 : Cond) ∈ TBG := List.mem_filter.mpr ⟨in_t3 _ (List.mem_of_getElem? (i := 48) (by decide +kernel)), rfl⟩
set_option maxRecDepth 20000 in
theorem tw639 : (.code yJ0_indexOf_7cf53 cJ0_indexOf_7cf53 3 (some .int) : Cond) ∈ TBG := List.mem_filter.mpr ⟨in_t3 _ (List.mem_of_getElem? (i := 49) rfl), rfl⟩
theorem tw640 : (.methodLink RJ0 492 yJ0_isLatin1_aae02 : Cond) ∈ TBG := List.mem_filter.mpr ⟨in_t3 _ (List.mem_of_getElem? (i := 50) (by decide +kernel)), rfl⟩
theorem tw641 : (.instanceMethod yJ0_isLatin1_aae02 : Cond) ∈ TBG := List.mem_filter.mpr ⟨in_t3 _ (List.mem_of_getElem? (i := 51) (by decide +kernel)), rfl⟩
theorem tw642 : (.selects RJ0 yJ0_isLatin1_aae02 yJ0_isLatin1_aae02 : Cond) ∈ TBG := List.mem_filter.mpr ⟨in_t3 _ (List.mem_of_getElem? (i := 52) (by decide +kernel)), rfl⟩
set_option maxRecDepth 20000 in
theorem tw643 : (.code yJ0_isLatin1_aae02 cJ0_isLatin1_aae02 1 (some .boolean) : Cond) ∈ TBG := List.mem_filter.mpr ⟨in_t3 _ (List.mem_of_getElem? (i := 53) rfl), rfl⟩
theorem tw644 : (.fieldLink RJ0 38 "java/lang/String" "COMPACT_STRINGS" "Z" : Cond) ∈ TBG := List.mem_filter.mpr ⟨in_t3 _ (List.mem_of_getElem? (i := 54) (by decide +kernel)), rfl⟩
theorem tw646 : (.methodLink RJ0 505 yJ0_length_8abf5 : Cond) ∈ TBG := List.mem_filter.mpr ⟨in_t3 _ (List.mem_of_getElem? (i := 56) (by decide +kernel)), rfl⟩
theorem tw647 : (.instanceMethod yJ0_length_8abf5 : Cond) ∈ TBG := List.mem_filter.mpr ⟨in_t3 _ (List.mem_of_getElem? (i := 57) (by decide +kernel)), rfl⟩
theorem tw648 : (.selects RJ0 yJ0_length_8abf5 yJ0_length_8abf5 : Cond) ∈ TBG := List.mem_filter.mpr ⟨in_t3 _ (List.mem_of_getElem? (i := 58) (by decide +kernel)), rfl⟩
set_option maxRecDepth 20000 in
theorem tw649 : (.code yJ0_length_8abf5 cJ0_length_8abf5 1 (some .int) : Cond) ∈ TBG := List.mem_filter.mpr ⟨in_t3 _ (List.mem_of_getElem? (i := 59) rfl), rfl⟩
theorem tw650 : (.methodLink RJ0 335 yJ0_coder_7d493 : Cond) ∈ TBG := List.mem_filter.mpr ⟨in_t3 _ (List.mem_of_getElem? (i := 60) (by decide +kernel)), rfl⟩
theorem tw651 : (.instanceMethod yJ0_coder_7d493 : Cond) ∈ TBG := List.mem_filter.mpr ⟨in_t3 _ (List.mem_of_getElem? (i := 61) (by decide +kernel)), rfl⟩
theorem tw652 : (.selects RJ0 yJ0_coder_7d493 yJ0_coder_7d493 : Cond) ∈ TBG := List.mem_filter.mpr ⟨in_t3 _ (List.mem_of_getElem? (i := 62) (by decide +kernel)), rfl⟩
set_option maxRecDepth 20000 in
theorem tw653 : (.code yJ0_coder_7d493 cJ0_coder_7d493 1 (some .byte) : Cond) ∈ TBG := List.mem_filter.mpr ⟨in_t3 _ (List.mem_of_getElem? (i := 63) rfl), rfl⟩
theorem tw654 : (.methodLink RJ0 637 yJ1_indexOf_4cfef : Cond) ∈ TBG := List.mem_filter.mpr ⟨in_t3 _ (List.mem_of_getElem? (i := 64) (by decide +kernel)), rfl⟩
theorem tw655 : (.static yJ1_indexOf_4cfef : Cond) ∈ TBG := List.mem_filter.mpr ⟨in_t3 _ (List.mem_of_getElem? (i := 65) (by decide +kernel)), rfl⟩
set_option maxRecDepth 20000 in
theorem tw656 : (.code yJ1_indexOf_4cfef cJ1_indexOf_4cfef 4 (some .int) : Cond) ∈ TBG := List.mem_filter.mpr ⟨in_t3 _ (List.mem_of_getElem? (i := 66) rfl), rfl⟩
theorem tw657 : (.methodLink RJ1 88 yJ1_canEncode_9a6ad : Cond) ∈ TBG := List.mem_filter.mpr ⟨in_t3 _ (List.mem_of_getElem? (i := 67) (by decide +kernel)), rfl⟩
theorem tw658 : (.static yJ1_canEncode_9a6ad : Cond) ∈ TBG := List.mem_filter.mpr ⟨in_t3 _ (List.mem_of_getElem? (i := 68) (by decide +kernel)), rfl⟩
set_option maxRecDepth 20000 in
theorem tw659 : (.code yJ1_canEncode_9a6ad cJ1_canEncode_9a6ad 1 (some .boolean) : Cond) ∈ TBG := List.mem_filter.mpr ⟨in_t3 _ (List.mem_of_getElem? (i := 69) rfl), rfl⟩
theorem tw660 : (.methodLink RJ1 92 yJ9_max_7cf53 : Cond) ∈ TBG := List.mem_filter.mpr ⟨in_t3 _ (List.mem_of_getElem? (i := 70) (by decide +kernel)), rfl⟩
theorem tw661 : (.static yJ9_max_7cf53 : Cond) ∈ TBG := List.mem_filter.mpr ⟨in_t3 _ (List.mem_of_getElem? (i := 71) (by decide +kernel)), rfl⟩
set_option maxRecDepth 20000 in
theorem tw662 : (.code yJ9_max_7cf53 cJ9_max_7cf53 2 (some .int) : Cond) ∈ TBG := List.mem_filter.mpr ⟨in_t3 _ (List.mem_of_getElem? (i := 72) rfl), rfl⟩
theorem tw663 : (.methodLink RJ1 38 yJ9_min_7cf53 : Cond) ∈ TBG := List.mem_filter.mpr ⟨in_t3 _ (List.mem_of_getElem? (i := 73) (by decide +kernel)), rfl⟩
theorem tw664 : (.static yJ9_min_7cf53 : Cond) ∈ TBG := List.mem_filter.mpr ⟨in_t3 _ (List.mem_of_getElem? (i := 74) (by decide +kernel)), rfl⟩
set_option maxRecDepth 20000 in
theorem tw665 : (.code yJ9_min_7cf53 cJ9_min_7cf53 2 (some .int) : Cond) ∈ TBG := List.mem_filter.mpr ⟨in_t3 _ (List.mem_of_getElem? (i := 75) rfl), rfl⟩
theorem tw666 : (.methodLink RJ1 95 yJ1_indexOfChar_4cfef : Cond) ∈ TBG := List.mem_filter.mpr ⟨in_t3 _ (List.mem_of_getElem? (i := 76) (by decide +kernel)), rfl⟩
theorem tw667 : (.static yJ1_indexOfChar_4cfef : Cond) ∈ TBG := List.mem_filter.mpr ⟨in_t3 _ (List.mem_of_getElem? (i := 77) (by decide +kernel)), rfl⟩
set_option maxRecDepth 20000 in
theorem tw668 : (.code yJ1_indexOfChar_4cfef cJ1_indexOfChar_4cfef 6 (some .int) : Cond) ∈ TBG := List.mem_filter.mpr ⟨in_t3 _ (List.mem_of_getElem? (i := 78) rfl), rfl⟩
theorem tw669 : (.methodLink RJ0 640 yJ2_indexOf_4cfef : Cond) ∈ TBG := List.mem_filter.mpr ⟨in_t3 _ (List.mem_of_getElem? (i := 79) (by decide +kernel)), rfl⟩
theorem tw670 : (.static yJ2_indexOf_4cfef : Cond) ∈ TBG := List.mem_filter.mpr ⟨in_t3 _ (List.mem_of_getElem? (i := 80) (by decide +kernel)), rfl⟩
set_option maxRecDepth 20000 in
theorem tw671 : (.code yJ2_indexOf_4cfef cJ2_indexOf_4cfef 4 (some .int) : Cond) ∈ TBG := List.mem_filter.mpr ⟨in_t3 _ (List.mem_of_getElem? (i := 81) rfl), rfl⟩
theorem tw672 : (.methodLink RJ2 224 yJ9_max_7cf53 : Cond) ∈ TBG := List.mem_filter.mpr ⟨in_t3 _ (List.mem_of_getElem? (i := 82) (by decide +kernel)), rfl⟩
theorem tw673 : (.methodLink RJ2 183 yJ9_min_7cf53 : Cond) ∈ TBG := List.mem_filter.mpr ⟨in_t3 _ (List.mem_of_getElem? (i := 83) (by decide +kernel)), rfl⟩
theorem tw674 : (.constant RJ2 227 (65536) : Cond) ∈ TBG := List.mem_filter.mpr ⟨in_t3 _ (List.mem_of_getElem? (i := 84) (by decide +kernel)), rfl⟩
theorem tw675 : (.methodLink RJ2 228 yJ2_indexOfChar_4cfef : Cond) ∈ TBG := List.mem_filter.mpr ⟨in_t3 _ (List.mem_of_getElem? (i := 85) (by decide +kernel)), rfl⟩
theorem tw676 : (.static yJ2_indexOfChar_4cfef : Cond) ∈ TBG := List.mem_filter.mpr ⟨in_t3 _ (List.mem_of_getElem? (i := 86) (by decide +kernel)), rfl⟩
set_option maxRecDepth 20000 in
theorem tw677 : (.code yJ2_indexOfChar_4cfef cJ2_indexOfChar_4cfef 4 (some .int) : Cond) ∈ TBG := List.mem_filter.mpr ⟨in_t3 _ (List.mem_of_getElem? (i := 87) rfl), rfl⟩
theorem tw678 : (.methodLink RJ2 96 yJ2_checkBoundsBeginEnd_d044e : Cond) ∈ TBG := List.mem_filter.mpr ⟨in_t3 _ (List.mem_of_getElem? (i := 88) (by decide +kernel)), rfl⟩
theorem tw679 : (.static yJ2_checkBoundsBeginEnd_d044e : Cond) ∈ TBG := List.mem_filter.mpr ⟨in_t3 _ (List.mem_of_getElem? (i := 89) (by decide +kernel)), rfl⟩
set_option maxRecDepth 20000 in
theorem tw680 : (.code yJ2_checkBoundsBeginEnd_d044e cJ2_checkBoundsBeginEnd_d044e 3 (none) : Cond) ∈ TBG := List.mem_filter.mpr ⟨in_t3 _ (List.mem_of_getElem? (i := 90) rfl), rfl⟩
theorem tw681 : (.methodLink RJ2 48 yJ2_length_9d52b : Cond) ∈ TBG := List.mem_filter.mpr ⟨in_t3 _ (List.mem_of_getElem? (i := 91) (by decide +kernel)), rfl⟩
theorem tw682 : (.static yJ2_length_9d52b : Cond) ∈ TBG := List.mem_filter.mpr ⟨in_t3 _ (List.mem_of_getElem? (i := 92) (by decide +kernel)), rfl⟩
set_option maxRecDepth 20000 in
theorem tw683 : (.code yJ2_length_9d52b cJ2_length_9d52b 1 (some .int) : Cond) ∈ TBG := List.mem_filter.mpr ⟨in_t3 _ (List.mem_of_getElem? (i := 93) rfl), rfl⟩
theorem tw684 : (.methodLink RJ2 241 yJ0_checkBoundsBeginEnd_23922 : Cond) ∈ TBG := List.mem_filter.mpr ⟨in_t3 _ (List.mem_of_getElem? (i := 94) (by decide +kernel)), rfl⟩
theorem tw685 : (.static yJ0_checkBoundsBeginEnd_23922 : Cond) ∈ TBG := List.mem_filter.mpr ⟨in_t3 _ (List.mem_of_getElem? (i := 95) (by decide +kernel)), rfl⟩
set_option maxRecDepth 20000 in
theorem tw686 : (.code yJ0_checkBoundsBeginEnd_23922 cJ0_checkBoundsBeginEnd_23922 3 (none) : Cond) ∈ TBG := List.mem_filter.mpr ⟨in_t3 _ (List.mem_of_getElem? (i := 96) rfl), rfl⟩
theorem tw689 : (.methodLink RJ0 1062 yJ3_checkFromToIndex_8c36e : Cond) ∈ TBG := List.mem_filter.mpr ⟨in_t3 _ (List.mem_of_getElem? (i := 99) (by decide +kernel)), rfl⟩
theorem tw690 : (.static yJ3_checkFromToIndex_8c36e : Cond) ∈ TBG := List.mem_filter.mpr ⟨in_t3 _ (List.mem_of_getElem? (i := 100) (by decide +kernel)), rfl⟩
set_option maxRecDepth 20000 in
theorem tw691 : (.code yJ3_checkFromToIndex_8c36e cJ3_checkFromToIndex_8c36e 4 (some .int) : Cond) ∈ TBG := List.mem_filter.mpr ⟨in_t3 _ (List.mem_of_getElem? (i := 101) rfl), rfl⟩
theorem tw692 : (.methodLink RJ2 244 yJ2_indexOfCharUnsafe_4cfef : Cond) ∈ TBG := List.mem_filter.mpr ⟨in_t3 _ (List.mem_of_getElem? (i := 102) (by decide +kernel)), rfl⟩
theorem tw693 : (.static yJ2_indexOfCharUnsafe_4cfef : Cond) ∈ TBG := List.mem_filter.mpr ⟨in_t3 _ (List.mem_of_getElem? (i := 103) (by decide +kernel)), rfl⟩
set_option maxRecDepth 20000 in
theorem tw694 : (.code yJ2_indexOfCharUnsafe_4cfef cJ2_indexOfCharUnsafe_4cfef 5 (some .int) : Cond) ∈ TBG := List.mem_filter.mpr ⟨in_t3 _ (List.mem_of_getElem? (i := 104) rfl), rfl⟩
theorem tw695 : (.methodLink RJ2 71 yJ2_getChar_3b067 : Cond) ∈ TBG := List.mem_filter.mpr ⟨in_t3 _ (List.mem_of_getElem? (i := 105) (by decide +kernel)), rfl⟩
theorem tw696 : (.static yJ2_getChar_3b067 : Cond) ∈ TBG := List.mem_filter.mpr ⟨in_t3 _ (List.mem_of_getElem? (i := 106) (by decide +kernel)), rfl⟩
set_option maxRecDepth 20000 in
theorem tw697 : (.code yJ2_getChar_3b067 cJ2_getChar_3b067 2 (some .char) : Cond) ∈ TBG := List.mem_filter.mpr ⟨in_t3 _ (List.mem_of_getElem? (i := 107) rfl), rfl⟩
theorem tw704 : (.methodLink RJ2 232 yJ2_indexOfSupplementary_4cfef : Cond) ∈ TBG := List.mem_filter.mpr ⟨in_t3 _ (List.mem_of_getElem? (i := 114) (by decide +kernel)), rfl⟩
theorem tw705 : (.static yJ2_indexOfSupplementary_4cfef : Cond) ∈ TBG := List.mem_filter.mpr ⟨in_t3 _ (List.mem_of_getElem? (i := 115) (by decide +kernel)), rfl⟩
set_option maxRecDepth 20000 in
theorem tw706 : (.code yJ2_indexOfSupplementary_4cfef cJ2_indexOfSupplementary_4cfef 7 (some .int) : Cond) ∈ TBG := List.mem_filter.mpr ⟨in_t3 _ (List.mem_of_getElem? (i := 116) rfl), rfl⟩
theorem tw707 : (.methodLink RJ2 164 yJ11_isValidCodePoint_9a6ad : Cond) ∈ TBG := List.mem_filter.mpr ⟨in_t3 _ (List.mem_of_getElem? (i := 117) (by decide +kernel)), rfl⟩
theorem tw708 : (.static yJ11_isValidCodePoint_9a6ad : Cond) ∈ TBG := List.mem_filter.mpr ⟨in_t3 _ (List.mem_of_getElem? (i := 118) (by decide +kernel)), rfl⟩
set_option maxRecDepth 20000 in
theorem tw709 : (.code yJ11_isValidCodePoint_9a6ad cJ11_isValidCodePoint_9a6ad 2 (some .boolean) : Cond) ∈ TBG := List.mem_filter.mpr ⟨in_t3 _ (List.mem_of_getElem? (i := 119) rfl), rfl⟩
theorem tw710 : (.methodLink RJ2 157 yJ11_highSurrogate_5068e : Cond) ∈ TBG := List.mem_filter.mpr ⟨in_t3 _ (List.mem_of_getElem? (i := 120) (by decide +kernel)), rfl⟩
theorem tw711 : (.static yJ11_highSurrogate_5068e : Cond) ∈ TBG := List.mem_filter.mpr ⟨in_t3 _ (List.mem_of_getElem? (i := 121) (by decide +kernel)), rfl⟩
set_option maxRecDepth 20000 in
theorem tw712 : (.code yJ11_highSurrogate_5068e cJ11_highSurrogate_5068e 1 (some .char) : Cond) ∈ TBG := List.mem_filter.mpr ⟨in_t3 _ (List.mem_of_getElem? (i := 122) rfl), rfl⟩
theorem tw713 : (.constant RJ11 110 (55232) : Cond) ∈ TBG := List.mem_filter.mpr ⟨in_t3 _ (List.mem_of_getElem? (i := 123) (by decide +kernel)), rfl⟩
theorem tw714 : (.methodLink RJ2 161 yJ11_lowSurrogate_5068e : Cond) ∈ TBG := List.mem_filter.mpr ⟨in_t3 _ (List.mem_of_getElem? (i := 124) (by decide +kernel)), rfl⟩
theorem tw715 : (.static yJ11_lowSurrogate_5068e : Cond) ∈ TBG := List.mem_filter.mpr ⟨in_t3 _ (List.mem_of_getElem? (i := 125) (by decide +kernel)), rfl⟩
set_option maxRecDepth 20000 in
theorem tw716 : (.code yJ11_lowSurrogate_5068e cJ11_lowSurrogate_5068e 1 (some .char) : Cond) ∈ TBG := List.mem_filter.mpr ⟨in_t3 _ (List.mem_of_getElem? (i := 126) rfl), rfl⟩
theorem tw717 : (.constant RJ11 76 (56320) : Cond) ∈ TBG := List.mem_filter.mpr ⟨in_t3 _ (List.mem_of_getElem? (i := 127) (by decide +kernel)), rfl⟩
theorem tw718 : (.methodLink RX5 39 ⟨"PuzzleWed$LawReader", "fail", "(I)Z"⟩ : Cond) ∈ TBG := List.mem_filter.mpr ⟨in_t3 _ (List.mem_of_getElem? (i := 128) (by decide +kernel)), rfl⟩
theorem tw719 : (.sameMethod RX5 RX7 "fail" "(I)Z" : Cond) ∈ TBG := List.mem_filter.mpr ⟨in_t3 _ (List.mem_of_getElem? (i := 129) (by decide +kernel)), rfl⟩
theorem tw721 : (.selects RX5 ⟨"PuzzleWed$LawReader", "fail", "(I)Z"⟩ yX7_fail : Cond) ∈ TBG := List.mem_filter.mpr ⟨in_t3 _ (List.mem_of_getElem? (i := 131) (by decide +kernel)), rfl⟩
theorem tw722 : (.instanceMethod yX7_fail : Cond) ∈ TBG := List.mem_filter.mpr ⟨in_t3 _ (List.mem_of_getElem? (i := 132) (by decide +kernel)), rfl⟩
set_option maxRecDepth 20000 in
theorem tw723 : (.code yX7_fail cX7_fail 2 (some .boolean) : Cond) ∈ TBG := List.mem_filter.mpr ⟨in_t3 _ (List.mem_of_getElem? (i := 133) rfl), rfl⟩
theorem tw724 : (.methodLink RX7 31 yX7_failAt : Cond) ∈ TBG := List.mem_filter.mpr ⟨in_t3 _ (List.mem_of_getElem? (i := 134) (by decide +kernel)), rfl⟩
theorem tw725 : (.instanceMethod yX7_failAt : Cond) ∈ TBG := List.mem_filter.mpr ⟨in_t3 _ (List.mem_of_getElem? (i := 135) (by decide +kernel)), rfl⟩
theorem tw726 : (.sameMethod RX7 RX7 "failAt" "(II)Z" : Cond) ∈ TBG := List.mem_filter.mpr ⟨in_t3 _ (List.mem_of_getElem? (i := 136) (by decide +kernel)), rfl⟩
theorem tw727 : (.selects RX5 yX7_failAt yX7_failAt : Cond) ∈ TBG := List.mem_filter.mpr ⟨in_t3 _ (List.mem_of_getElem? (i := 137) (by decide +kernel)), rfl⟩
theorem tw728 : (.selects RX6 yX7_failAt yX7_failAt : Cond) ∈ TBG := List.mem_filter.mpr ⟨in_t3 _ (List.mem_of_getElem? (i := 138) (by decide +kernel)), rfl⟩
set_option maxRecDepth 20000 in
theorem tw729 : (.code yX7_failAt cX7_failAt 3 (some .boolean) : Cond) ∈ TBG := List.mem_filter.mpr ⟨in_t3 _ (List.mem_of_getElem? (i := 139) rfl), rfl⟩
theorem tw730 : (.methodLink RX5 61 yX5_readSum : Cond) ∈ TBG := List.mem_filter.mpr ⟨in_t3 _ (List.mem_of_getElem? (i := 140) (by decide +kernel)), rfl⟩
theorem tw732 : (.instanceMethod yX5_readSum : Cond) ∈ TBG := List.mem_filter.mpr ⟨in_t3 _ (List.mem_of_getElem? (i := 142) (by decide +kernel)), rfl⟩
set_option maxRecDepth 20000 in
theorem tw733 : (.code yX5_readSum cX5_readSum 4 (some .boolean) : Cond) ∈ TBG := List.mem_filter.mpr ⟨in_t3 _ (List.mem_of_getElem? (i := 143) rfl), rfl⟩
theorem tw734 : (.methodLink RX5 99 yX5_readProduct : Cond) ∈ TBG := List.mem_filter.mpr ⟨in_t3 _ (List.mem_of_getElem? (i := 144) (by decide +kernel)), rfl⟩
theorem tw736 : (.instanceMethod yX5_readProduct : Cond) ∈ TBG := List.mem_filter.mpr ⟨in_t3 _ (List.mem_of_getElem? (i := 146) (by decide +kernel)), rfl⟩
set_option maxRecDepth 20000 in
theorem tw737 : (.code yX5_readProduct cX5_readProduct 4 (some .boolean) : Cond) ∈ TBG := List.mem_filter.mpr ⟨in_t3 _ (List.mem_of_getElem? (i := 147) rfl), rfl⟩
theorem tw738 : (.methodLink RX5 102 yX5_readFactor : Cond) ∈ TBG := List.mem_filter.mpr ⟨in_t3 _ (List.mem_of_getElem? (i := 148) (by decide +kernel)), rfl⟩
theorem tw740 : (.instanceMethod yX5_readFactor : Cond) ∈ TBG := List.mem_filter.mpr ⟨in_t3 _ (List.mem_of_getElem? (i := 150) (by decide +kernel)), rfl⟩
set_option maxRecDepth 20000 in
theorem tw741 : (.code yX5_readFactor cX5_readFactor 4 (some .boolean) : Cond) ∈ TBG := List.mem_filter.mpr ⟨in_t3 _ (List.mem_of_getElem? (i := 151) rfl), rfl⟩
theorem tw742 : (.methodLink RX5 70 yX5_pass : Cond) ∈ TBG := List.mem_filter.mpr ⟨in_t3 _ (List.mem_of_getElem? (i := 152) (by decide +kernel)), rfl⟩
theorem tw744 : (.instanceMethod yX5_pass : Cond) ∈ TBG := List.mem_filter.mpr ⟨in_t3 _ (List.mem_of_getElem? (i := 154) (by decide +kernel)), rfl⟩
set_option maxRecDepth 20000 in
theorem tw745 : (.code yX5_pass cX5_pass 2 (some .boolean) : Cond) ∈ TBG := List.mem_filter.mpr ⟨in_t3 _ (List.mem_of_getElem? (i := 155) rfl), rfl⟩
theorem tw746 : (.methodLink RX5 105 yX5_readNumber : Cond) ∈ TBG := List.mem_filter.mpr ⟨in_t3 _ (List.mem_of_getElem? (i := 156) (by decide +kernel)), rfl⟩
theorem tw748 : (.instanceMethod yX5_readNumber : Cond) ∈ TBG := List.mem_filter.mpr ⟨in_t3 _ (List.mem_of_getElem? (i := 158) (by decide +kernel)), rfl⟩
set_option maxRecDepth 20000 in
theorem tw749 : (.code yX5_readNumber cX5_readNumber 4 (some .boolean) : Cond) ∈ TBG := List.mem_filter.mpr ⟨in_t3 _ (List.mem_of_getElem? (i := 159) rfl), rfl⟩
theorem tw750 : (.methodLink RX5 64 yX4_emit : Cond) ∈ TBG := List.mem_filter.mpr ⟨in_t3 _ (List.mem_of_getElem? (i := 160) (by decide +kernel)), rfl⟩
theorem tw751 : (.instanceMethod yX4_emit : Cond) ∈ TBG := List.mem_filter.mpr ⟨in_t3 _ (List.mem_of_getElem? (i := 161) (by decide +kernel)), rfl⟩
theorem tw752 : (.selects RX4 yX4_emit yX4_emit : Cond) ∈ TBG := List.mem_filter.mpr ⟨in_t3 _ (List.mem_of_getElem? (i := 162) (by decide +kernel)), rfl⟩
set_option maxRecDepth 20000 in
theorem tw753 : (.code yX4_emit cX4_emit 2 (none) : Cond) ∈ TBG := List.mem_filter.mpr ⟨in_t3 _ (List.mem_of_getElem? (i := 163) rfl), rfl⟩
theorem tw755 : (.methodLink RX5 73 yX5_readEither : Cond) ∈ TBG := List.mem_filter.mpr ⟨in_t3 _ (List.mem_of_getElem? (i := 165) (by decide +kernel)), rfl⟩
theorem tw757 : (.instanceMethod yX5_readEither : Cond) ∈ TBG := List.mem_filter.mpr ⟨in_t3 _ (List.mem_of_getElem? (i := 167) (by decide +kernel)), rfl⟩
set_option maxRecDepth 20000 in
theorem tw758 : (.code yX5_readEither cX5_readEither 4 (some .boolean) : Cond) ∈ TBG := List.mem_filter.mpr ⟨in_t3 _ (List.mem_of_getElem? (i := 168) rfl), rfl⟩
theorem tw759 : (.methodLink RX5 79 yX5_readBoth : Cond) ∈ TBG := List.mem_filter.mpr ⟨in_t3 _ (List.mem_of_getElem? (i := 169) (by decide +kernel)), rfl⟩
theorem tw761 : (.instanceMethod yX5_readBoth : Cond) ∈ TBG := List.mem_filter.mpr ⟨in_t3 _ (List.mem_of_getElem? (i := 171) (by decide +kernel)), rfl⟩
set_option maxRecDepth 20000 in
theorem tw762 : (.code yX5_readBoth cX5_readBoth 4 (some .boolean) : Cond) ∈ TBG := List.mem_filter.mpr ⟨in_t3 _ (List.mem_of_getElem? (i := 172) rfl), rfl⟩
theorem tw763 : (.methodLink RX5 89 yX5_readTest : Cond) ∈ TBG := List.mem_filter.mpr ⟨in_t3 _ (List.mem_of_getElem? (i := 173) (by decide +kernel)), rfl⟩
theorem tw765 : (.instanceMethod yX5_readTest : Cond) ∈ TBG := List.mem_filter.mpr ⟨in_t3 _ (List.mem_of_getElem? (i := 175) (by decide +kernel)), rfl⟩
set_option maxRecDepth 20000 in
theorem tw766 : (.code yX5_readTest cX5_readTest 4 (some .boolean) : Cond) ∈ TBG := List.mem_filter.mpr ⟨in_t3 _ (List.mem_of_getElem? (i := 176) rfl), rfl⟩
theorem tw767 : (.methodLink RX5 95 yX5_readInner : Cond) ∈ TBG := List.mem_filter.mpr ⟨in_t3 _ (List.mem_of_getElem? (i := 177) (by decide +kernel)), rfl⟩
theorem tw769 : (.instanceMethod yX5_readInner : Cond) ∈ TBG := List.mem_filter.mpr ⟨in_t3 _ (List.mem_of_getElem? (i := 179) (by decide +kernel)), rfl⟩
set_option maxRecDepth 20000 in
theorem tw770 : (.code yX5_readInner cX5_readInner 3 (some .boolean) : Cond) ∈ TBG := List.mem_filter.mpr ⟨in_t3 _ (List.mem_of_getElem? (i := 180) rfl), rfl⟩
theorem tw771 : (.methodLink RX5 82 yX5_emitJump : Cond) ∈ TBG := List.mem_filter.mpr ⟨in_t3 _ (List.mem_of_getElem? (i := 181) (by decide +kernel)), rfl⟩
theorem tw773 : (.instanceMethod yX5_emitJump : Cond) ∈ TBG := List.mem_filter.mpr ⟨in_t3 _ (List.mem_of_getElem? (i := 183) (by decide +kernel)), rfl⟩
set_option maxRecDepth 20000 in
theorem tw774 : (.code yX5_emitJump cX5_emitJump 3 (some .int) : Cond) ∈ TBG := List.mem_filter.mpr ⟨in_t3 _ (List.mem_of_getElem? (i := 184) rfl), rfl⟩
theorem tw775 : (.methodLink RX5 86 yX5_land : Cond) ∈ TBG := List.mem_filter.mpr ⟨in_t3 _ (List.mem_of_getElem? (i := 185) (by decide +kernel)), rfl⟩
theorem tw777 : (.instanceMethod yX5_land : Cond) ∈ TBG := List.mem_filter.mpr ⟨in_t3 _ (List.mem_of_getElem? (i := 187) (by decide +kernel)), rfl⟩
set_option maxRecDepth 20000 in
theorem tw778 : (.code yX5_land cX5_land 2 (none) : Cond) ∈ TBG := List.mem_filter.mpr ⟨in_t3 _ (List.mem_of_getElem? (i := 188) rfl), rfl⟩
theorem tw779 : (.methodLink RX11 153 yX4_copyFrom : Cond) ∈ TBG := List.mem_filter.mpr ⟨in_t3 _ (List.mem_of_getElem? (i := 189) (by decide +kernel)), rfl⟩
theorem tw780 : (.instanceMethod yX4_copyFrom : Cond) ∈ TBG := List.mem_filter.mpr ⟨in_t3 _ (List.mem_of_getElem? (i := 190) (by decide +kernel)), rfl⟩
theorem tw781 : (.selects RX4 yX4_copyFrom yX4_copyFrom : Cond) ∈ TBG := List.mem_filter.mpr ⟨in_t3 _ (List.mem_of_getElem? (i := 191) (by decide +kernel)), rfl⟩
set_option maxRecDepth 20000 in
theorem tw782 : (.code yX4_copyFrom cX4_copyFrom 2 (none) : Cond) ∈ TBG := List.mem_filter.mpr ⟨in_t3 _ (List.mem_of_getElem? (i := 192) rfl), rfl⟩
theorem tw783 : (.methodLink RX4 31 ⟨"java/lang/System", "arraycopy", "(Ljava/lang/Object;ILjava/lang/Object;II)V"⟩ : Cond) ∈ TBG := List.mem_filter.mpr ⟨in_t3 _ (List.mem_of_getElem? (i := 193) (by decide +kernel)), rfl⟩
theorem tw784 : (.static ⟨"java/lang/System", "arraycopy", "(Ljava/lang/Object;ILjava/lang/Object;II)V"⟩ : Cond) ∈ TBG := List.mem_filter.mpr ⟨in_t3 _ (List.mem_of_getElem? (i := 194) (by decide +kernel)), rfl⟩
theorem tw785 : (.native ⟨"java/lang/System", "arraycopy", "(Ljava/lang/Object;ILjava/lang/Object;II)V"⟩ : Cond) ∈ TBG := List.mem_filter.mpr ⟨in_t3 _ (List.mem_of_getElem? (i := 195) (by decide +kernel)), rfl⟩
theorem tw787 : (.methodLink RL 42 yX11_edge : Cond) ∈ TBG := List.mem_filter.mpr ⟨in_t3 _ (List.mem_of_getElem? (i := 197) (by decide +kernel)), rfl⟩
theorem tw788 : (.instanceMethod yX11_edge : Cond) ∈ TBG := List.mem_filter.mpr ⟨in_t3 _ (List.mem_of_getElem? (i := 198) (by decide +kernel)), rfl⟩
theorem tw789 : (.selects RX11 yX11_edge yX11_edge : Cond) ∈ TBG := List.mem_filter.mpr ⟨in_t3 _ (List.mem_of_getElem? (i := 199) (by decide +kernel)), rfl⟩
set_option maxRecDepth 20000 in
theorem tw790 : (.code yX11_edge cX11_edge 6 (some .int) : Cond) ∈ TBG := List.mem_filter.mpr ⟨in_t3 _ (List.mem_of_getElem? (i := 200) rfl), rfl⟩
theorem tw791 : (.methodLink RX11 159 yX6_readEdge : Cond) ∈ TBG := List.mem_filter.mpr ⟨in_t3 _ (List.mem_of_getElem? (i := 201) (by decide +kernel)), rfl⟩
theorem tw792 : (.instanceMethod yX6_readEdge : Cond) ∈ TBG := List.mem_filter.mpr ⟨in_t3 _ (List.mem_of_getElem? (i := 202) (by decide +kernel)), rfl⟩
theorem tw793 : (.selects RX6 yX6_readEdge yX6_readEdge : Cond) ∈ TBG := List.mem_filter.mpr ⟨in_t3 _ (List.mem_of_getElem? (i := 203) (by decide +kernel)), rfl⟩
set_option maxRecDepth 20000 in
theorem tw794 : (.code yX6_readEdge cX6_readEdge 4 (some .boolean) : Cond) ∈ TBG := List.mem_filter.mpr ⟨in_t3 _ (List.mem_of_getElem? (i := 204) rfl), rfl⟩
theorem tw795 : (.methodLink RX6 15 ⟨"PuzzleWed$ListReader", "begin", "(I)V"⟩ : Cond) ∈ TBG := List.mem_filter.mpr ⟨in_t3 _ (List.mem_of_getElem? (i := 205) (by decide +kernel)), rfl⟩
theorem tw796 : (.sameMethod RX6 RX7 "begin" "(I)V" : Cond) ∈ TBG := List.mem_filter.mpr ⟨in_t3 _ (List.mem_of_getElem? (i := 206) (by decide +kernel)), rfl⟩
theorem tw797 : (.selects RX6 ⟨"PuzzleWed$ListReader", "begin", "(I)V"⟩ yX7_begin : Cond) ∈ TBG := List.mem_filter.mpr ⟨in_t3 _ (List.mem_of_getElem? (i := 207) (by decide +kernel)), rfl⟩
theorem tw798 : (.methodLink RX6 26 yX6_readHeight : Cond) ∈ TBG := List.mem_filter.mpr ⟨in_t3 _ (List.mem_of_getElem? (i := 208) (by decide +kernel)), rfl⟩
theorem tw800 : (.instanceMethod yX6_readHeight : Cond) ∈ TBG := List.mem_filter.mpr ⟨in_t3 _ (List.mem_of_getElem? (i := 210) (by decide +kernel)), rfl⟩
set_option maxRecDepth 20000 in
theorem tw801 : (.code yX6_readHeight cX6_readHeight 3 (some .boolean) : Cond) ∈ TBG := List.mem_filter.mpr ⟨in_t3 _ (List.mem_of_getElem? (i := 211) rfl), rfl⟩
theorem tw802 : (.methodLink RX6 51 ⟨"PuzzleWed$ListReader", "sign", "()I"⟩ : Cond) ∈ TBG := List.mem_filter.mpr ⟨in_t3 _ (List.mem_of_getElem? (i := 212) (by decide +kernel)), rfl⟩
theorem tw803 : (.sameMethod RX6 RX7 "sign" "()I" : Cond) ∈ TBG := List.mem_filter.mpr ⟨in_t3 _ (List.mem_of_getElem? (i := 213) (by decide +kernel)), rfl⟩
theorem tw804 : (.selects RX6 ⟨"PuzzleWed$ListReader", "sign", "()I"⟩ yX7_sign : Cond) ∈ TBG := List.mem_filter.mpr ⟨in_t3 _ (List.mem_of_getElem? (i := 214) (by decide +kernel)), rfl⟩
theorem tw805 : (.methodLink RX6 48 ⟨"PuzzleWed$ListReader", "fail", "(I)Z"⟩ : Cond) ∈ TBG := List.mem_filter.mpr ⟨in_t3 _ (List.mem_of_getElem? (i := 215) (by decide +kernel)), rfl⟩
theorem tw806 : (.sameMethod RX6 RX7 "fail" "(I)Z" : Cond) ∈ TBG := List.mem_filter.mpr ⟨in_t3 _ (List.mem_of_getElem? (i := 216) (by decide +kernel)), rfl⟩
theorem tw807 : (.selects RX6 ⟨"PuzzleWed$ListReader", "fail", "(I)Z"⟩ yX7_fail : Cond) ∈ TBG := List.mem_filter.mpr ⟨in_t3 _ (List.mem_of_getElem? (i := 217) (by decide +kernel)), rfl⟩
theorem tw808 : (.methodLink RX6 30 yX6_readTimes : Cond) ∈ TBG := List.mem_filter.mpr ⟨in_t3 _ (List.mem_of_getElem? (i := 218) (by decide +kernel)), rfl⟩
theorem tw810 : (.instanceMethod yX6_readTimes : Cond) ∈ TBG := List.mem_filter.mpr ⟨in_t3 _ (List.mem_of_getElem? (i := 220) (by decide +kernel)), rfl⟩
set_option maxRecDepth 20000 in
theorem tw811 : (.code yX6_readTimes cX6_readTimes 3 (some .boolean) : Cond) ∈ TBG := List.mem_filter.mpr ⟨in_t3 _ (List.mem_of_getElem? (i := 221) rfl), rfl⟩
theorem tw812 : (.methodLink RX6 37 ⟨"PuzzleWed$ListReader", "failAt", "(II)Z"⟩ : Cond) ∈ TBG := List.mem_filter.mpr ⟨in_t3 _ (List.mem_of_getElem? (i := 222) (by decide +kernel)), rfl⟩
theorem tw813 : (.sameMethod RX6 RX7 "failAt" "(II)Z" : Cond) ∈ TBG := List.mem_filter.mpr ⟨in_t3 _ (List.mem_of_getElem? (i := 223) (by decide +kernel)), rfl⟩
theorem tw815 : (.selects RX6 ⟨"PuzzleWed$ListReader", "failAt", "(II)Z"⟩ yX7_failAt : Cond) ∈ TBG := List.mem_filter.mpr ⟨in_t3 _ (List.mem_of_getElem? (i := 225) (by decide +kernel)), rfl⟩
theorem tw816 : (.methodLink RX6 41 yX6_put : Cond) ∈ TBG := List.mem_filter.mpr ⟨in_t3 _ (List.mem_of_getElem? (i := 226) (by decide +kernel)), rfl⟩
theorem tw818 : (.instanceMethod yX6_put : Cond) ∈ TBG := List.mem_filter.mpr ⟨in_t3 _ (List.mem_of_getElem? (i := 228) (by decide +kernel)), rfl⟩
set_option maxRecDepth 20000 in
theorem tw819 : (.code yX6_put cX6_put 2 (none) : Cond) ∈ TBG := List.mem_filter.mpr ⟨in_t3 _ (List.mem_of_getElem? (i := 229) rfl), rfl⟩
theorem tw820 : (.methodLink RX6 45 ⟨"PuzzleWed$ListReader", "isEnd", "()Z"⟩ : Cond) ∈ TBG := List.mem_filter.mpr ⟨in_t3 _ (List.mem_of_getElem? (i := 230) (by decide +kernel)), rfl⟩
theorem tw821 : (.sameMethod RX6 RX7 "isEnd" "()Z" : Cond) ∈ TBG := List.mem_filter.mpr ⟨in_t3 _ (List.mem_of_getElem? (i := 231) (by decide +kernel)), rfl⟩
theorem tw822 : (.selects RX6 ⟨"PuzzleWed$ListReader", "isEnd", "()Z"⟩ yX7_isEnd : Cond) ∈ TBG := List.mem_filter.mpr ⟨in_t3 _ (List.mem_of_getElem? (i := 232) (by decide +kernel)), rfl⟩
theorem tw823 : (.methodLink RX11 170 yJ9_abs_0f7a4 : Cond) ∈ TBG := List.mem_filter.mpr ⟨in_t3 _ (List.mem_of_getElem? (i := 233) (by decide +kernel)), rfl⟩
theorem tw824 : (.static yJ9_abs_0f7a4 : Cond) ∈ TBG := List.mem_filter.mpr ⟨in_t3 _ (List.mem_of_getElem? (i := 234) (by decide +kernel)), rfl⟩
set_option maxRecDepth 20000 in
theorem tw825 : (.code yJ9_abs_0f7a4 cJ9_abs_0f7a4 1 (some .int) : Cond) ∈ TBG := List.mem_filter.mpr ⟨in_t3 _ (List.mem_of_getElem? (i := 235) rfl), rfl⟩
theorem tw826 : (.methodLink RL 47 yX11_journey : Cond) ∈ TBG := List.mem_filter.mpr ⟨in_t3 _ (List.mem_of_getElem? (i := 236) (by decide +kernel)), rfl⟩
theorem tw827 : (.instanceMethod yX11_journey : Cond) ∈ TBG := List.mem_filter.mpr ⟨in_t3 _ (List.mem_of_getElem? (i := 237) (by decide +kernel)), rfl⟩
theorem tw828 : (.selects RX11 yX11_journey yX11_journey : Cond) ∈ TBG := List.mem_filter.mpr ⟨in_t3 _ (List.mem_of_getElem? (i := 238) (by decide +kernel)), rfl⟩
set_option maxRecDepth 20000 in
theorem tw829 : (.code yX11_journey cX11_journey 4 (some .int) : Cond) ∈ TBG := List.mem_filter.mpr ⟨in_t3 _ (List.mem_of_getElem? (i := 239) rfl), rfl⟩
theorem tw830 : (.methodLink RX11 176 yX6_readWay : Cond) ∈ TBG := List.mem_filter.mpr ⟨in_t4 _ (List.mem_of_getElem? (i := 0) (by decide +kernel)), rfl⟩
theorem tw831 : (.instanceMethod yX6_readWay : Cond) ∈ TBG := List.mem_filter.mpr ⟨in_t4 _ (List.mem_of_getElem? (i := 1) (by decide +kernel)), rfl⟩
theorem tw832 : (.selects RX6 yX6_readWay yX6_readWay : Cond) ∈ TBG := List.mem_filter.mpr ⟨in_t4 _ (List.mem_of_getElem? (i := 2) (by decide +kernel)), rfl⟩
set_option maxRecDepth 20000 in
theorem tw833 : (.code yX6_readWay cX6_readWay 4 (some .boolean) : Cond) ∈ TBG := List.mem_filter.mpr ⟨in_t4 _ (List.mem_of_getElem? (i := 3) rfl), rfl⟩
theorem tw834 : (.methodLink RX11 182 ⟨"java/lang/System", "arraycopy", "(Ljava/lang/Object;ILjava/lang/Object;II)V"⟩ : Cond) ∈ TBG := List.mem_filter.mpr ⟨in_t4 _ (List.mem_of_getElem? (i := 4) (by decide +kernel)), rfl⟩
theorem tw835 : (.methodLink RL 51 yX11_days : Cond) ∈ TBG := List.mem_filter.mpr ⟨in_t4 _ (List.mem_of_getElem? (i := 5) (by decide +kernel)), rfl⟩
theorem tw836 : (.instanceMethod yX11_days : Cond) ∈ TBG := List.mem_filter.mpr ⟨in_t4 _ (List.mem_of_getElem? (i := 6) (by decide +kernel)), rfl⟩
theorem tw837 : (.selects RX11 yX11_days yX11_days : Cond) ∈ TBG := List.mem_filter.mpr ⟨in_t4 _ (List.mem_of_getElem? (i := 7) (by decide +kernel)), rfl⟩
set_option maxRecDepth 20000 in
theorem tw838 : (.code yX11_days cX11_days 2 (some .int) : Cond) ∈ TBG := List.mem_filter.mpr ⟨in_t4 _ (List.mem_of_getElem? (i := 8) rfl), rfl⟩
theorem tw839 : (.methodLink RX11 197 yX1_pass : Cond) ∈ TBG := List.mem_filter.mpr ⟨in_t4 _ (List.mem_of_getElem? (i := 9) (by decide +kernel)), rfl⟩
theorem tw840 : (.instanceMethod yX1_pass : Cond) ∈ TBG := List.mem_filter.mpr ⟨in_t4 _ (List.mem_of_getElem? (i := 10) (by decide +kernel)), rfl⟩
theorem tw841 : (.selects RX1 yX1_pass yX1_pass : Cond) ∈ TBG := List.mem_filter.mpr ⟨in_t4 _ (List.mem_of_getElem? (i := 11) (by decide +kernel)), rfl⟩
set_option maxRecDepth 20000 in
theorem tw842 : (.code yX1_pass cX1_pass 4 (none) : Cond) ∈ TBG := List.mem_filter.mpr ⟨in_t4 _ (List.mem_of_getElem? (i := 12) rfl), rfl⟩
theorem tw843 : (.methodLink RX1 30 yX1_travel : Cond) ∈ TBG := List.mem_filter.mpr ⟨in_t4 _ (List.mem_of_getElem? (i := 13) (by decide +kernel)), rfl⟩
theorem tw845 : (.instanceMethod yX1_travel : Cond) ∈ TBG := List.mem_filter.mpr ⟨in_t4 _ (List.mem_of_getElem? (i := 15) (by decide +kernel)), rfl⟩
set_option maxRecDepth 20000 in
theorem tw846 : (.code yX1_travel cX1_travel 4 (none) : Cond) ∈ TBG := List.mem_filter.mpr ⟨in_t4 _ (List.mem_of_getElem? (i := 16) rfl), rfl⟩
theorem tw847 : (.methodLink RX1 44 yX3_isFree : Cond) ∈ TBG := List.mem_filter.mpr ⟨in_t4 _ (List.mem_of_getElem? (i := 17) (by decide +kernel)), rfl⟩
theorem tw848 : (.methodLink RX1 34 yX1_meet : Cond) ∈ TBG := List.mem_filter.mpr ⟨in_t4 _ (List.mem_of_getElem? (i := 18) (by decide +kernel)), rfl⟩
theorem tw850 : (.instanceMethod yX1_meet : Cond) ∈ TBG := List.mem_filter.mpr ⟨in_t4 _ (List.mem_of_getElem? (i := 20) (by decide +kernel)), rfl⟩
set_option maxRecDepth 20000 in
theorem tw851 : (.code yX1_meet cX1_meet 6 (none) : Cond) ∈ TBG := List.mem_filter.mpr ⟨in_t4 _ (List.mem_of_getElem? (i := 21) rfl), rfl⟩
theorem tw852 : (.methodLink RX1 58 yX1_nextFor : Cond) ∈ TBG := List.mem_filter.mpr ⟨in_t4 _ (List.mem_of_getElem? (i := 22) (by decide +kernel)), rfl⟩
theorem tw853 : (.static yX1_nextFor : Cond) ∈ TBG := List.mem_filter.mpr ⟨in_t4 _ (List.mem_of_getElem? (i := 23) (by decide +kernel)), rfl⟩
set_option maxRecDepth 20000 in
theorem tw854 : (.code yX1_nextFor cX1_nextFor 4 (some .int) : Cond) ∈ TBG := List.mem_filter.mpr ⟨in_t4 _ (List.mem_of_getElem? (i := 24) rfl), rfl⟩
theorem tw855 : (.methodLink RX1 84 yX3_hasTried : Cond) ∈ TBG := List.mem_filter.mpr ⟨in_t4 _ (List.mem_of_getElem? (i := 25) (by decide +kernel)), rfl⟩
theorem tw856 : (.instanceMethod yX3_hasTried : Cond) ∈ TBG := List.mem_filter.mpr ⟨in_t4 _ (List.mem_of_getElem? (i := 26) (by decide +kernel)), rfl⟩
theorem tw857 : (.selects RX3 yX3_hasTried yX3_hasTried : Cond) ∈ TBG := List.mem_filter.mpr ⟨in_t4 _ (List.mem_of_getElem? (i := 27) (by decide +kernel)), rfl⟩
set_option maxRecDepth 20000 in
theorem tw858 : (.code yX3_hasTried cX3_hasTried 3 (some .boolean) : Cond) ∈ TBG := List.mem_filter.mpr ⟨in_t4 _ (List.mem_of_getElem? (i := 28) rfl), rfl⟩
theorem tw859 : (.methodLink RX1 62 yX3_markTried : Cond) ∈ TBG := List.mem_filter.mpr ⟨in_t4 _ (List.mem_of_getElem? (i := 29) (by decide +kernel)), rfl⟩
theorem tw860 : (.instanceMethod yX3_markTried : Cond) ∈ TBG := List.mem_filter.mpr ⟨in_t4 _ (List.mem_of_getElem? (i := 30) (by decide +kernel)), rfl⟩
theorem tw861 : (.selects RX3 yX3_markTried yX3_markTried : Cond) ∈ TBG := List.mem_filter.mpr ⟨in_t4 _ (List.mem_of_getElem? (i := 31) (by decide +kernel)), rfl⟩
set_option maxRecDepth 20000 in
theorem tw862 : (.code yX3_markTried cX3_markTried 3 (none) : Cond) ∈ TBG := List.mem_filter.mpr ⟨in_t4 _ (List.mem_of_getElem? (i := 32) rfl), rfl⟩
theorem tw863 : (.methodLink RX1 66 yX2_fit : Cond) ∈ TBG := List.mem_filter.mpr ⟨in_t4 _ (List.mem_of_getElem? (i := 33) (by decide +kernel)), rfl⟩
theorem tw864 : (.instanceMethod yX2_fit : Cond) ∈ TBG := List.mem_filter.mpr ⟨in_t4 _ (List.mem_of_getElem? (i := 34) (by decide +kernel)), rfl⟩
theorem tw865 : (.selects RX2 yX2_fit yX2_fit : Cond) ∈ TBG := List.mem_filter.mpr ⟨in_t4 _ (List.mem_of_getElem? (i := 35) (by decide +kernel)), rfl⟩
set_option maxRecDepth 20000 in
theorem tw866 : (.code yX2_fit cX2_fit 5 (some .boolean) : Cond) ∈ TBG := List.mem_filter.mpr ⟨in_t4 _ (List.mem_of_getElem? (i := 36) rfl), rfl⟩
theorem tw867 : (.methodLink RX2 48 yX2_slackOf : Cond) ∈ TBG := List.mem_filter.mpr ⟨in_t4 _ (List.mem_of_getElem? (i := 37) (by decide +kernel)), rfl⟩
theorem tw868 : (.instanceMethod yX2_slackOf : Cond) ∈ TBG := List.mem_filter.mpr ⟨in_t4 _ (List.mem_of_getElem? (i := 38) (by decide +kernel)), rfl⟩
theorem tw869 : (.selects RX2 yX2_slackOf yX2_slackOf : Cond) ∈ TBG := List.mem_filter.mpr ⟨in_t4 _ (List.mem_of_getElem? (i := 39) (by decide +kernel)), rfl⟩
set_option maxRecDepth 20000 in
theorem tw870 : (.code yX2_slackOf cX2_slackOf 9 (some .int) : Cond) ∈ TBG := List.mem_filter.mpr ⟨in_t4 _ (List.mem_of_getElem? (i := 40) rfl), rfl⟩
theorem tw871 : (.methodLink RX2 34 yX2_gap : Cond) ∈ TBG := List.mem_filter.mpr ⟨in_t4 _ (List.mem_of_getElem? (i := 41) (by decide +kernel)), rfl⟩
theorem tw872 : (.static yX2_gap : Cond) ∈ TBG := List.mem_filter.mpr ⟨in_t4 _ (List.mem_of_getElem? (i := 42) (by decide +kernel)), rfl⟩
set_option maxRecDepth 20000 in
theorem tw873 : (.code yX2_gap cX2_gap 4 (some .int) : Cond) ∈ TBG := List.mem_filter.mpr ⟨in_t4 _ (List.mem_of_getElem? (i := 43) rfl), rfl⟩
theorem tw874 : (.methodLink RX2 19 yJ9_abs_0f7a4 : Cond) ∈ TBG := List.mem_filter.mpr ⟨in_t4 _ (List.mem_of_getElem? (i := 44) (by decide +kernel)), rfl⟩
theorem tw875 : (.methodLink RX2 41 yJ9_max_7cf53 : Cond) ∈ TBG := List.mem_filter.mpr ⟨in_t4 _ (List.mem_of_getElem? (i := 45) (by decide +kernel)), rfl⟩
theorem tw876 : (.methodLink RX2 45 yJ9_min_7cf53 : Cond) ∈ TBG := List.mem_filter.mpr ⟨in_t4 _ (List.mem_of_getElem? (i := 46) (by decide +kernel)), rfl⟩
theorem tw877 : (.methodLink RX2 52 yX2_allowance : Cond) ∈ TBG := List.mem_filter.mpr ⟨in_t4 _ (List.mem_of_getElem? (i := 47) (by decide +kernel)), rfl⟩
theorem tw878 : (.instanceMethod yX2_allowance : Cond) ∈ TBG := List.mem_filter.mpr ⟨in_t4 _ (List.mem_of_getElem? (i := 48) (by decide +kernel)), rfl⟩
theorem tw879 : (.selects RX2 yX2_allowance yX2_allowance : Cond) ∈ TBG := List.mem_filter.mpr ⟨in_t4 _ (List.mem_of_getElem? (i := 49) (by decide +kernel)), rfl⟩
set_option maxRecDepth 20000 in
theorem tw880 : (.code yX2_allowance cX2_allowance 5 (some .int) : Cond) ∈ TBG := List.mem_filter.mpr ⟨in_t4 _ (List.mem_of_getElem? (i := 50) rfl), rfl⟩
theorem tw881 : (.methodLink RX2 55 yX2_isFirst : Cond) ∈ TBG := List.mem_filter.mpr ⟨in_t4 _ (List.mem_of_getElem? (i := 51) (by decide +kernel)), rfl⟩
theorem tw882 : (.static yX2_isFirst : Cond) ∈ TBG := List.mem_filter.mpr ⟨in_t4 _ (List.mem_of_getElem? (i := 52) (by decide +kernel)), rfl⟩
set_option maxRecDepth 20000 in
theorem tw883 : (.code yX2_isFirst cX2_isFirst 3 (some .boolean) : Cond) ∈ TBG := List.mem_filter.mpr ⟨in_t4 _ (List.mem_of_getElem? (i := 53) rfl), rfl⟩
theorem tw885 : (.methodLink RX2 59 yX2_rule : Cond) ∈ TBG := List.mem_filter.mpr ⟨in_t4 _ (List.mem_of_getElem? (i := 55) (by decide +kernel)), rfl⟩
theorem tw886 : (.instanceMethod yX2_rule : Cond) ∈ TBG := List.mem_filter.mpr ⟨in_t4 _ (List.mem_of_getElem? (i := 56) (by decide +kernel)), rfl⟩
theorem tw887 : (.selects RX2 yX2_rule yX2_rule : Cond) ∈ TBG := List.mem_filter.mpr ⟨in_t4 _ (List.mem_of_getElem? (i := 57) (by decide +kernel)), rfl⟩
set_option maxRecDepth 20000 in
theorem tw888 : (.code yX2_rule cX2_rule 8 (some .int) : Cond) ∈ TBG := List.mem_filter.mpr ⟨in_t4 _ (List.mem_of_getElem? (i := 58) rfl), rfl⟩
theorem tw889 : (.methodLink RX2 73 yX2_fill : Cond) ∈ TBG := List.mem_filter.mpr ⟨in_t4 _ (List.mem_of_getElem? (i := 59) (by decide +kernel)), rfl⟩
theorem tw891 : (.instanceMethod yX2_fill : Cond) ∈ TBG := List.mem_filter.mpr ⟨in_t4 _ (List.mem_of_getElem? (i := 61) (by decide +kernel)), rfl⟩
set_option maxRecDepth 20000 in
theorem tw892 : (.code yX2_fill cX2_fill 5 (none) : Cond) ∈ TBG := List.mem_filter.mpr ⟨in_t4 _ (List.mem_of_getElem? (i := 62) rfl), rfl⟩
theorem tw893 : (.methodLink RX2 96 yJ7_fill_53178 : Cond) ∈ TBG := List.mem_filter.mpr ⟨in_t4 _ (List.mem_of_getElem? (i := 63) (by decide +kernel)), rfl⟩
theorem tw894 : (.static yJ7_fill_53178 : Cond) ∈ TBG := List.mem_filter.mpr ⟨in_t4 _ (List.mem_of_getElem? (i := 64) (by decide +kernel)), rfl⟩
set_option maxRecDepth 20000 in
theorem tw895 : (.code yJ7_fill_53178 cJ7_fill_53178 4 (none) : Cond) ∈ TBG := List.mem_filter.mpr ⟨in_t4 _ (List.mem_of_getElem? (i := 65) rfl), rfl⟩
theorem tw896 : (.methodLink RX2 101 yX3_piecesOf : Cond) ∈ TBG := List.mem_filter.mpr ⟨in_t4 _ (List.mem_of_getElem? (i := 66) (by decide +kernel)), rfl⟩
theorem tw897 : (.instanceMethod yX3_piecesOf : Cond) ∈ TBG := List.mem_filter.mpr ⟨in_t4 _ (List.mem_of_getElem? (i := 67) (by decide +kernel)), rfl⟩
theorem tw898 : (.selects RX3 yX3_piecesOf yX3_piecesOf : Cond) ∈ TBG := List.mem_filter.mpr ⟨in_t4 _ (List.mem_of_getElem? (i := 68) (by decide +kernel)), rfl⟩
set_option maxRecDepth 20000 in
theorem tw899 : (.code yX3_piecesOf cX3_piecesOf 4 (some .int) : Cond) ∈ TBG := List.mem_filter.mpr ⟨in_t4 _ (List.mem_of_getElem? (i := 69) rfl), rfl⟩
theorem tw900 : (.methodLink RX2 104 yJ6_bitCount_0f7a4 : Cond) ∈ TBG := List.mem_filter.mpr ⟨in_t4 _ (List.mem_of_getElem? (i := 70) (by decide +kernel)), rfl⟩
theorem tw901 : (.static yJ6_bitCount_0f7a4 : Cond) ∈ TBG := List.mem_filter.mpr ⟨in_t4 _ (List.mem_of_getElem? (i := 71) (by decide +kernel)), rfl⟩
set_option maxRecDepth 20000 in
theorem tw902 : (.code yJ6_bitCount_0f7a4 cJ6_bitCount_0f7a4 1 (some .int) : Cond) ∈ TBG := List.mem_filter.mpr ⟨in_t4 _ (List.mem_of_getElem? (i := 72) rfl), rfl⟩
theorem tw903 : (.constant RJ6 265 (1431655765) : Cond) ∈ TBG := List.mem_filter.mpr ⟨in_t4 _ (List.mem_of_getElem? (i := 73) (by decide +kernel)), rfl⟩
theorem tw904 : (.constant RJ6 266 (858993459) : Cond) ∈ TBG := List.mem_filter.mpr ⟨in_t4 _ (List.mem_of_getElem? (i := 74) (by decide +kernel)), rfl⟩
theorem tw905 : (.constant RJ6 267 (252645135) : Cond) ∈ TBG := List.mem_filter.mpr ⟨in_t4 _ (List.mem_of_getElem? (i := 75) (by decide +kernel)), rfl⟩
theorem tw906 : (.methodLink RX2 89 yX4_run : Cond) ∈ TBG := List.mem_filter.mpr ⟨in_t4 _ (List.mem_of_getElem? (i := 76) (by decide +kernel)), rfl⟩
theorem tw907 : (.instanceMethod yX4_run : Cond) ∈ TBG := List.mem_filter.mpr ⟨in_t4 _ (List.mem_of_getElem? (i := 77) (by decide +kernel)), rfl⟩
theorem tw908 : (.selects RX4 yX4_run yX4_run : Cond) ∈ TBG := List.mem_filter.mpr ⟨in_t4 _ (List.mem_of_getElem? (i := 78) (by decide +kernel)), rfl⟩
set_option maxRecDepth 20000 in
theorem tw909 : (.code yX4_run cX4_run 9 (some .int) : Cond) ∈ TBG := List.mem_filter.mpr ⟨in_t4 _ (List.mem_of_getElem? (i := 79) rfl), rfl⟩
theorem tw910 : (.methodLink RX4 40 yX4_valueOf : Cond) ∈ TBG := List.mem_filter.mpr ⟨in_t4 _ (List.mem_of_getElem? (i := 80) (by decide +kernel)), rfl⟩
theorem tw911 : (.static yX4_valueOf : Cond) ∈ TBG := List.mem_filter.mpr ⟨in_t4 _ (List.mem_of_getElem? (i := 81) (by decide +kernel)), rfl⟩
set_option maxRecDepth 20000 in
theorem tw912 : (.code yX4_valueOf cX4_valueOf 2 (some .int) : Cond) ∈ TBG := List.mem_filter.mpr ⟨in_t4 _ (List.mem_of_getElem? (i := 82) rfl), rfl⟩
theorem tw913 : (.methodLink RX4 44 yX4_reckon : Cond) ∈ TBG := List.mem_filter.mpr ⟨in_t4 _ (List.mem_of_getElem? (i := 83) (by decide +kernel)), rfl⟩
theorem tw914 : (.static yX4_reckon : Cond) ∈ TBG := List.mem_filter.mpr ⟨in_t4 _ (List.mem_of_getElem? (i := 84) (by decide +kernel)), rfl⟩
set_option maxRecDepth 20000 in
theorem tw915 : (.code yX4_reckon cX4_reckon 3 (some .int) : Cond) ∈ TBG := List.mem_filter.mpr ⟨in_t4 _ (List.mem_of_getElem? (i := 85) rfl), rfl⟩
theorem tw916 : (.methodLink RX1 72 yX3_join : Cond) ∈ TBG := List.mem_filter.mpr ⟨in_t4 _ (List.mem_of_getElem? (i := 86) (by decide +kernel)), rfl⟩
theorem tw917 : (.methodLink RX1 75 yX2_wearOf : Cond) ∈ TBG := List.mem_filter.mpr ⟨in_t4 _ (List.mem_of_getElem? (i := 87) (by decide +kernel)), rfl⟩
theorem tw918 : (.instanceMethod yX2_wearOf : Cond) ∈ TBG := List.mem_filter.mpr ⟨in_t4 _ (List.mem_of_getElem? (i := 88) (by decide +kernel)), rfl⟩
theorem tw919 : (.selects RX2 yX2_wearOf yX2_wearOf : Cond) ∈ TBG := List.mem_filter.mpr ⟨in_t4 _ (List.mem_of_getElem? (i := 89) (by decide +kernel)), rfl⟩
set_option maxRecDepth 20000 in
theorem tw920 : (.code yX2_wearOf cX2_wearOf 6 (some .int) : Cond) ∈ TBG := List.mem_filter.mpr ⟨in_t4 _ (List.mem_of_getElem? (i := 90) rfl), rfl⟩
theorem tw921 : (.methodLink RX1 78 yX3_wearDown : Cond) ∈ TBG := List.mem_filter.mpr ⟨in_t4 _ (List.mem_of_getElem? (i := 91) (by decide +kernel)), rfl⟩
theorem tw922 : (.instanceMethod yX3_wearDown : Cond) ∈ TBG := List.mem_filter.mpr ⟨in_t4 _ (List.mem_of_getElem? (i := 92) (by decide +kernel)), rfl⟩
theorem tw923 : (.selects RX3 yX3_wearDown yX3_wearDown : Cond) ∈ TBG := List.mem_filter.mpr ⟨in_t4 _ (List.mem_of_getElem? (i := 93) (by decide +kernel)), rfl⟩
set_option maxRecDepth 20000 in
theorem tw924 : (.code yX3_wearDown cX3_wearDown 4 (none) : Cond) ∈ TBG := List.mem_filter.mpr ⟨in_t4 _ (List.mem_of_getElem? (i := 94) rfl), rfl⟩
theorem tw925 : (.methodLink RX3 68 yJ9_min_7cf53 : Cond) ∈ TBG := List.mem_filter.mpr ⟨in_t4 _ (List.mem_of_getElem? (i := 95) (by decide +kernel)), rfl⟩
theorem tw926 : (.methodLink RX1 37 yX1_strain : Cond) ∈ TBG := List.mem_filter.mpr ⟨in_t4 _ (List.mem_of_getElem? (i := 96) (by decide +kernel)), rfl⟩
theorem tw928 : (.instanceMethod yX1_strain : Cond) ∈ TBG := List.mem_filter.mpr ⟨in_t4 _ (List.mem_of_getElem? (i := 98) (by decide +kernel)), rfl⟩
set_option maxRecDepth 20000 in
theorem tw929 : (.code yX1_strain cX1_strain 5 (none) : Cond) ∈ TBG := List.mem_filter.mpr ⟨in_t4 _ (List.mem_of_getElem? (i := 99) rfl), rfl⟩
theorem tw931 : (.methodLink RX1 94 yX2_slackOf : Cond) ∈ TBG := List.mem_filter.mpr ⟨in_t4 _ (List.mem_of_getElem? (i := 101) (by decide +kernel)), rfl⟩
theorem tw932 : (.methodLink RX1 97 yX3_draw : Cond) ∈ TBG := List.mem_filter.mpr ⟨in_t4 _ (List.mem_of_getElem? (i := 102) (by decide +kernel)), rfl⟩
theorem tw933 : (.instanceMethod yX3_draw : Cond) ∈ TBG := List.mem_filter.mpr ⟨in_t4 _ (List.mem_of_getElem? (i := 103) (by decide +kernel)), rfl⟩
theorem tw934 : (.selects RX3 yX3_draw yX3_draw : Cond) ∈ TBG := List.mem_filter.mpr ⟨in_t4 _ (List.mem_of_getElem? (i := 104) (by decide +kernel)), rfl⟩
set_option maxRecDepth 20000 in
theorem tw935 : (.code yX3_draw cX3_draw 1 (some .int) : Cond) ∈ TBG := List.mem_filter.mpr ⟨in_t4 _ (List.mem_of_getElem? (i := 105) rfl), rfl⟩
theorem tw936 : (.constant RX3 74 (65535) : Cond) ∈ TBG := List.mem_filter.mpr ⟨in_t4 _ (List.mem_of_getElem? (i := 106) (by decide +kernel)), rfl⟩
theorem tw937 : (.methodLink RX1 101 yX2_rule : Cond) ∈ TBG := List.mem_filter.mpr ⟨in_t4 _ (List.mem_of_getElem? (i := 107) (by decide +kernel)), rfl⟩
theorem tw938 : (.methodLink RX1 108 yJ9_min_7cf53 : Cond) ∈ TBG := List.mem_filter.mpr ⟨in_t4 _ (List.mem_of_getElem? (i := 108) (by decide +kernel)), rfl⟩
theorem tw939 : (.methodLink RX1 114 yX3_separate : Cond) ∈ TBG := List.mem_filter.mpr ⟨in_t4 _ (List.mem_of_getElem? (i := 109) (by decide +kernel)), rfl⟩
theorem tw940 : (.methodLink RL 55 yX11_tried : Cond) ∈ TBG := List.mem_filter.mpr ⟨in_t4 _ (List.mem_of_getElem? (i := 110) (by decide +kernel)), rfl⟩
theorem tw941 : (.instanceMethod yX11_tried : Cond) ∈ TBG := List.mem_filter.mpr ⟨in_t4 _ (List.mem_of_getElem? (i := 111) (by decide +kernel)), rfl⟩
theorem tw942 : (.selects RX11 yX11_tried yX11_tried : Cond) ∈ TBG := List.mem_filter.mpr ⟨in_t4 _ (List.mem_of_getElem? (i := 112) (by decide +kernel)), rfl⟩
set_option maxRecDepth 20000 in
theorem tw943 : (.code yX11_tried cX11_tried 6 (some .int) : Cond) ∈ TBG := List.mem_filter.mpr ⟨in_t4 _ (List.mem_of_getElem? (i := 113) rfl), rfl⟩
theorem tw944 : (.methodLink RX11 204 yX3_copyFrom : Cond) ∈ TBG := List.mem_filter.mpr ⟨in_t4 _ (List.mem_of_getElem? (i := 114) (by decide +kernel)), rfl⟩
theorem tw945 : (.instanceMethod yX3_copyFrom : Cond) ∈ TBG := List.mem_filter.mpr ⟨in_t4 _ (List.mem_of_getElem? (i := 115) (by decide +kernel)), rfl⟩
theorem tw946 : (.selects RX3 yX3_copyFrom yX3_copyFrom : Cond) ∈ TBG := List.mem_filter.mpr ⟨in_t4 _ (List.mem_of_getElem? (i := 116) (by decide +kernel)), rfl⟩
set_option maxRecDepth 20000 in
theorem tw947 : (.code yX3_copyFrom cX3_copyFrom 3 (none) : Cond) ∈ TBG := List.mem_filter.mpr ⟨in_t4 _ (List.mem_of_getElem? (i := 117) rfl), rfl⟩
theorem tw948 : (.methodLink RX3 78 ⟨"java/lang/System", "arraycopy", "(Ljava/lang/Object;ILjava/lang/Object;II)V"⟩ : Cond) ∈ TBG := List.mem_filter.mpr ⟨in_t4 _ (List.mem_of_getElem? (i := 118) (by decide +kernel)), rfl⟩
theorem tw949 : (.methodLink RX11 216 yX3_countTwos : Cond) ∈ TBG := List.mem_filter.mpr ⟨in_t4 _ (List.mem_of_getElem? (i := 119) (by decide +kernel)), rfl⟩
theorem tw950 : (.instanceMethod yX3_countTwos : Cond) ∈ TBG := List.mem_filter.mpr ⟨in_t4 _ (List.mem_of_getElem? (i := 120) (by decide +kernel)), rfl⟩
theorem tw951 : (.selects RX3 yX3_countTwos yX3_countTwos : Cond) ∈ TBG := List.mem_filter.mpr ⟨in_t4 _ (List.mem_of_getElem? (i := 121) (by decide +kernel)), rfl⟩
set_option maxRecDepth 20000 in
theorem tw952 : (.code yX3_countTwos cX3_countTwos 3 (some .int) : Cond) ∈ TBG := List.mem_filter.mpr ⟨in_t4 _ (List.mem_of_getElem? (i := 122) rfl), rfl⟩
theorem tw953 : (.methodLink RL 59 yX11_personIs : Cond) ∈ TBG := List.mem_filter.mpr ⟨in_t4 _ (List.mem_of_getElem? (i := 123) (by decide +kernel)), rfl⟩
theorem tw954 : (.instanceMethod yX11_personIs : Cond) ∈ TBG := List.mem_filter.mpr ⟨in_t4 _ (List.mem_of_getElem? (i := 124) (by decide +kernel)), rfl⟩
theorem tw955 : (.selects RX11 yX11_personIs yX11_personIs : Cond) ∈ TBG := List.mem_filter.mpr ⟨in_t4 _ (List.mem_of_getElem? (i := 125) (by decide +kernel)), rfl⟩
set_option maxRecDepth 20000 in
theorem tw956 : (.code yX11_personIs cX11_personIs 3 (some .int) : Cond) ∈ TBG := List.mem_filter.mpr ⟨in_t4 _ (List.mem_of_getElem? (i := 126) rfl), rfl⟩
theorem tw957 : (.methodLink RX11 223 yX3_piecesOf : Cond) ∈ TBG := List.mem_filter.mpr ⟨in_t4 _ (List.mem_of_getElem? (i := 127) (by decide +kernel)), rfl⟩
theorem tw958 : (.methodLink RX11 226 yX11_whomItFits : Cond) ∈ TBG := List.mem_filter.mpr ⟨in_t4 _ (List.mem_of_getElem? (i := 128) (by decide +kernel)), rfl⟩
theorem tw960 : (.instanceMethod yX11_whomItFits : Cond) ∈ TBG := List.mem_filter.mpr ⟨in_t4 _ (List.mem_of_getElem? (i := 130) (by decide +kernel)), rfl⟩
set_option maxRecDepth 20000 in
theorem tw961 : (.code yX11_whomItFits cX11_whomItFits 4 (some .int) : Cond) ∈ TBG := List.mem_filter.mpr ⟨in_t4 _ (List.mem_of_getElem? (i := 131) rfl), rfl⟩
theorem tw962 : (.methodLink RX11 232 yX2_fit : Cond) ∈ TBG := List.mem_filter.mpr ⟨in_t4 _ (List.mem_of_getElem? (i := 132) (by decide +kernel)), rfl⟩
theorem tw963 : (.methodLink RL 63 yX11_piece : Cond) ∈ TBG := List.mem_filter.mpr ⟨in_t4 _ (List.mem_of_getElem? (i := 133) (by decide +kernel)), rfl⟩
theorem tw964 : (.instanceMethod yX11_piece : Cond) ∈ TBG := List.mem_filter.mpr ⟨in_t4 _ (List.mem_of_getElem? (i := 134) (by decide +kernel)), rfl⟩
theorem tw965 : (.selects RX11 yX11_piece yX11_piece : Cond) ∈ TBG := List.mem_filter.mpr ⟨in_t4 _ (List.mem_of_getElem? (i := 135) (by decide +kernel)), rfl⟩
set_option maxRecDepth 20000 in
theorem tw966 : (.code yX11_piece cX11_piece 3 (some .int) : Cond) ∈ TBG := List.mem_filter.mpr ⟨in_t4 _ (List.mem_of_getElem? (i := 136) rfl), rfl⟩
theorem tw967 : (.methodLink RL 67 yX11_slack : Cond) ∈ TBG := List.mem_filter.mpr ⟨in_t4 _ (List.mem_of_getElem? (i := 137) (by decide +kernel)), rfl⟩
theorem tw968 : (.instanceMethod yX11_slack : Cond) ∈ TBG := List.mem_filter.mpr ⟨in_t4 _ (List.mem_of_getElem? (i := 138) (by decide +kernel)), rfl⟩
theorem tw969 : (.selects RX11 yX11_slack yX11_slack : Cond) ∈ TBG := List.mem_filter.mpr ⟨in_t4 _ (List.mem_of_getElem? (i := 139) (by decide +kernel)), rfl⟩
set_option maxRecDepth 20000 in
theorem tw970 : (.code yX11_slack cX11_slack 5 (some .int) : Cond) ∈ TBG := List.mem_filter.mpr ⟨in_t4 _ (List.mem_of_getElem? (i := 140) rfl), rfl⟩
theorem tw971 : (.methodLink RX11 239 yX2_slackOf : Cond) ∈ TBG := List.mem_filter.mpr ⟨in_t4 _ (List.mem_of_getElem? (i := 141) (by decide +kernel)), rfl⟩
theorem tw972 : (.methodLink RX11 243 yX2_liking : Cond) ∈ TBG := List.mem_filter.mpr ⟨in_t4 _ (List.mem_of_getElem? (i := 142) (by decide +kernel)), rfl⟩
theorem tw973 : (.instanceMethod yX2_liking : Cond) ∈ TBG := List.mem_filter.mpr ⟨in_t4 _ (List.mem_of_getElem? (i := 143) (by decide +kernel)), rfl⟩
theorem tw974 : (.selects RX2 yX2_liking yX2_liking : Cond) ∈ TBG := List.mem_filter.mpr ⟨in_t4 _ (List.mem_of_getElem? (i := 144) (by decide +kernel)), rfl⟩
set_option maxRecDepth 20000 in
theorem tw975 : (.code yX2_liking cX2_liking 4 (some .int) : Cond) ∈ TBG := List.mem_filter.mpr ⟨in_t4 _ (List.mem_of_getElem? (i := 145) rfl), rfl⟩
theorem tw976 : (.methodLink RL 72 yX11_locks : Cond) ∈ TBG := List.mem_filter.mpr ⟨in_t4 _ (List.mem_of_getElem? (i := 146) (by decide +kernel)), rfl⟩
theorem tw977 : (.instanceMethod yX11_locks : Cond) ∈ TBG := List.mem_filter.mpr ⟨in_t4 _ (List.mem_of_getElem? (i := 147) (by decide +kernel)), rfl⟩
theorem tw978 : (.selects RX11 yX11_locks yX11_locks : Cond) ∈ TBG := List.mem_filter.mpr ⟨in_t4 _ (List.mem_of_getElem? (i := 148) (by decide +kernel)), rfl⟩
set_option maxRecDepth 20000 in
theorem tw979 : (.code yX11_locks cX11_locks 8 (some .int) : Cond) ∈ TBG := List.mem_filter.mpr ⟨in_t4 _ (List.mem_of_getElem? (i := 149) rfl), rfl⟩
theorem tw980 : (.methodLink RX11 246 yX11_fitsAbove : Cond) ∈ TBG := List.mem_filter.mpr ⟨in_t4 _ (List.mem_of_getElem? (i := 150) (by decide +kernel)), rfl⟩
theorem tw982 : (.instanceMethod yX11_fitsAbove : Cond) ∈ TBG := List.mem_filter.mpr ⟨in_t4 _ (List.mem_of_getElem? (i := 152) (by decide +kernel)), rfl⟩
set_option maxRecDepth 20000 in
theorem tw983 : (.code yX11_fitsAbove cX11_fitsAbove 4 (some .int) : Cond) ∈ TBG := List.mem_filter.mpr ⟨in_t4 _ (List.mem_of_getElem? (i := 153) rfl), rfl⟩
theorem tw984 : (.methodLink RX11 249 yX11_lowestOf : Cond) ∈ TBG := List.mem_filter.mpr ⟨in_t4 _ (List.mem_of_getElem? (i := 154) (by decide +kernel)), rfl⟩
theorem tw985 : (.static yX11_lowestOf : Cond) ∈ TBG := List.mem_filter.mpr ⟨in_t4 _ (List.mem_of_getElem? (i := 155) (by decide +kernel)), rfl⟩
set_option maxRecDepth 20000 in
theorem tw986 : (.code yX11_lowestOf cX11_lowestOf 2 (some .int) : Cond) ∈ TBG := List.mem_filter.mpr ⟨in_t4 _ (List.mem_of_getElem? (i := 156) rfl), rfl⟩
theorem tw987 : (.methodLink RX11 252 yJ6_bitCount_0f7a4 : Cond) ∈ TBG := List.mem_filter.mpr ⟨in_t4 _ (List.mem_of_getElem? (i := 157) (by decide +kernel)), rfl⟩
theorem tw988 : (.methodLink RL 76 yX11_most : Cond) ∈ TBG := List.mem_filter.mpr ⟨in_t4 _ (List.mem_of_getElem? (i := 158) (by decide +kernel)), rfl⟩
theorem tw989 : (.instanceMethod yX11_most : Cond) ∈ TBG := List.mem_filter.mpr ⟨in_t4 _ (List.mem_of_getElem? (i := 159) (by decide +kernel)), rfl⟩
theorem tw990 : (.selects RX11 yX11_most yX11_most : Cond) ∈ TBG := List.mem_filter.mpr ⟨in_t4 _ (List.mem_of_getElem? (i := 160) (by decide +kernel)), rfl⟩
set_option maxRecDepth 20000 in
theorem tw991 : (.code yX11_most cX11_most 3 (some .int) : Cond) ∈ TBG := List.mem_filter.mpr ⟨in_t4 _ (List.mem_of_getElem? (i := 161) rfl), rfl⟩
theorem tw992 : (.methodLink RX11 257 yX0_findMost : Cond) ∈ TBG := List.mem_filter.mpr ⟨in_t4 _ (List.mem_of_getElem? (i := 162) (by decide +kernel)), rfl⟩
theorem tw993 : (.instanceMethod yX0_findMost : Cond) ∈ TBG := List.mem_filter.mpr ⟨in_t4 _ (List.mem_of_getElem? (i := 163) (by decide +kernel)), rfl⟩
theorem tw994 : (.selects RX0 yX0_findMost yX0_findMost : Cond) ∈ TBG := List.mem_filter.mpr ⟨in_t4 _ (List.mem_of_getElem? (i := 164) (by decide +kernel)), rfl⟩
set_option maxRecDepth 20000 in
theorem tw995 : (.code yX0_findMost cX0_findMost 5 (none) : Cond) ∈ TBG := List.mem_filter.mpr ⟨in_t4 _ (List.mem_of_getElem? (i := 165) rfl), rfl⟩
theorem tw996 : (.methodLink RX0 58 yX0_gather : Cond) ∈ TBG := List.mem_filter.mpr ⟨in_t4 _ (List.mem_of_getElem? (i := 166) (by decide +kernel)), rfl⟩
theorem tw998 : (.instanceMethod yX0_gather : Cond) ∈ TBG := List.mem_filter.mpr ⟨in_t4 _ (List.mem_of_getElem? (i := 168) (by decide +kernel)), rfl⟩
set_option maxRecDepth 20000 in
theorem tw999 : (.code yX0_gather cX0_gather 3 (none) : Cond) ∈ TBG := List.mem_filter.mpr ⟨in_t4 _ (List.mem_of_getElem? (i := 169) rfl), rfl⟩
theorem tw1000 : (.methodLink RX0 49 yX3_isAlive : Cond) ∈ TBG := List.mem_filter.mpr ⟨in_t4 _ (List.mem_of_getElem? (i := 170) (by decide +kernel)), rfl⟩
theorem tw1001 : (.methodLink RX0 62 yX2_fit : Cond) ∈ TBG := List.mem_filter.mpr ⟨in_t4 _ (List.mem_of_getElem? (i := 171) (by decide +kernel)), rfl⟩
theorem tw1002 : (.methodLink RX0 68 yX2_slackOf : Cond) ∈ TBG := List.mem_filter.mpr ⟨in_t4 _ (List.mem_of_getElem? (i := 172) (by decide +kernel)), rfl⟩
theorem tw1003 : (.methodLink RX0 72 yX0_weighAll : Cond) ∈ TBG := List.mem_filter.mpr ⟨in_t4 _ (List.mem_of_getElem? (i := 173) (by decide +kernel)), rfl⟩
theorem tw1005 : (.instanceMethod yX0_weighAll : Cond) ∈ TBG := List.mem_filter.mpr ⟨in_t4 _ (List.mem_of_getElem? (i := 175) (by decide +kernel)), rfl⟩
set_option maxRecDepth 20000 in
theorem tw1006 : (.code yX0_weighAll cX0_weighAll 6 (none) : Cond) ∈ TBG := List.mem_filter.mpr ⟨in_t4 _ (List.mem_of_getElem? (i := 176) rfl), rfl⟩
theorem tw1007 : (.methodLink RX0 79 yX0_setBest : Cond) ∈ TBG := List.mem_filter.mpr ⟨in_t4 _ (List.mem_of_getElem? (i := 177) (by decide +kernel)), rfl⟩
theorem tw1009 : (.instanceMethod yX0_setBest : Cond) ∈ TBG := List.mem_filter.mpr ⟨in_t4 _ (List.mem_of_getElem? (i := 179) (by decide +kernel)), rfl⟩
set_option maxRecDepth 20000 in
theorem tw1010 : (.code yX0_setBest cX0_setBest 5 (none) : Cond) ∈ TBG := List.mem_filter.mpr ⟨in_t4 _ (List.mem_of_getElem? (i := 180) rfl), rfl⟩
theorem tw1011 : (.methodLink RX0 83 yX0_bestOf : Cond) ∈ TBG := List.mem_filter.mpr ⟨in_t4 _ (List.mem_of_getElem? (i := 181) (by decide +kernel)), rfl⟩
theorem tw1013 : (.instanceMethod yX0_bestOf : Cond) ∈ TBG := List.mem_filter.mpr ⟨in_t4 _ (List.mem_of_getElem? (i := 183) (by decide +kernel)), rfl⟩
set_option maxRecDepth 20000 in
theorem tw1014 : (.code yX0_bestOf cX0_bestOf 4 (some .int) : Cond) ∈ TBG := List.mem_filter.mpr ⟨in_t4 _ (List.mem_of_getElem? (i := 184) rfl), rfl⟩
theorem tw1015 : (.methodLink RX0 86 yX0_withBond : Cond) ∈ TBG := List.mem_filter.mpr ⟨in_t4 _ (List.mem_of_getElem? (i := 185) (by decide +kernel)), rfl⟩
theorem tw1017 : (.instanceMethod yX0_withBond : Cond) ∈ TBG := List.mem_filter.mpr ⟨in_t4 _ (List.mem_of_getElem? (i := 187) (by decide +kernel)), rfl⟩
set_option maxRecDepth 20000 in
theorem tw1018 : (.code yX0_withBond cX0_withBond 4 (some .int) : Cond) ∈ TBG := List.mem_filter.mpr ⟨in_t4 _ (List.mem_of_getElem? (i := 188) rfl), rfl⟩
theorem tw1019 : (.methodLink RX0 90 yJ9_max_7cf53 : Cond) ∈ TBG := List.mem_filter.mpr ⟨in_t4 _ (List.mem_of_getElem? (i := 189) (by decide +kernel)), rfl⟩
theorem tw1020 : (.methodLink RX0 75 yX0_choose : Cond) ∈ TBG := List.mem_filter.mpr ⟨in_t4 _ (List.mem_of_getElem? (i := 190) (by decide +kernel)), rfl⟩
theorem tw1022 : (.instanceMethod yX0_choose : Cond) ∈ TBG := List.mem_filter.mpr ⟨in_t4 _ (List.mem_of_getElem? (i := 192) (by decide +kernel)), rfl⟩
set_option maxRecDepth 20000 in
theorem tw1023 : (.code yX0_choose cX0_choose 4 (some .int) : Cond) ∈ TBG := List.mem_filter.mpr ⟨in_t4 _ (List.mem_of_getElem? (i := 193) rfl), rfl⟩
theorem tw1024 : (.methodLink RL 80 yX11_stable : Cond) ∈ TBG := List.mem_filter.mpr ⟨in_t4 _ (List.mem_of_getElem? (i := 194) (by decide +kernel)), rfl⟩
theorem tw1025 : (.instanceMethod yX11_stable : Cond) ∈ TBG := List.mem_filter.mpr ⟨in_t4 _ (List.mem_of_getElem? (i := 195) (by decide +kernel)), rfl⟩
theorem tw1026 : (.selects RX11 yX11_stable yX11_stable : Cond) ∈ TBG := List.mem_filter.mpr ⟨in_t4 _ (List.mem_of_getElem? (i := 196) (by decide +kernel)), rfl⟩
set_option maxRecDepth 20000 in
theorem tw1027 : (.code yX11_stable cX11_stable 3 (some .int) : Cond) ∈ TBG := List.mem_filter.mpr ⟨in_t4 _ (List.mem_of_getElem? (i := 197) rfl), rfl⟩
theorem tw1028 : (.methodLink RX11 269 yX0_findStable : Cond) ∈ TBG := List.mem_filter.mpr ⟨in_t4 _ (List.mem_of_getElem? (i := 198) (by decide +kernel)), rfl⟩
theorem tw1029 : (.instanceMethod yX0_findStable : Cond) ∈ TBG := List.mem_filter.mpr ⟨in_t4 _ (List.mem_of_getElem? (i := 199) (by decide +kernel)), rfl⟩
theorem tw1030 : (.selects RX0 yX0_findStable yX0_findStable : Cond) ∈ TBG := List.mem_filter.mpr ⟨in_t4 _ (List.mem_of_getElem? (i := 200) (by decide +kernel)), rfl⟩
set_option maxRecDepth 20000 in
theorem tw1031 : (.code yX0_findStable cX0_findStable 7 (none) : Cond) ∈ TBG := List.mem_filter.mpr ⟨in_t4 _ (List.mem_of_getElem? (i := 201) rfl), rfl⟩
theorem tw1032 : (.methodLink RX0 95 yX2_liking : Cond) ∈ TBG := List.mem_filter.mpr ⟨in_t4 _ (List.mem_of_getElem? (i := 202) (by decide +kernel)), rfl⟩
theorem tw1033 : (.methodLink RX0 98 yX0_askNext : Cond) ∈ TBG := List.mem_filter.mpr ⟨in_t4 _ (List.mem_of_getElem? (i := 203) (by decide +kernel)), rfl⟩
theorem tw1035 : (.instanceMethod yX0_askNext : Cond) ∈ TBG := List.mem_filter.mpr ⟨in_t4 _ (List.mem_of_getElem? (i := 205) (by decide +kernel)), rfl⟩
set_option maxRecDepth 20000 in
theorem tw1036 : (.code yX0_askNext cX0_askNext 6 (some .boolean) : Cond) ∈ TBG := List.mem_filter.mpr ⟨in_t4 _ (List.mem_of_getElem? (i := 206) rfl), rfl⟩
theorem tw1037 : (.methodLink RX0 101 yX0_prefers : Cond) ∈ TBG := List.mem_filter.mpr ⟨in_t4 _ (List.mem_of_getElem? (i := 207) (by decide +kernel)), rfl⟩
theorem tw1039 : (.instanceMethod yX0_prefers : Cond) ∈ TBG := List.mem_filter.mpr ⟨in_t4 _ (List.mem_of_getElem? (i := 209) (by decide +kernel)), rfl⟩
set_option maxRecDepth 20000 in
theorem tw1040 : (.code yX0_prefers cX0_prefers 4 (some .boolean) : Cond) ∈ TBG := List.mem_filter.mpr ⟨in_t4 _ (List.mem_of_getElem? (i := 210) rfl), rfl⟩
theorem tw1041 : (.methodLink RL 84 yX11_unrest : Cond) ∈ TBG := List.mem_filter.mpr ⟨in_t4 _ (List.mem_of_getElem? (i := 211) (by decide +kernel)), rfl⟩
theorem tw1042 : (.instanceMethod yX11_unrest : Cond) ∈ TBG := List.mem_filter.mpr ⟨in_t4 _ (List.mem_of_getElem? (i := 212) (by decide +kernel)), rfl⟩
theorem tw1043 : (.selects RX11 yX11_unrest yX11_unrest : Cond) ∈ TBG := List.mem_filter.mpr ⟨in_t4 _ (List.mem_of_getElem? (i := 213) (by decide +kernel)), rfl⟩
set_option maxRecDepth 20000 in
theorem tw1044 : (.code yX11_unrest cX11_unrest 6 (some .int) : Cond) ∈ TBG := List.mem_filter.mpr ⟨in_t4 _ (List.mem_of_getElem? (i := 214) rfl), rfl⟩
theorem tw1045 : (.methodLink RX11 272 yX11_wouldLeave : Cond) ∈ TBG := List.mem_filter.mpr ⟨in_t4 _ (List.mem_of_getElem? (i := 215) (by decide +kernel)), rfl⟩
theorem tw1047 : (.instanceMethod yX11_wouldLeave : Cond) ∈ TBG := List.mem_filter.mpr ⟨in_t4 _ (List.mem_of_getElem? (i := 217) (by decide +kernel)), rfl⟩
set_option maxRecDepth 20000 in
theorem tw1048 : (.code yX11_wouldLeave cX11_wouldLeave 3 (some .boolean) : Cond) ∈ TBG := List.mem_filter.mpr ⟨in_t4 _ (List.mem_of_getElem? (i := 218) rfl), rfl⟩
theorem tw1049 : (.methodLink RX11 276 yX11_likingNow : Cond) ∈ TBG := List.mem_filter.mpr ⟨in_t4 _ (List.mem_of_getElem? (i := 219) (by decide +kernel)), rfl⟩
theorem tw1051 : (.instanceMethod yX11_likingNow : Cond) ∈ TBG := List.mem_filter.mpr ⟨in_t4 _ (List.mem_of_getElem? (i := 221) (by decide +kernel)), rfl⟩
set_option maxRecDepth 20000 in
theorem tw1052 : (.code yX11_likingNow cX11_likingNow 3 (some .int) : Cond) ∈ TBG := List.mem_filter.mpr ⟨in_t4 _ (List.mem_of_getElem? (i := 222) rfl), rfl⟩
theorem tw1053 : (.methodLink RL 88 yX11_search : Cond) ∈ TBG := List.mem_filter.mpr ⟨in_t4 _ (List.mem_of_getElem? (i := 223) (by decide +kernel)), rfl⟩
theorem tw1054 : (.instanceMethod yX11_search : Cond) ∈ TBG := List.mem_filter.mpr ⟨in_t4 _ (List.mem_of_getElem? (i := 224) (by decide +kernel)), rfl⟩
theorem tw1055 : (.selects RX11 yX11_search yX11_search : Cond) ∈ TBG := List.mem_filter.mpr ⟨in_t4 _ (List.mem_of_getElem? (i := 225) (by decide +kernel)), rfl⟩
set_option maxRecDepth 20000 in
theorem tw1056 : (.code yX11_search cX11_search 5 (some .int) : Cond) ∈ TBG := List.mem_filter.mpr ⟨in_t4 _ (List.mem_of_getElem? (i := 226) rfl), rfl⟩
theorem tw1057 : (.methodLink RX11 279 yX9_accept : Cond) ∈ TBG := List.mem_filter.mpr ⟨in_t4 _ (List.mem_of_getElem? (i := 227) (by decide +kernel)), rfl⟩
theorem tw1058 : (.instanceMethod yX9_accept : Cond) ∈ TBG := List.mem_filter.mpr ⟨in_t4 _ (List.mem_of_getElem? (i := 228) (by decide +kernel)), rfl⟩
theorem tw1059 : (.selects RX9 yX9_accept yX9_accept : Cond) ∈ TBG := List.mem_filter.mpr ⟨in_t4 _ (List.mem_of_getElem? (i := 229) (by decide +kernel)), rfl⟩
set_option maxRecDepth 20000 in
theorem tw1060 : (.code yX9_accept cX9_accept 5 (some .boolean) : Cond) ∈ TBG := List.mem_filter.mpr ⟨in_t4 _ (List.mem_of_getElem? (i := 230) rfl), rfl⟩
theorem tw1061 : (.methodLink RX9 30 yJ9_min_7cf53 : Cond) ∈ TBG := List.mem_filter.mpr ⟨in_t4 _ (List.mem_of_getElem? (i := 231) (by decide +kernel)), rfl⟩
theorem tw1062 : (.methodLink RX9 36 yJ9_max_7cf53 : Cond) ∈ TBG := List.mem_filter.mpr ⟨in_t4 _ (List.mem_of_getElem? (i := 232) (by decide +kernel)), rfl⟩
theorem tw1063 : (.methodLink RX11 282 yX9_find : Cond) ∈ TBG := List.mem_filter.mpr ⟨in_t4 _ (List.mem_of_getElem? (i := 233) (by decide +kernel)), rfl⟩
theorem tw1064 : (.instanceMethod yX9_find : Cond) ∈ TBG := List.mem_filter.mpr ⟨in_t4 _ (List.mem_of_getElem? (i := 234) (by decide +kernel)), rfl⟩
theorem tw1065 : (.selects RX9 yX9_find yX9_find : Cond) ∈ TBG := List.mem_filter.mpr ⟨in_t4 _ (List.mem_of_getElem? (i := 235) (by decide +kernel)), rfl⟩
set_option maxRecDepth 20000 in
theorem tw1066 : (.code yX9_find cX9_find 3 (none) : Cond) ∈ TBG := List.mem_filter.mpr ⟨in_t4 _ (List.mem_of_getElem? (i := 236) rfl), rfl⟩
theorem tw1067 : (.methodLink RX9 54 yX9_weigh : Cond) ∈ TBG := List.mem_filter.mpr ⟨in_t4 _ (List.mem_of_getElem? (i := 237) (by decide +kernel)), rfl⟩
theorem tw1069 : (.instanceMethod yX9_weigh : Cond) ∈ TBG := List.mem_filter.mpr ⟨in_t4 _ (List.mem_of_getElem? (i := 239) (by decide +kernel)), rfl⟩
set_option maxRecDepth 20000 in
theorem tw1070 : (.code yX9_weigh cX9_weigh 4 (none) : Cond) ∈ TBG := List.mem_filter.mpr ⟨in_t5 _ (List.mem_of_getElem? (i := 0) rfl), rfl⟩
theorem tw1071 : (.methodLink RX9 61 ⟨"java/lang/System", "arraycopy", "(Ljava/lang/Object;ILjava/lang/Object;II)V"⟩ : Cond) ∈ TBG := List.mem_filter.mpr ⟨in_t5 _ (List.mem_of_getElem? (i := 1) (by decide +kernel)), rfl⟩
theorem tw1072 : (.methodLink RX9 57 yX9_nextOrder : Cond) ∈ TBG := List.mem_filter.mpr ⟨in_t5 _ (List.mem_of_getElem? (i := 2) (by decide +kernel)), rfl⟩
theorem tw1074 : (.instanceMethod yX9_nextOrder : Cond) ∈ TBG := List.mem_filter.mpr ⟨in_t5 _ (List.mem_of_getElem? (i := 4) (by decide +kernel)), rfl⟩
set_option maxRecDepth 20000 in
theorem tw1075 : (.code yX9_nextOrder cX9_nextOrder 5 (some .boolean) : Cond) ∈ TBG := List.mem_filter.mpr ⟨in_t5 _ (List.mem_of_getElem? (i := 5) rfl), rfl⟩
theorem tw1076 : (.methodLink RX9 67 yX9_swap : Cond) ∈ TBG := List.mem_filter.mpr ⟨in_t5 _ (List.mem_of_getElem? (i := 6) (by decide +kernel)), rfl⟩
theorem tw1078 : (.instanceMethod yX9_swap : Cond) ∈ TBG := List.mem_filter.mpr ⟨in_t5 _ (List.mem_of_getElem? (i := 8) (by decide +kernel)), rfl⟩
set_option maxRecDepth 20000 in
theorem tw1079 : (.code yX9_swap cX9_swap 4 (none) : Cond) ∈ TBG := List.mem_filter.mpr ⟨in_t5 _ (List.mem_of_getElem? (i := 9) rfl), rfl⟩
theorem tw1080 : (.methodLink RX11 288 yX9_above : Cond) ∈ TBG := List.mem_filter.mpr ⟨in_t5 _ (List.mem_of_getElem? (i := 10) (by decide +kernel)), rfl⟩
theorem tw1081 : (.instanceMethod yX9_above : Cond) ∈ TBG := List.mem_filter.mpr ⟨in_t5 _ (List.mem_of_getElem? (i := 11) (by decide +kernel)), rfl⟩
theorem tw1082 : (.selects RX9 yX9_above yX9_above : Cond) ∈ TBG := List.mem_filter.mpr ⟨in_t5 _ (List.mem_of_getElem? (i := 12) (by decide +kernel)), rfl⟩
set_option maxRecDepth 20000 in
theorem tw1083 : (.code yX9_above cX9_above 2 (some .int) : Cond) ∈ TBG := List.mem_filter.mpr ⟨in_t5 _ (List.mem_of_getElem? (i := 13) rfl), rfl⟩
theorem tw1084 : (.methodLink RX9 71 yX9_commonDivisor : Cond) ∈ TBG := List.mem_filter.mpr ⟨in_t5 _ (List.mem_of_getElem? (i := 14) (by decide +kernel)), rfl⟩
theorem tw1086 : (.instanceMethod yX9_commonDivisor : Cond) ∈ TBG := List.mem_filter.mpr ⟨in_t5 _ (List.mem_of_getElem? (i := 16) (by decide +kernel)), rfl⟩
set_option maxRecDepth 20000 in
theorem tw1087 : (.code yX9_commonDivisor cX9_commonDivisor 5 (some .int) : Cond) ∈ TBG := List.mem_filter.mpr ⟨in_t5 _ (List.mem_of_getElem? (i := 17) rfl), rfl⟩
theorem tw1088 : (.methodLink RX11 291 yX9_below : Cond) ∈ TBG := List.mem_filter.mpr ⟨in_t5 _ (List.mem_of_getElem? (i := 18) (by decide +kernel)), rfl⟩
theorem tw1089 : (.instanceMethod yX9_below : Cond) ∈ TBG := List.mem_filter.mpr ⟨in_t5 _ (List.mem_of_getElem? (i := 19) (by decide +kernel)), rfl⟩
theorem tw1090 : (.selects RX9 yX9_below yX9_below : Cond) ∈ TBG := List.mem_filter.mpr ⟨in_t5 _ (List.mem_of_getElem? (i := 20) (by decide +kernel)), rfl⟩
set_option maxRecDepth 20000 in
theorem tw1091 : (.code yX9_below cX9_below 2 (some .int) : Cond) ∈ TBG := List.mem_filter.mpr ⟨in_t5 _ (List.mem_of_getElem? (i := 21) rfl), rfl⟩
theorem tw1092 : (.methodLink RL 92 yX11_sanding : Cond) ∈ TBG := List.mem_filter.mpr ⟨in_t5 _ (List.mem_of_getElem? (i := 22) (by decide +kernel)), rfl⟩
theorem tw1093 : (.instanceMethod yX11_sanding : Cond) ∈ TBG := List.mem_filter.mpr ⟨in_t5 _ (List.mem_of_getElem? (i := 23) (by decide +kernel)), rfl⟩
theorem tw1094 : (.selects RX11 yX11_sanding yX11_sanding : Cond) ∈ TBG := List.mem_filter.mpr ⟨in_t5 _ (List.mem_of_getElem? (i := 24) (by decide +kernel)), rfl⟩
set_option maxRecDepth 20000 in
theorem tw1095 : (.code yX11_sanding cX11_sanding 11 (some .int) : Cond) ∈ TBG := List.mem_filter.mpr ⟨in_t5 _ (List.mem_of_getElem? (i := 25) rfl), rfl⟩
theorem tw1096 : (.methodLink RX11 294 yX11_canSand : Cond) ∈ TBG := List.mem_filter.mpr ⟨in_t5 _ (List.mem_of_getElem? (i := 26) (by decide +kernel)), rfl⟩
theorem tw1098 : (.instanceMethod yX11_canSand : Cond) ∈ TBG := List.mem_filter.mpr ⟨in_t5 _ (List.mem_of_getElem? (i := 28) (by decide +kernel)), rfl⟩
set_option maxRecDepth 20000 in
theorem tw1099 : (.code yX11_canSand cX11_canSand 4 (some .boolean) : Cond) ∈ TBG := List.mem_filter.mpr ⟨in_t5 _ (List.mem_of_getElem? (i := 29) rfl), rfl⟩
theorem tw1100 : (.methodLink RX11 298 yX8_sand : Cond) ∈ TBG := List.mem_filter.mpr ⟨in_t5 _ (List.mem_of_getElem? (i := 30) (by decide +kernel)), rfl⟩
theorem tw1101 : (.instanceMethod yX8_sand : Cond) ∈ TBG := List.mem_filter.mpr ⟨in_t5 _ (List.mem_of_getElem? (i := 31) (by decide +kernel)), rfl⟩
theorem tw1102 : (.selects RX8 yX8_sand yX8_sand : Cond) ∈ TBG := List.mem_filter.mpr ⟨in_t5 _ (List.mem_of_getElem? (i := 32) (by decide +kernel)), rfl⟩
set_option maxRecDepth 20000 in
theorem tw1103 : (.code yX8_sand cX8_sand 14 (none) : Cond) ∈ TBG := List.mem_filter.mpr ⟨in_t5 _ (List.mem_of_getElem? (i := 33) rfl), rfl⟩
theorem tw1104 : (.methodLink RX8 28 yJ9_min_7cf53 : Cond) ∈ TBG := List.mem_filter.mpr ⟨in_t5 _ (List.mem_of_getElem? (i := 34) (by decide +kernel)), rfl⟩
theorem tw1105 : (.methodLink RX8 34 yJ9_max_7cf53 : Cond) ∈ TBG := List.mem_filter.mpr ⟨in_t5 _ (List.mem_of_getElem? (i := 35) (by decide +kernel)), rfl⟩
theorem tw1106 : (.methodLink RX8 37 yJ7_fill_d0a16 : Cond) ∈ TBG := List.mem_filter.mpr ⟨in_t5 _ (List.mem_of_getElem? (i := 36) (by decide +kernel)), rfl⟩
theorem tw1107 : (.static yJ7_fill_d0a16 : Cond) ∈ TBG := List.mem_filter.mpr ⟨in_t5 _ (List.mem_of_getElem? (i := 37) (by decide +kernel)), rfl⟩
set_option maxRecDepth 20000 in
theorem tw1108 : (.code yJ7_fill_d0a16 cJ7_fill_d0a16 5 (none) : Cond) ∈ TBG := List.mem_filter.mpr ⟨in_t5 _ (List.mem_of_getElem? (i := 38) rfl), rfl⟩
theorem tw1109 : (.methodLink RX8 43 yX8_weigh : Cond) ∈ TBG := List.mem_filter.mpr ⟨in_t5 _ (List.mem_of_getElem? (i := 39) (by decide +kernel)), rfl⟩
theorem tw1111 : (.instanceMethod yX8_weigh : Cond) ∈ TBG := List.mem_filter.mpr ⟨in_t5 _ (List.mem_of_getElem? (i := 41) (by decide +kernel)), rfl⟩
set_option maxRecDepth 20000 in
theorem tw1112 : (.code yX8_weigh cX8_weigh 8 (none) : Cond) ∈ TBG := List.mem_filter.mpr ⟨in_t5 _ (List.mem_of_getElem? (i := 42) rfl), rfl⟩
theorem tw1113 : (.methodLink RX8 70 yJ9_abs_0f7a4 : Cond) ∈ TBG := List.mem_filter.mpr ⟨in_t5 _ (List.mem_of_getElem? (i := 43) (by decide +kernel)), rfl⟩
theorem tw1114 : (.constantLong RX8 74 (16983563041) : Cond) ∈ TBG := List.mem_filter.mpr ⟨in_t5 _ (List.mem_of_getElem? (i := 44) (by decide +kernel)), rfl⟩
theorem tw1115 : (.methodLink RX8 47 yJ7_fill_53178 : Cond) ∈ TBG := List.mem_filter.mpr ⟨in_t5 _ (List.mem_of_getElem? (i := 45) (by decide +kernel)), rfl⟩
theorem tw1116 : (.methodLink RX8 50 yX8_bestHere : Cond) ∈ TBG := List.mem_filter.mpr ⟨in_t5 _ (List.mem_of_getElem? (i := 46) (by decide +kernel)), rfl⟩
theorem tw1118 : (.instanceMethod yX8_bestHere : Cond) ∈ TBG := List.mem_filter.mpr ⟨in_t5 _ (List.mem_of_getElem? (i := 48) (by decide +kernel)), rfl⟩
set_option maxRecDepth 20000 in
theorem tw1119 : (.code yX8_bestHere cX8_bestHere 8 (some .long) : Cond) ∈ TBG := List.mem_filter.mpr ⟨in_t5 _ (List.mem_of_getElem? (i := 49) rfl), rfl⟩
theorem tw1120 : (.constantLong RX8 76 (4611686018427387904) : Cond) ∈ TBG := List.mem_filter.mpr ⟨in_t5 _ (List.mem_of_getElem? (i := 50) (by decide +kernel)), rfl⟩
theorem tw1121 : (.methodLink RX8 56 yX8_leastOf : Cond) ∈ TBG := List.mem_filter.mpr ⟨in_t5 _ (List.mem_of_getElem? (i := 51) (by decide +kernel)), rfl⟩
theorem tw1123 : (.instanceMethod yX8_leastOf : Cond) ∈ TBG := List.mem_filter.mpr ⟨in_t5 _ (List.mem_of_getElem? (i := 53) (by decide +kernel)), rfl⟩
set_option maxRecDepth 20000 in
theorem tw1124 : (.code yX8_leastOf cX8_leastOf 3 (some .long) : Cond) ∈ TBG := List.mem_filter.mpr ⟨in_t5 _ (List.mem_of_getElem? (i := 54) rfl), rfl⟩
theorem tw1125 : (.methodLink RX8 78 yJ9_min_f86c9 : Cond) ∈ TBG := List.mem_filter.mpr ⟨in_t5 _ (List.mem_of_getElem? (i := 55) (by decide +kernel)), rfl⟩
theorem tw1126 : (.static yJ9_min_f86c9 : Cond) ∈ TBG := List.mem_filter.mpr ⟨in_t5 _ (List.mem_of_getElem? (i := 56) (by decide +kernel)), rfl⟩
set_option maxRecDepth 20000 in
theorem tw1127 : (.code yJ9_min_f86c9 cJ9_min_f86c9 4 (some .long) : Cond) ∈ TBG := List.mem_filter.mpr ⟨in_t5 _ (List.mem_of_getElem? (i := 57) rfl), rfl⟩
theorem tw1128 : (.constantLong RX8 54 (19) : Cond) ∈ TBG := List.mem_filter.mpr ⟨in_t5 _ (List.mem_of_getElem? (i := 58) (by decide +kernel)), rfl⟩
theorem tw1129 : (.methodLink RX8 59 yX8_read : Cond) ∈ TBG := List.mem_filter.mpr ⟨in_t5 _ (List.mem_of_getElem? (i := 59) (by decide +kernel)), rfl⟩
theorem tw1131 : (.instanceMethod yX8_read : Cond) ∈ TBG := List.mem_filter.mpr ⟨in_t5 _ (List.mem_of_getElem? (i := 61) (by decide +kernel)), rfl⟩
set_option maxRecDepth 20000 in
theorem tw1132 : (.code yX8_read cX8_read 6 (none) : Cond) ∈ TBG := List.mem_filter.mpr ⟨in_t5 _ (List.mem_of_getElem? (i := 62) rfl), rfl⟩
theorem tw1133 : (.methodLink RX11 311 yX11_fitOthers : Cond) ∈ TBG := List.mem_filter.mpr ⟨in_t5 _ (List.mem_of_getElem? (i := 63) (by decide +kernel)), rfl⟩
theorem tw1135 : (.instanceMethod yX11_fitOthers : Cond) ∈ TBG := List.mem_filter.mpr ⟨in_t5 _ (List.mem_of_getElem? (i := 65) (by decide +kernel)), rfl⟩
set_option maxRecDepth 20000 in
theorem tw1136 : (.code yX11_fitOthers cX11_fitOthers 7 (some .int) : Cond) ∈ TBG := List.mem_filter.mpr ⟨in_t5 _ (List.mem_of_getElem? (i := 66) rfl), rfl⟩
theorem tw1137 : (.methodLink RX11 315 yX2_gap : Cond) ∈ TBG := List.mem_filter.mpr ⟨in_t5 _ (List.mem_of_getElem? (i := 67) (by decide +kernel)), rfl⟩
theorem tw1138 : (.methodLink RL 97 yX11_steaming : Cond) ∈ TBG := List.mem_filter.mpr ⟨in_t5 _ (List.mem_of_getElem? (i := 68) (by decide +kernel)), rfl⟩
theorem tw1139 : (.instanceMethod yX11_steaming : Cond) ∈ TBG := List.mem_filter.mpr ⟨in_t5 _ (List.mem_of_getElem? (i := 69) (by decide +kernel)), rfl⟩
theorem tw1140 : (.selects RX11 yX11_steaming yX11_steaming : Cond) ∈ TBG := List.mem_filter.mpr ⟨in_t5 _ (List.mem_of_getElem? (i := 70) (by decide +kernel)), rfl⟩
set_option maxRecDepth 20000 in
theorem tw1141 : (.code yX11_steaming cX11_steaming 5 (some .int) : Cond) ∈ TBG := List.mem_filter.mpr ⟨in_t5 _ (List.mem_of_getElem? (i := 71) rfl), rfl⟩
theorem tw1142 : (.methodLink RX11 319 yX8_steam : Cond) ∈ TBG := List.mem_filter.mpr ⟨in_t5 _ (List.mem_of_getElem? (i := 72) (by decide +kernel)), rfl⟩
theorem tw1143 : (.instanceMethod yX8_steam : Cond) ∈ TBG := List.mem_filter.mpr ⟨in_t5 _ (List.mem_of_getElem? (i := 73) (by decide +kernel)), rfl⟩
theorem tw1144 : (.selects RX8 yX8_steam yX8_steam : Cond) ∈ TBG := List.mem_filter.mpr ⟨in_t5 _ (List.mem_of_getElem? (i := 74) (by decide +kernel)), rfl⟩
set_option maxRecDepth 20000 in
theorem tw1145 : (.code yX8_steam cX8_steam 9 (none) : Cond) ∈ TBG := List.mem_filter.mpr ⟨in_t5 _ (List.mem_of_getElem? (i := 75) rfl), rfl⟩
theorem tw1146 : (.methodLink RX8 88 yX2_gap : Cond) ∈ TBG := List.mem_filter.mpr ⟨in_t5 _ (List.mem_of_getElem? (i := 76) (by decide +kernel)), rfl⟩
theorem tw1147 : (.methodLink RL 102 yX11_worn : Cond) ∈ TBG := List.mem_filter.mpr ⟨in_t5 _ (List.mem_of_getElem? (i := 77) (by decide +kernel)), rfl⟩
theorem tw1148 : (.instanceMethod yX11_worn : Cond) ∈ TBG := List.mem_filter.mpr ⟨in_t5 _ (List.mem_of_getElem? (i := 78) (by decide +kernel)), rfl⟩
theorem tw1149 : (.selects RX11 yX11_worn yX11_worn : Cond) ∈ TBG := List.mem_filter.mpr ⟨in_t5 _ (List.mem_of_getElem? (i := 79) (by decide +kernel)), rfl⟩
set_option maxRecDepth 20000 in
theorem tw1150 : (.code yX11_worn cX11_worn 7 (some .int) : Cond) ∈ TBG := List.mem_filter.mpr ⟨in_t5 _ (List.mem_of_getElem? (i := 80) rfl), rfl⟩
theorem tw1151 : (.methodLink RX11 329 yX2_allowance : Cond) ∈ TBG := List.mem_filter.mpr ⟨in_t5 _ (List.mem_of_getElem? (i := 81) (by decide +kernel)), rfl⟩
theorem tw1152 : (.methodLink RX11 332 yX2_wearOf : Cond) ∈ TBG := List.mem_filter.mpr ⟨in_t5 _ (List.mem_of_getElem? (i := 82) (by decide +kernel)), rfl⟩
theorem tw1153 : (.methodLink RX11 335 yX3_wearDown : Cond) ∈ TBG := List.mem_filter.mpr ⟨in_t5 _ (List.mem_of_getElem? (i := 83) (by decide +kernel)), rfl⟩
theorem tw1154 : (.methodLink RL 106 yX11_cutter : Cond) ∈ TBG := List.mem_filter.mpr ⟨in_t5 _ (List.mem_of_getElem? (i := 84) (by decide +kernel)), rfl⟩
theorem tw1155 : (.instanceMethod yX11_cutter : Cond) ∈ TBG := List.mem_filter.mpr ⟨in_t5 _ (List.mem_of_getElem? (i := 85) (by decide +kernel)), rfl⟩
theorem tw1156 : (.selects RX11 yX11_cutter yX11_cutter : Cond) ∈ TBG := List.mem_filter.mpr ⟨in_t5 _ (List.mem_of_getElem? (i := 86) (by decide +kernel)), rfl⟩
set_option maxRecDepth 20000 in
theorem tw1157 : (.code yX11_cutter cX11_cutter 7 (some .int) : Cond) ∈ TBG := List.mem_filter.mpr ⟨in_t5 _ (List.mem_of_getElem? (i := 87) rfl), rfl⟩
theorem tw1158 : (.methodLink RX11 341 yX11_rulesAll : Cond) ∈ TBG := List.mem_filter.mpr ⟨in_t5 _ (List.mem_of_getElem? (i := 88) (by decide +kernel)), rfl⟩
theorem tw1160 : (.instanceMethod yX11_rulesAll : Cond) ∈ TBG := List.mem_filter.mpr ⟨in_t5 _ (List.mem_of_getElem? (i := 90) (by decide +kernel)), rfl⟩
set_option maxRecDepth 20000 in
theorem tw1161 : (.code yX11_rulesAll cX11_rulesAll 6 (some .boolean) : Cond) ∈ TBG := List.mem_filter.mpr ⟨in_t5 _ (List.mem_of_getElem? (i := 91) rfl), rfl⟩
theorem tw1162 : (.methodLink RX11 348 yX11_cut : Cond) ∈ TBG := List.mem_filter.mpr ⟨in_t5 _ (List.mem_of_getElem? (i := 92) (by decide +kernel)), rfl⟩
theorem tw1164 : (.instanceMethod yX11_cut : Cond) ∈ TBG := List.mem_filter.mpr ⟨in_t5 _ (List.mem_of_getElem? (i := 94) (by decide +kernel)), rfl⟩
set_option maxRecDepth 20000 in
theorem tw1165 : (.code yX11_cut cX11_cut 7 (none) : Cond) ∈ TBG := List.mem_filter.mpr ⟨in_t5 _ (List.mem_of_getElem? (i := 95) rfl), rfl⟩
theorem tw1166 : (.methodLink RX11 352 yX11_sameRow : Cond) ∈ TBG := List.mem_filter.mpr ⟨in_t5 _ (List.mem_of_getElem? (i := 96) (by decide +kernel)), rfl⟩
theorem tw1167 : (.static yX11_sameRow : Cond) ∈ TBG := List.mem_filter.mpr ⟨in_t5 _ (List.mem_of_getElem? (i := 97) (by decide +kernel)), rfl⟩
set_option maxRecDepth 20000 in
theorem tw1168 : (.code yX11_sameRow cX11_sameRow 3 (some .boolean) : Cond) ∈ TBG := List.mem_filter.mpr ⟨in_t5 _ (List.mem_of_getElem? (i := 98) rfl), rfl⟩
theorem tw1169 : (.methodLink RX11 344 yX11_madeBy : Cond) ∈ TBG := List.mem_filter.mpr ⟨in_t5 _ (List.mem_of_getElem? (i := 99) (by decide +kernel)), rfl⟩
theorem tw1171 : (.instanceMethod yX11_madeBy : Cond) ∈ TBG := List.mem_filter.mpr ⟨in_t5 _ (List.mem_of_getElem? (i := 101) (by decide +kernel)), rfl⟩
set_option maxRecDepth 20000 in
theorem tw1172 : (.code yX11_madeBy cX11_madeBy 4 (some .int) : Cond) ∈ TBG := List.mem_filter.mpr ⟨in_t5 _ (List.mem_of_getElem? (i := 102) rfl), rfl⟩
theorem tw1173 : (.methodLink RL 110 yX11_copies : Cond) ∈ TBG := List.mem_filter.mpr ⟨in_t5 _ (List.mem_of_getElem? (i := 103) (by decide +kernel)), rfl⟩
theorem tw1174 : (.instanceMethod yX11_copies : Cond) ∈ TBG := List.mem_filter.mpr ⟨in_t5 _ (List.mem_of_getElem? (i := 104) (by decide +kernel)), rfl⟩
theorem tw1175 : (.selects RX11 yX11_copies yX11_copies : Cond) ∈ TBG := List.mem_filter.mpr ⟨in_t5 _ (List.mem_of_getElem? (i := 105) (by decide +kernel)), rfl⟩
set_option maxRecDepth 20000 in
theorem tw1176 : (.code yX11_copies cX11_copies 7 (some .int) : Cond) ∈ TBG := List.mem_filter.mpr ⟨in_t5 _ (List.mem_of_getElem? (i := 106) rfl), rfl⟩
theorem tw1177 : (.methodLink RL 114 yX11_mate : Cond) ∈ TBG := List.mem_filter.mpr ⟨in_t5 _ (List.mem_of_getElem? (i := 107) (by decide +kernel)), rfl⟩
theorem tw1178 : (.instanceMethod yX11_mate : Cond) ∈ TBG := List.mem_filter.mpr ⟨in_t5 _ (List.mem_of_getElem? (i := 108) (by decide +kernel)), rfl⟩
theorem tw1179 : (.selects RX11 yX11_mate yX11_mate : Cond) ∈ TBG := List.mem_filter.mpr ⟨in_t5 _ (List.mem_of_getElem? (i := 109) (by decide +kernel)), rfl⟩
set_option maxRecDepth 20000 in
theorem tw1180 : (.code yX11_mate cX11_mate 3 (some .int) : Cond) ∈ TBG := List.mem_filter.mpr ⟨in_t5 _ (List.mem_of_getElem? (i := 110) rfl), rfl⟩
theorem tw1181 : (.methodLink RL 118 yX11_seed : Cond) ∈ TBG := List.mem_filter.mpr ⟨in_t5 _ (List.mem_of_getElem? (i := 111) (by decide +kernel)), rfl⟩
theorem tw1182 : (.instanceMethod yX11_seed : Cond) ∈ TBG := List.mem_filter.mpr ⟨in_t5 _ (List.mem_of_getElem? (i := 112) (by decide +kernel)), rfl⟩
theorem tw1183 : (.selects RX11 yX11_seed yX11_seed : Cond) ∈ TBG := List.mem_filter.mpr ⟨in_t5 _ (List.mem_of_getElem? (i := 113) (by decide +kernel)), rfl⟩
set_option maxRecDepth 20000 in
theorem tw1184 : (.code yX11_seed cX11_seed 2 (some .boolean) : Cond) ∈ TBG := List.mem_filter.mpr ⟨in_t5 _ (List.mem_of_getElem? (i := 114) rfl), rfl⟩
theorem tw1185 : (.constant RX11 356 (65535) : Cond) ∈ TBG := List.mem_filter.mpr ⟨in_t5 _ (List.mem_of_getElem? (i := 115) (by decide +kernel)), rfl⟩
theorem tw1186 : (.methodLink RL 122 yX11_keep : Cond) ∈ TBG := List.mem_filter.mpr ⟨in_t5 _ (List.mem_of_getElem? (i := 116) (by decide +kernel)), rfl⟩
theorem tw1187 : (.instanceMethod yX11_keep : Cond) ∈ TBG := List.mem_filter.mpr ⟨in_t5 _ (List.mem_of_getElem? (i := 117) (by decide +kernel)), rfl⟩
theorem tw1188 : (.selects RX11 yX11_keep yX11_keep : Cond) ∈ TBG := List.mem_filter.mpr ⟨in_t5 _ (List.mem_of_getElem? (i := 118) (by decide +kernel)), rfl⟩
set_option maxRecDepth 20000 in
theorem tw1189 : (.code yX11_keep cX11_keep 1 (some .int) : Cond) ∈ TBG := List.mem_filter.mpr ⟨in_t5 _ (List.mem_of_getElem? (i := 119) rfl), rfl⟩
theorem tw1190 : (.methodLink RL 127 yX11_undo : Cond) ∈ TBG := List.mem_filter.mpr ⟨in_t5 _ (List.mem_of_getElem? (i := 120) (by decide +kernel)), rfl⟩
theorem tw1191 : (.instanceMethod yX11_undo : Cond) ∈ TBG := List.mem_filter.mpr ⟨in_t5 _ (List.mem_of_getElem? (i := 121) (by decide +kernel)), rfl⟩
theorem tw1192 : (.selects RX11 yX11_undo yX11_undo : Cond) ∈ TBG := List.mem_filter.mpr ⟨in_t5 _ (List.mem_of_getElem? (i := 122) (by decide +kernel)), rfl⟩
set_option maxRecDepth 20000 in
theorem tw1193 : (.code yX11_undo cX11_undo 1 (some .boolean) : Cond) ∈ TBG := List.mem_filter.mpr ⟨in_t5 _ (List.mem_of_getElem? (i := 123) rfl), rfl⟩
theorem tw1194 : (.methodLink RL 132 yX11_check : Cond) ∈ TBG := List.mem_filter.mpr ⟨in_t5 _ (List.mem_of_getElem? (i := 124) (by decide +kernel)), rfl⟩
theorem tw1195 : (.instanceMethod yX11_check : Cond) ∈ TBG := List.mem_filter.mpr ⟨in_t5 _ (List.mem_of_getElem? (i := 125) (by decide +kernel)), rfl⟩
theorem tw1196 : (.selects RX11 yX11_check yX11_check : Cond) ∈ TBG := List.mem_filter.mpr ⟨in_t5 _ (List.mem_of_getElem? (i := 126) (by decide +kernel)), rfl⟩
set_option maxRecDepth 20000 in
theorem tw1197 : (.code yX11_check cX11_check 4 (some .int) : Cond) ∈ TBG := List.mem_filter.mpr ⟨in_t5 _ (List.mem_of_getElem? (i := 127) rfl), rfl⟩
theorem tw1198 : (.methodLink RL 136 yX11_count : Cond) ∈ TBG := List.mem_filter.mpr ⟨in_t5 _ (List.mem_of_getElem? (i := 128) (by decide +kernel)), rfl⟩
theorem tw1199 : (.instanceMethod yX11_count : Cond) ∈ TBG := List.mem_filter.mpr ⟨in_t5 _ (List.mem_of_getElem? (i := 129) (by decide +kernel)), rfl⟩
theorem tw1200 : (.selects RX11 yX11_count yX11_count : Cond) ∈ TBG := List.mem_filter.mpr ⟨in_t5 _ (List.mem_of_getElem? (i := 130) (by decide +kernel)), rfl⟩
set_option maxRecDepth 20000 in
theorem tw1201 : (.code yX11_count cX11_count 2 (some .int) : Cond) ∈ TBG := List.mem_filter.mpr ⟨in_t5 _ (List.mem_of_getElem? (i := 131) rfl), rfl⟩
theorem tw1202 : (.methodLink RX11 363 yX3_whoIsIn : Cond) ∈ TBG := List.mem_filter.mpr ⟨in_t5 _ (List.mem_of_getElem? (i := 132) (by decide +kernel)), rfl⟩
theorem tw1203 : (.instanceMethod yX3_whoIsIn : Cond) ∈ TBG := List.mem_filter.mpr ⟨in_t5 _ (List.mem_of_getElem? (i := 133) (by decide +kernel)), rfl⟩
theorem tw1204 : (.selects RX3 yX3_whoIsIn yX3_whoIsIn : Cond) ∈ TBG := List.mem_filter.mpr ⟨in_t5 _ (List.mem_of_getElem? (i := 134) (by decide +kernel)), rfl⟩
set_option maxRecDepth 20000 in
theorem tw1205 : (.code yX3_whoIsIn cX3_whoIsIn 4 (some .int) : Cond) ∈ TBG := List.mem_filter.mpr ⟨in_t5 _ (List.mem_of_getElem? (i := 135) rfl), rfl⟩
theorem tw1209 : (.instanceMethod yX12_init : Cond) ∈ TBG := List.mem_filter.mpr ⟨in_t5 _ (List.mem_of_getElem? (i := 139) (by decide +kernel)), rfl⟩
set_option maxRecDepth 20000 in
theorem tw1210 : (.code yX12_init cX12_init 2 (none) : Cond) ∈ TBG := List.mem_filter.mpr ⟨in_t5 _ (List.mem_of_getElem? (i := 140) rfl), rfl⟩
theorem tw1212 : (.constant RX12 77 (53248) : Cond) ∈ TBG := List.mem_filter.mpr ⟨in_t5 _ (List.mem_of_getElem? (i := 142) (by decide +kernel)), rfl⟩
theorem tw1213 : (.constant RX12 90 (33489) : Cond) ∈ TBG := List.mem_filter.mpr ⟨in_t5 _ (List.mem_of_getElem? (i := 143) (by decide +kernel)), rfl⟩
theorem tw1214 : (.fieldLink RX12 7 "PuzzleWedModel" "now" "[I" : Cond) ∈ TBG := List.mem_filter.mpr ⟨in_t5 _ (List.mem_of_getElem? (i := 144) (by decide +kernel)), rfl⟩
theorem tw1215 : (.fieldLink RX12 13 "PuzzleWedModel" "aside" "[I" : Cond) ∈ TBG := List.mem_filter.mpr ⟨in_t5 _ (List.mem_of_getElem? (i := 145) (by decide +kernel)), rfl⟩
theorem tw1216 : (.fieldLink RX12 16 "PuzzleWedModel" "kept" "[I" : Cond) ∈ TBG := List.mem_filter.mpr ⟨in_t5 _ (List.mem_of_getElem? (i := 146) (by decide +kernel)), rfl⟩
theorem tw1217 : (.fieldLink RX12 19 "PuzzleWedModel" "tape" "[B" : Cond) ∈ TBG := List.mem_filter.mpr ⟨in_t5 _ (List.mem_of_getElem? (i := 147) (by decide +kernel)), rfl⟩
theorem tw1218 : (.fieldLink RX12 126 "PuzzleWedModel" "taped" "I" : Cond) ∈ TBG := List.mem_filter.mpr ⟨in_t5 _ (List.mem_of_getElem? (i := 148) (by decide +kernel)), rfl⟩
theorem tw1219 : (.fieldLink RX12 133 "PuzzleWedModel" "place0" "I" : Cond) ∈ TBG := List.mem_filter.mpr ⟨in_t5 _ (List.mem_of_getElem? (i := 149) (by decide +kernel)), rfl⟩
theorem tw1220 : (.fieldLink RX12 136 "PuzzleWedModel" "length0" "I" : Cond) ∈ TBG := List.mem_filter.mpr ⟨in_t5 _ (List.mem_of_getElem? (i := 150) (by decide +kernel)), rfl⟩
theorem tw1221 : (.fieldLink RX12 143 "PuzzleWedModel" "fault" "I" : Cond) ∈ TBG := List.mem_filter.mpr ⟨in_t5 _ (List.mem_of_getElem? (i := 151) (by decide +kernel)), rfl⟩
theorem tw1222 : (.fieldLink RX12 149 "PuzzleWedModel" "number0" "I" : Cond) ∈ TBG := List.mem_filter.mpr ⟨in_t5 _ (List.mem_of_getElem? (i := 152) (by decide +kernel)), rfl⟩
theorem tw1223 : (.fieldLink RX12 160 "PuzzleWedModel" "open" "I" : Cond) ∈ TBG := List.mem_filter.mpr ⟨in_t5 _ (List.mem_of_getElem? (i := 153) (by decide +kernel)), rfl⟩
theorem tw1224 : (.fieldLink RX12 156 "PuzzleWedModel" "codeMany" "I" : Cond) ∈ TBG := List.mem_filter.mpr ⟨in_t5 _ (List.mem_of_getElem? (i := 154) (by decide +kernel)), rfl⟩
theorem tw1225 : (.fieldLink RX12 163 "PuzzleWedModel" "waiting" "I" : Cond) ∈ TBG := List.mem_filter.mpr ⟨in_t5 _ (List.mem_of_getElem? (i := 155) (by decide +kernel)), rfl⟩
theorem tw1226 : (.fieldLink RX12 213 "PuzzleWedModel" "saidMany" "I" : Cond) ∈ TBG := List.mem_filter.mpr ⟨in_t5 _ (List.mem_of_getElem? (i := 156) (by decide +kernel)), rfl⟩
theorem tw1227 : (.fieldLink RX12 225 "PuzzleWedModel" "clauses" "I" : Cond) ∈ TBG := List.mem_filter.mpr ⟨in_t5 _ (List.mem_of_getElem? (i := 157) (by decide +kernel)), rfl⟩
theorem tw1228 : (.fieldLink RX12 23 "PuzzleWedModel" "said" "[I" : Cond) ∈ TBG := List.mem_filter.mpr ⟨in_t5 _ (List.mem_of_getElem? (i := 158) (by decide +kernel)), rfl⟩
theorem tw1229 : (.fieldLink RX12 26 "PuzzleWedModel" "waitsAt" "[I" : Cond) ∈ TBG := List.mem_filter.mpr ⟨in_t5 _ (List.mem_of_getElem? (i := 159) (by decide +kernel)), rfl⟩
theorem tw1230 : (.fieldLink RX12 29 "PuzzleWedModel" "saidLetter" "[I" : Cond) ∈ TBG := List.mem_filter.mpr ⟨in_t5 _ (List.mem_of_getElem? (i := 160) (by decide +kernel)), rfl⟩
theorem tw1231 : (.fieldLink RX12 32 "PuzzleWedModel" "saidFrom" "[I" : Cond) ∈ TBG := List.mem_filter.mpr ⟨in_t5 _ (List.mem_of_getElem? (i := 161) (by decide +kernel)), rfl⟩
theorem tw1232 : (.fieldLink RX12 35 "PuzzleWedModel" "saidHalf" "[I" : Cond) ∈ TBG := List.mem_filter.mpr ⟨in_t5 _ (List.mem_of_getElem? (i := 162) (by decide +kernel)), rfl⟩
theorem tw1233 : (.fieldLink RX12 38 "PuzzleWedModel" "saidTo" "[I" : Cond) ∈ TBG := List.mem_filter.mpr ⟨in_t5 _ (List.mem_of_getElem? (i := 163) (by decide +kernel)), rfl⟩
theorem tw1234 : (.fieldLink RX12 41 "PuzzleWedModel" "codes" "[I" : Cond) ∈ TBG := List.mem_filter.mpr ⟨in_t5 _ (List.mem_of_getElem? (i := 164) (by decide +kernel)), rfl⟩
theorem tw1235 : (.fieldLink RX12 44 "PuzzleWedModel" "clauseOf" "[I" : Cond) ∈ TBG := List.mem_filter.mpr ⟨in_t5 _ (List.mem_of_getElem? (i := 165) (by decide +kernel)), rfl⟩
theorem tw1236 : (.fieldLink RX12 47 "PuzzleWedModel" "codeFrom" "[I" : Cond) ∈ TBG := List.mem_filter.mpr ⟨in_t5 _ (List.mem_of_getElem? (i := 166) (by decide +kernel)), rfl⟩
theorem tw1237 : (.fieldLink RX12 50 "PuzzleWedModel" "codeHalf" "[I" : Cond) ∈ TBG := List.mem_filter.mpr ⟨in_t5 _ (List.mem_of_getElem? (i := 167) (by decide +kernel)), rfl⟩
theorem tw1238 : (.fieldLink RX12 53 "PuzzleWedModel" "codeTo" "[I" : Cond) ∈ TBG := List.mem_filter.mpr ⟨in_t5 _ (List.mem_of_getElem? (i := 168) (by decide +kernel)), rfl⟩
theorem tw1239 : (.fieldLink RX12 56 "PuzzleWedModel" "stack" "[I" : Cond) ∈ TBG := List.mem_filter.mpr ⟨in_t5 _ (List.mem_of_getElem? (i := 169) (by decide +kernel)), rfl⟩
theorem tw1240 : (.fieldLink RX12 59 "PuzzleWedModel" "facts" "[I" : Cond) ∈ TBG := List.mem_filter.mpr ⟨in_t5 _ (List.mem_of_getElem? (i := 170) (by decide +kernel)), rfl⟩
theorem tw1241 : (.fieldLink RX12 62 "PuzzleWedModel" "newHeight" "[I" : Cond) ∈ TBG := List.mem_filter.mpr ⟨in_t5 _ (List.mem_of_getElem? (i := 171) (by decide +kernel)), rfl⟩
theorem tw1242 : (.fieldLink RX12 65 "PuzzleWedModel" "newStop" "[I" : Cond) ∈ TBG := List.mem_filter.mpr ⟨in_t5 _ (List.mem_of_getElem? (i := 172) (by decide +kernel)), rfl⟩
theorem tw1243 : (.fieldLink RX12 268 "PuzzleWedModel" "newMany" "I" : Cond) ∈ TBG := List.mem_filter.mpr ⟨in_t5 _ (List.mem_of_getElem? (i := 173) (by decide +kernel)), rfl⟩
theorem tw1244 : (.fieldLink RX12 274 "PuzzleWedModel" "stops" "I" : Cond) ∈ TBG := List.mem_filter.mpr ⟨in_t5 _ (List.mem_of_getElem? (i := 174) (by decide +kernel)), rfl⟩
theorem tw1245 : (.fieldLink RX12 289 "PuzzleWedModel" "wedNow" "I" : Cond) ∈ TBG := List.mem_filter.mpr ⟨in_t5 _ (List.mem_of_getElem? (i := 175) (by decide +kernel)), rfl⟩
theorem tw1246 : (.fieldLink RX12 280 "PuzzleWedModel" "triesNow" "I" : Cond) ∈ TBG := List.mem_filter.mpr ⟨in_t5 _ (List.mem_of_getElem? (i := 176) (by decide +kernel)), rfl⟩
theorem tw1247 : (.fieldLink RX12 302 "PuzzleWedModel" "partsNow" "I" : Cond) ∈ TBG := List.mem_filter.mpr ⟨in_t5 _ (List.mem_of_getElem? (i := 177) (by decide +kernel)), rfl⟩
theorem tw1248 : (.fieldLink RX12 68 "PuzzleWedModel" "fitOf" "[I" : Cond) ∈ TBG := List.mem_filter.mpr ⟨in_t5 _ (List.mem_of_getElem? (i := 178) (by decide +kernel)), rfl⟩
theorem tw1249 : (.fieldLink RX12 71 "PuzzleWedModel" "slackNow" "[I" : Cond) ∈ TBG := List.mem_filter.mpr ⟨in_t5 _ (List.mem_of_getElem? (i := 179) (by decide +kernel)), rfl⟩
theorem tw1250 : (.fieldLink RX12 74 "PuzzleWedModel" "likeOf" "[I" : Cond) ∈ TBG := List.mem_filter.mpr ⟨in_t5 _ (List.mem_of_getElem? (i := 180) (by decide +kernel)), rfl⟩
theorem tw1251 : (.fieldLink RX12 78 "PuzzleWedModel" "bestOf" "[I" : Cond) ∈ TBG := List.mem_filter.mpr ⟨in_t5 _ (List.mem_of_getElem? (i := 181) (by decide +kernel)), rfl⟩
theorem tw1252 : (.fieldLink RX12 81 "PuzzleWedModel" "askedBy" "[I" : Cond) ∈ TBG := List.mem_filter.mpr ⟨in_t5 _ (List.mem_of_getElem? (i := 182) (by decide +kernel)), rfl⟩
theorem tw1253 : (.fieldLink RX12 84 "PuzzleWedModel" "getOf" "[I" : Cond) ∈ TBG := List.mem_filter.mpr ⟨in_t5 _ (List.mem_of_getElem? (i := 183) (by decide +kernel)), rfl⟩
theorem tw1254 : (.fieldLink RX12 87 "PuzzleWedModel" "rowNow" "[I" : Cond) ∈ TBG := List.mem_filter.mpr ⟨in_t5 _ (List.mem_of_getElem? (i := 184) (by decide +kernel)), rfl⟩
theorem tw1255 : (.fieldLink RX12 91 "PuzzleWedModel" "workOf" "[I" : Cond) ∈ TBG := List.mem_filter.mpr ⟨in_t5 _ (List.mem_of_getElem? (i := 185) (by decide +kernel)), rfl⟩
theorem tw1256 : (.fieldLink RX12 94 "PuzzleWedModel" "sanded" "[I" : Cond) ∈ TBG := List.mem_filter.mpr ⟨in_t5 _ (List.mem_of_getElem? (i := 186) (by decide +kernel)), rfl⟩
theorem tw1257 : (.fieldLink RX12 379 "PuzzleWedModel" "sandPiece" "I" : Cond) ∈ TBG := List.mem_filter.mpr ⟨in_t5 _ (List.mem_of_getElem? (i := 187) (by decide +kernel)), rfl⟩
theorem tw1258 : (.fieldLink RX12 370 "PuzzleWedModel" "sandA" "I" : Cond) ∈ TBG := List.mem_filter.mpr ⟨in_t5 _ (List.mem_of_getElem? (i := 188) (by decide +kernel)), rfl⟩
theorem tw1259 : (.fieldLink RX12 373 "PuzzleWedModel" "sandB" "I" : Cond) ∈ TBG := List.mem_filter.mpr ⟨in_t5 _ (List.mem_of_getElem? (i := 189) (by decide +kernel)), rfl⟩
theorem tw1260 : (.fieldLink RX12 408 "PuzzleWedModel" "isKept" "Z" : Cond) ∈ TBG := List.mem_filter.mpr ⟨in_t5 _ (List.mem_of_getElem? (i := 190) (by decide +kernel)), rfl⟩
theorem tw1356 : (.methodLink RL 17 yX12_person : Cond) ∈ TBG := List.mem_filter.mpr ⟨in_t6 _ (List.mem_of_getElem? (i := 46) (by decide +kernel)), rfl⟩
theorem tw1357 : (.instanceMethod yX12_person : Cond) ∈ TBG := List.mem_filter.mpr ⟨in_t6 _ (List.mem_of_getElem? (i := 47) (by decide +kernel)), rfl⟩
theorem tw1358 : (.selects RX12 yX12_person yX12_person : Cond) ∈ TBG := List.mem_filter.mpr ⟨in_t6 _ (List.mem_of_getElem? (i := 48) (by decide +kernel)), rfl⟩
set_option maxRecDepth 20000 in
theorem tw1359 : (.code yX12_person cX12_person 4 (some .boolean) : Cond) ∈ TBG := List.mem_filter.mpr ⟨in_t6 _ (List.mem_of_getElem? (i := 49) rfl), rfl⟩
theorem tw1360 : (.methodLink RX12 97 yX12_isTwelve : Cond) ∈ TBG := List.mem_filter.mpr ⟨in_t6 _ (List.mem_of_getElem? (i := 50) (by decide +kernel)), rfl⟩
theorem tw1361 : (.static yX12_isTwelve : Cond) ∈ TBG := List.mem_filter.mpr ⟨in_t6 _ (List.mem_of_getElem? (i := 51) (by decide +kernel)), rfl⟩
set_option maxRecDepth 20000 in
theorem tw1362 : (.code yX12_isTwelve cX12_isTwelve 1 (some .boolean) : Cond) ∈ TBG := List.mem_filter.mpr ⟨in_t6 _ (List.mem_of_getElem? (i := 52) rfl), rfl⟩
theorem tw1363 : (.methodLink RX12 105 yX12_isPerson : Cond) ∈ TBG := List.mem_filter.mpr ⟨in_t6 _ (List.mem_of_getElem? (i := 53) (by decide +kernel)), rfl⟩
theorem tw1365 : (.instanceMethod yX12_isPerson : Cond) ∈ TBG := List.mem_filter.mpr ⟨in_t6 _ (List.mem_of_getElem? (i := 55) (by decide +kernel)), rfl⟩
set_option maxRecDepth 20000 in
theorem tw1366 : (.code yX12_isPerson cX12_isPerson 2 (some .boolean) : Cond) ∈ TBG := List.mem_filter.mpr ⟨in_t6 _ (List.mem_of_getElem? (i := 56) rfl), rfl⟩
theorem tw1367 : (.methodLink RX12 101 yX12_has : Cond) ∈ TBG := List.mem_filter.mpr ⟨in_t6 _ (List.mem_of_getElem? (i := 57) (by decide +kernel)), rfl⟩
theorem tw1368 : (.static yX12_has : Cond) ∈ TBG := List.mem_filter.mpr ⟨in_t6 _ (List.mem_of_getElem? (i := 58) (by decide +kernel)), rfl⟩
set_option maxRecDepth 20000 in
theorem tw1369 : (.code yX12_has cX12_has 2 (some .boolean) : Cond) ∈ TBG := List.mem_filter.mpr ⟨in_t6 _ (List.mem_of_getElem? (i := 59) rfl), rfl⟩
theorem tw1370 : (.methodLink RX12 111 yX12_in : Cond) ∈ TBG := List.mem_filter.mpr ⟨in_t6 _ (List.mem_of_getElem? (i := 60) (by decide +kernel)), rfl⟩
theorem tw1371 : (.static yX12_in : Cond) ∈ TBG := List.mem_filter.mpr ⟨in_t6 _ (List.mem_of_getElem? (i := 61) (by decide +kernel)), rfl⟩
set_option maxRecDepth 20000 in
theorem tw1372 : (.code yX12_in cX12_in 3 (some .boolean) : Cond) ∈ TBG := List.mem_filter.mpr ⟨in_t6 _ (List.mem_of_getElem? (i := 62) rfl), rfl⟩
theorem tw1373 : (.methodLink RL 22 yX12_wear : Cond) ∈ TBG := List.mem_filter.mpr ⟨in_t6 _ (List.mem_of_getElem? (i := 63) (by decide +kernel)), rfl⟩
theorem tw1374 : (.instanceMethod yX12_wear : Cond) ∈ TBG := List.mem_filter.mpr ⟨in_t6 _ (List.mem_of_getElem? (i := 64) (by decide +kernel)), rfl⟩
theorem tw1375 : (.selects RX12 yX12_wear yX12_wear : Cond) ∈ TBG := List.mem_filter.mpr ⟨in_t6 _ (List.mem_of_getElem? (i := 65) (by decide +kernel)), rfl⟩
set_option maxRecDepth 20000 in
theorem tw1376 : (.code yX12_wear cX12_wear 3 (some .boolean) : Cond) ∈ TBG := List.mem_filter.mpr ⟨in_t6 _ (List.mem_of_getElem? (i := 66) rfl), rfl⟩
theorem tw1377 : (.methodLink RL 27 yX12_dies : Cond) ∈ TBG := List.mem_filter.mpr ⟨in_t6 _ (List.mem_of_getElem? (i := 67) (by decide +kernel)), rfl⟩
theorem tw1378 : (.instanceMethod yX12_dies : Cond) ∈ TBG := List.mem_filter.mpr ⟨in_t6 _ (List.mem_of_getElem? (i := 68) (by decide +kernel)), rfl⟩
theorem tw1379 : (.selects RX12 yX12_dies yX12_dies : Cond) ∈ TBG := List.mem_filter.mpr ⟨in_t6 _ (List.mem_of_getElem? (i := 69) (by decide +kernel)), rfl⟩
set_option maxRecDepth 20000 in
theorem tw1380 : (.code yX12_dies cX12_dies 3 (some .boolean) : Cond) ∈ TBG := List.mem_filter.mpr ⟨in_t6 _ (List.mem_of_getElem? (i := 70) rfl), rfl⟩
theorem tw1381 : (.methodLink RX12 108 yX12_lives : Cond) ∈ TBG := List.mem_filter.mpr ⟨in_t6 _ (List.mem_of_getElem? (i := 71) (by decide +kernel)), rfl⟩
theorem tw1383 : (.instanceMethod yX12_lives : Cond) ∈ TBG := List.mem_filter.mpr ⟨in_t6 _ (List.mem_of_getElem? (i := 73) (by decide +kernel)), rfl⟩
set_option maxRecDepth 20000 in
theorem tw1384 : (.code yX12_lives cX12_lives 2 (some .boolean) : Cond) ∈ TBG := List.mem_filter.mpr ⟨in_t6 _ (List.mem_of_getElem? (i := 74) rfl), rfl⟩
theorem tw1385 : (.methodLink RX12 115 yX12_parts : Cond) ∈ TBG := List.mem_filter.mpr ⟨in_t6 _ (List.mem_of_getElem? (i := 75) (by decide +kernel)), rfl⟩
theorem tw1387 : (.instanceMethod yX12_parts : Cond) ∈ TBG := List.mem_filter.mpr ⟨in_t6 _ (List.mem_of_getElem? (i := 77) (by decide +kernel)), rfl⟩
set_option maxRecDepth 20000 in
theorem tw1388 : (.code yX12_parts cX12_parts 3 (none) : Cond) ∈ TBG := List.mem_filter.mpr ⟨in_t6 _ (List.mem_of_getElem? (i := 78) rfl), rfl⟩
theorem tw1389 : (.methodLink RL 31 yX12_weds : Cond) ∈ TBG := List.mem_filter.mpr ⟨in_t6 _ (List.mem_of_getElem? (i := 79) (by decide +kernel)), rfl⟩
theorem tw1390 : (.instanceMethod yX12_weds : Cond) ∈ TBG := List.mem_filter.mpr ⟨in_t6 _ (List.mem_of_getElem? (i := 80) (by decide +kernel)), rfl⟩
theorem tw1391 : (.selects RX12 yX12_weds yX12_weds : Cond) ∈ TBG := List.mem_filter.mpr ⟨in_t6 _ (List.mem_of_getElem? (i := 81) (by decide +kernel)), rfl⟩
set_option maxRecDepth 20000 in
theorem tw1392 : (.code yX12_weds cX12_weds 3 (some .boolean) : Cond) ∈ TBG := List.mem_filter.mpr ⟨in_t6 _ (List.mem_of_getElem? (i := 82) rfl), rfl⟩
theorem tw1393 : (.methodLink RX12 119 yX12_isFree : Cond) ∈ TBG := List.mem_filter.mpr ⟨in_t6 _ (List.mem_of_getElem? (i := 83) (by decide +kernel)), rfl⟩
theorem tw1395 : (.instanceMethod yX12_isFree : Cond) ∈ TBG := List.mem_filter.mpr ⟨in_t6 _ (List.mem_of_getElem? (i := 85) (by decide +kernel)), rfl⟩
set_option maxRecDepth 20000 in
theorem tw1396 : (.code yX12_isFree cX12_isFree 2 (some .boolean) : Cond) ∈ TBG := List.mem_filter.mpr ⟨in_t6 _ (List.mem_of_getElem? (i := 86) rfl), rfl⟩
theorem tw1397 : (.methodLink RX12 122 yX12_wedsTwo : Cond) ∈ TBG := List.mem_filter.mpr ⟨in_t6 _ (List.mem_of_getElem? (i := 87) (by decide +kernel)), rfl⟩
theorem tw1399 : (.instanceMethod yX12_wedsTwo : Cond) ∈ TBG := List.mem_filter.mpr ⟨in_t6 _ (List.mem_of_getElem? (i := 89) (by decide +kernel)), rfl⟩
set_option maxRecDepth 20000 in
theorem tw1400 : (.code yX12_wedsTwo cX12_wedsTwo 3 (none) : Cond) ∈ TBG := List.mem_filter.mpr ⟨in_t6 _ (List.mem_of_getElem? (i := 90) rfl), rfl⟩
theorem tw1401 : (.methodLink RL 36 yX12_feed : Cond) ∈ TBG := List.mem_filter.mpr ⟨in_t6 _ (List.mem_of_getElem? (i := 91) (by decide +kernel)), rfl⟩
theorem tw1402 : (.instanceMethod yX12_feed : Cond) ∈ TBG := List.mem_filter.mpr ⟨in_t6 _ (List.mem_of_getElem? (i := 92) (by decide +kernel)), rfl⟩
theorem tw1403 : (.selects RX12 yX12_feed yX12_feed : Cond) ∈ TBG := List.mem_filter.mpr ⟨in_t6 _ (List.mem_of_getElem? (i := 93) (by decide +kernel)), rfl⟩
set_option maxRecDepth 20000 in
theorem tw1404 : (.code yX12_feed cX12_feed 6 (some .int) : Cond) ∈ TBG := List.mem_filter.mpr ⟨in_t6 _ (List.mem_of_getElem? (i := 94) rfl), rfl⟩
theorem tw1405 : (.methodLink RX12 130 yX12_types : Cond) ∈ TBG := List.mem_filter.mpr ⟨in_t6 _ (List.mem_of_getElem? (i := 95) (by decide +kernel)), rfl⟩
theorem tw1407 : (.instanceMethod yX12_types : Cond) ∈ TBG := List.mem_filter.mpr ⟨in_t6 _ (List.mem_of_getElem? (i := 97) (by decide +kernel)), rfl⟩
set_option maxRecDepth 20000 in
theorem tw1408 : (.code yX12_types cX12_types 3 (none) : Cond) ∈ TBG := List.mem_filter.mpr ⟨in_t6 _ (List.mem_of_getElem? (i := 98) rfl), rfl⟩
theorem tw1409 : (.methodLink RL 41 yX12_law : Cond) ∈ TBG := List.mem_filter.mpr ⟨in_t6 _ (List.mem_of_getElem? (i := 99) (by decide +kernel)), rfl⟩
theorem tw1410 : (.instanceMethod yX12_law : Cond) ∈ TBG := List.mem_filter.mpr ⟨in_t6 _ (List.mem_of_getElem? (i := 100) (by decide +kernel)), rfl⟩
theorem tw1411 : (.selects RX12 yX12_law yX12_law : Cond) ∈ TBG := List.mem_filter.mpr ⟨in_t6 _ (List.mem_of_getElem? (i := 101) (by decide +kernel)), rfl⟩
set_option maxRecDepth 20000 in
theorem tw1412 : (.code yX12_law cX12_law 4 (some .int) : Cond) ∈ TBG := List.mem_filter.mpr ⟨in_t6 _ (List.mem_of_getElem? (i := 102) rfl), rfl⟩
theorem tw1413 : (.methodLink RX12 219 yX12_readsClause : Cond) ∈ TBG := List.mem_filter.mpr ⟨in_t6 _ (List.mem_of_getElem? (i := 103) (by decide +kernel)), rfl⟩
theorem tw1415 : (.instanceMethod yX12_readsClause : Cond) ∈ TBG := List.mem_filter.mpr ⟨in_t6 _ (List.mem_of_getElem? (i := 105) (by decide +kernel)), rfl⟩
set_option maxRecDepth 20000 in
theorem tw1416 : (.code yX12_readsClause cX12_readsClause 2 (some .boolean) : Cond) ∈ TBG := List.mem_filter.mpr ⟨in_t6 _ (List.mem_of_getElem? (i := 106) rfl), rfl⟩
theorem tw1417 : (.methodLink RX12 139 yX12_here : Cond) ∈ TBG := List.mem_filter.mpr ⟨in_t6 _ (List.mem_of_getElem? (i := 107) (by decide +kernel)), rfl⟩
theorem tw1419 : (.instanceMethod yX12_here : Cond) ∈ TBG := List.mem_filter.mpr ⟨in_t6 _ (List.mem_of_getElem? (i := 109) (by decide +kernel)), rfl⟩
set_option maxRecDepth 20000 in
theorem tw1420 : (.code yX12_here cX12_here 1 (some .int) : Cond) ∈ TBG := List.mem_filter.mpr ⟨in_t6 _ (List.mem_of_getElem? (i := 110) rfl), rfl⟩
theorem tw1421 : (.methodLink RX12 210 yX12_isClause : Cond) ∈ TBG := List.mem_filter.mpr ⟨in_t6 _ (List.mem_of_getElem? (i := 111) (by decide +kernel)), rfl⟩
theorem tw1422 : (.static yX12_isClause : Cond) ∈ TBG := List.mem_filter.mpr ⟨in_t6 _ (List.mem_of_getElem? (i := 112) (by decide +kernel)), rfl⟩
set_option maxRecDepth 20000 in
theorem tw1423 : (.code yX12_isClause cX12_isClause 1 (some .boolean) : Cond) ∈ TBG := List.mem_filter.mpr ⟨in_t6 _ (List.mem_of_getElem? (i := 113) rfl), rfl⟩
theorem tw1424 : (.methodLink RX12 146 yX12_wrongAt : Cond) ∈ TBG := List.mem_filter.mpr ⟨in_t6 _ (List.mem_of_getElem? (i := 114) (by decide +kernel)), rfl⟩
theorem tw1426 : (.instanceMethod yX12_wrongAt : Cond) ∈ TBG := List.mem_filter.mpr ⟨in_t6 _ (List.mem_of_getElem? (i := 116) (by decide +kernel)), rfl⟩
set_option maxRecDepth 20000 in
theorem tw1427 : (.code yX12_wrongAt cX12_wrongAt 3 (some .boolean) : Cond) ∈ TBG := List.mem_filter.mpr ⟨in_t6 _ (List.mem_of_getElem? (i := 117) rfl), rfl⟩
theorem tw1428 : (.methodLink RX12 195 yX12_readsSum : Cond) ∈ TBG := List.mem_filter.mpr ⟨in_t6 _ (List.mem_of_getElem? (i := 118) (by decide +kernel)), rfl⟩
theorem tw1430 : (.instanceMethod yX12_readsSum : Cond) ∈ TBG := List.mem_filter.mpr ⟨in_t6 _ (List.mem_of_getElem? (i := 120) (by decide +kernel)), rfl⟩
set_option maxRecDepth 20000 in
theorem tw1431 : (.code yX12_readsSum cX12_readsSum 3 (some .boolean) : Cond) ∈ TBG := List.mem_filter.mpr ⟨in_t6 _ (List.mem_of_getElem? (i := 121) rfl), rfl⟩
theorem tw1432 : (.methodLink RX12 182 yX12_readsFactor : Cond) ∈ TBG := List.mem_filter.mpr ⟨in_t6 _ (List.mem_of_getElem? (i := 122) (by decide +kernel)), rfl⟩
theorem tw1434 : (.instanceMethod yX12_readsFactor : Cond) ∈ TBG := List.mem_filter.mpr ⟨in_t6 _ (List.mem_of_getElem? (i := 124) (by decide +kernel)), rfl⟩
set_option maxRecDepth 20000 in
theorem tw1435 : (.code yX12_readsFactor cX12_readsFactor 2 (some .boolean) : Cond) ∈ TBG := List.mem_filter.mpr ⟨in_t6 _ (List.mem_of_getElem? (i := 125) rfl), rfl⟩
theorem tw1436 : (.methodLink RX12 172 yX12_opens : Cond) ∈ TBG := List.mem_filter.mpr ⟨in_t6 _ (List.mem_of_getElem? (i := 126) (by decide +kernel)), rfl⟩
theorem tw1438 : (.instanceMethod yX12_opens : Cond) ∈ TBG := List.mem_filter.mpr ⟨in_t6 _ (List.mem_of_getElem? (i := 128) (by decide +kernel)), rfl⟩
set_option maxRecDepth 20000 in
theorem tw1439 : (.code yX12_opens cX12_opens 2 (some .boolean) : Cond) ∈ TBG := List.mem_filter.mpr ⟨in_t6 _ (List.mem_of_getElem? (i := 129) rfl), rfl⟩
theorem tw1440 : (.constant RX12 159 (1048576) : Cond) ∈ TBG := List.mem_filter.mpr ⟨in_t6 _ (List.mem_of_getElem? (i := 130) (by decide +kernel)), rfl⟩
theorem tw1441 : (.methodLink RX12 152 yX12_isDigit : Cond) ∈ TBG := List.mem_filter.mpr ⟨in_t6 _ (List.mem_of_getElem? (i := 131) (by decide +kernel)), rfl⟩
theorem tw1443 : (.instanceMethod yX12_isDigit : Cond) ∈ TBG := List.mem_filter.mpr ⟨in_t6 _ (List.mem_of_getElem? (i := 133) (by decide +kernel)), rfl⟩
set_option maxRecDepth 20000 in
theorem tw1444 : (.code yX12_isDigit cX12_isDigit 1 (some .boolean) : Cond) ∈ TBG := List.mem_filter.mpr ⟨in_t6 _ (List.mem_of_getElem? (i := 134) rfl), rfl⟩
theorem tw1445 : (.methodLink RX12 175 yX12_readsNumber : Cond) ∈ TBG := List.mem_filter.mpr ⟨in_t6 _ (List.mem_of_getElem? (i := 135) (by decide +kernel)), rfl⟩
theorem tw1447 : (.instanceMethod yX12_readsNumber : Cond) ∈ TBG := List.mem_filter.mpr ⟨in_t6 _ (List.mem_of_getElem? (i := 137) (by decide +kernel)), rfl⟩
set_option maxRecDepth 20000 in
theorem tw1448 : (.code yX12_readsNumber cX12_readsNumber 2 (some .boolean) : Cond) ∈ TBG := List.mem_filter.mpr ⟨in_t6 _ (List.mem_of_getElem? (i := 138) rfl), rfl⟩
theorem tw1449 : (.methodLink RX12 169 yX12_notes : Cond) ∈ TBG := List.mem_filter.mpr ⟨in_t6 _ (List.mem_of_getElem? (i := 139) (by decide +kernel)), rfl⟩
theorem tw1451 : (.instanceMethod yX12_notes : Cond) ∈ TBG := List.mem_filter.mpr ⟨in_t6 _ (List.mem_of_getElem? (i := 141) (by decide +kernel)), rfl⟩
set_option maxRecDepth 20000 in
theorem tw1452 : (.code yX12_notes cX12_notes 3 (none) : Cond) ∈ TBG := List.mem_filter.mpr ⟨in_t6 _ (List.mem_of_getElem? (i := 142) rfl), rfl⟩
theorem tw1453 : (.methodLink RX12 178 yX12_factOf : Cond) ∈ TBG := List.mem_filter.mpr ⟨in_t6 _ (List.mem_of_getElem? (i := 143) (by decide +kernel)), rfl⟩
theorem tw1454 : (.static yX12_factOf : Cond) ∈ TBG := List.mem_filter.mpr ⟨in_t6 _ (List.mem_of_getElem? (i := 144) (by decide +kernel)), rfl⟩
set_option maxRecDepth 20000 in
theorem tw1455 : (.code yX12_factOf cX12_factOf 1 (some .int) : Cond) ∈ TBG := List.mem_filter.mpr ⟨in_t6 _ (List.mem_of_getElem? (i := 145) rfl), rfl⟩
theorem tw1456 : (.methodLink RX12 185 yX12_sumSign : Cond) ∈ TBG := List.mem_filter.mpr ⟨in_t6 _ (List.mem_of_getElem? (i := 146) (by decide +kernel)), rfl⟩
theorem tw1457 : (.static yX12_sumSign : Cond) ∈ TBG := List.mem_filter.mpr ⟨in_t6 _ (List.mem_of_getElem? (i := 147) (by decide +kernel)), rfl⟩
set_option maxRecDepth 20000 in
theorem tw1458 : (.code yX12_sumSign cX12_sumSign 1 (some .int) : Cond) ∈ TBG := List.mem_filter.mpr ⟨in_t6 _ (List.mem_of_getElem? (i := 148) rfl), rfl⟩
theorem tw1459 : (.methodLink RX12 188 yX12_closesSums : Cond) ∈ TBG := List.mem_filter.mpr ⟨in_t6 _ (List.mem_of_getElem? (i := 149) (by decide +kernel)), rfl⟩
theorem tw1461 : (.instanceMethod yX12_closesSums : Cond) ∈ TBG := List.mem_filter.mpr ⟨in_t6 _ (List.mem_of_getElem? (i := 151) (by decide +kernel)), rfl⟩
set_option maxRecDepth 20000 in
theorem tw1462 : (.code yX12_closesSums cX12_closesSums 2 (none) : Cond) ∈ TBG := List.mem_filter.mpr ⟨in_t6 _ (List.mem_of_getElem? (i := 152) rfl), rfl⟩
theorem tw1463 : (.methodLink RX12 166 yX12_waitTop : Cond) ∈ TBG := List.mem_filter.mpr ⟨in_t6 _ (List.mem_of_getElem? (i := 153) (by decide +kernel)), rfl⟩
theorem tw1465 : (.instanceMethod yX12_waitTop : Cond) ∈ TBG := List.mem_filter.mpr ⟨in_t6 _ (List.mem_of_getElem? (i := 155) (by decide +kernel)), rfl⟩
set_option maxRecDepth 20000 in
theorem tw1466 : (.code yX12_waitTop cX12_waitTop 1 (some .int) : Cond) ∈ TBG := List.mem_filter.mpr ⟨in_t6 _ (List.mem_of_getElem? (i := 156) rfl), rfl⟩
theorem tw1467 : (.methodLink RX12 192 yX12_hasOpenSum : Cond) ∈ TBG := List.mem_filter.mpr ⟨in_t6 _ (List.mem_of_getElem? (i := 157) (by decide +kernel)), rfl⟩
theorem tw1469 : (.instanceMethod yX12_hasOpenSum : Cond) ∈ TBG := List.mem_filter.mpr ⟨in_t6 _ (List.mem_of_getElem? (i := 159) (by decide +kernel)), rfl⟩
set_option maxRecDepth 20000 in
theorem tw1470 : (.code yX12_hasOpenSum cX12_hasOpenSum 3 (some .boolean) : Cond) ∈ TBG := List.mem_filter.mpr ⟨in_t6 _ (List.mem_of_getElem? (i := 160) rfl), rfl⟩
theorem tw1471 : (.methodLink RX12 216 yX12_readsCondition : Cond) ∈ TBG := List.mem_filter.mpr ⟨in_t6 _ (List.mem_of_getElem? (i := 161) (by decide +kernel)), rfl⟩
theorem tw1473 : (.instanceMethod yX12_readsCondition : Cond) ∈ TBG := List.mem_filter.mpr ⟨in_t6 _ (List.mem_of_getElem? (i := 163) (by decide +kernel)), rfl⟩
set_option maxRecDepth 20000 in
theorem tw1474 : (.code yX12_readsCondition cX12_readsCondition 1 (some .boolean) : Cond) ∈ TBG := List.mem_filter.mpr ⟨in_t6 _ (List.mem_of_getElem? (i := 164) rfl), rfl⟩
theorem tw1475 : (.methodLink RX12 201 yX12_readsCompared : Cond) ∈ TBG := List.mem_filter.mpr ⟨in_t6 _ (List.mem_of_getElem? (i := 165) (by decide +kernel)), rfl⟩
theorem tw1477 : (.instanceMethod yX12_readsCompared : Cond) ∈ TBG := List.mem_filter.mpr ⟨in_t6 _ (List.mem_of_getElem? (i := 167) (by decide +kernel)), rfl⟩
set_option maxRecDepth 20000 in
theorem tw1478 : (.code yX12_readsCompared cX12_readsCompared 2 (some .boolean) : Cond) ∈ TBG := List.mem_filter.mpr ⟨in_t6 _ (List.mem_of_getElem? (i := 168) rfl), rfl⟩
theorem tw1479 : (.methodLink RX12 198 yX12_endsPiece : Cond) ∈ TBG := List.mem_filter.mpr ⟨in_t6 _ (List.mem_of_getElem? (i := 169) (by decide +kernel)), rfl⟩
theorem tw1481 : (.instanceMethod yX12_endsPiece : Cond) ∈ TBG := List.mem_filter.mpr ⟨in_t6 _ (List.mem_of_getElem? (i := 171) (by decide +kernel)), rfl⟩
set_option maxRecDepth 20000 in
theorem tw1482 : (.code yX12_endsPiece cX12_endsPiece 1 (none) : Cond) ∈ TBG := List.mem_filter.mpr ⟨in_t6 _ (List.mem_of_getElem? (i := 172) rfl), rfl⟩
theorem tw1483 : (.methodLink RX12 204 yX12_lands : Cond) ∈ TBG := List.mem_filter.mpr ⟨in_t6 _ (List.mem_of_getElem? (i := 173) (by decide +kernel)), rfl⟩
theorem tw1485 : (.instanceMethod yX12_lands : Cond) ∈ TBG := List.mem_filter.mpr ⟨in_t6 _ (List.mem_of_getElem? (i := 175) (by decide +kernel)), rfl⟩
set_option maxRecDepth 20000 in
theorem tw1486 : (.code yX12_lands cX12_lands 3 (none) : Cond) ∈ TBG := List.mem_filter.mpr ⟨in_t6 _ (List.mem_of_getElem? (i := 176) rfl), rfl⟩
theorem tw1487 : (.methodLink RX12 207 yX12_jumps : Cond) ∈ TBG := List.mem_filter.mpr ⟨in_t6 _ (List.mem_of_getElem? (i := 177) (by decide +kernel)), rfl⟩
theorem tw1489 : (.instanceMethod yX12_jumps : Cond) ∈ TBG := List.mem_filter.mpr ⟨in_t6 _ (List.mem_of_getElem? (i := 179) (by decide +kernel)), rfl⟩
set_option maxRecDepth 20000 in
theorem tw1490 : (.code yX12_jumps cX12_jumps 2 (none) : Cond) ∈ TBG := List.mem_filter.mpr ⟨in_t6 _ (List.mem_of_getElem? (i := 180) rfl), rfl⟩
theorem tw1491 : (.methodLink RX12 222 yX12_takes : Cond) ∈ TBG := List.mem_filter.mpr ⟨in_t6 _ (List.mem_of_getElem? (i := 181) (by decide +kernel)), rfl⟩
theorem tw1493 : (.instanceMethod yX12_takes : Cond) ∈ TBG := List.mem_filter.mpr ⟨in_t6 _ (List.mem_of_getElem? (i := 183) (by decide +kernel)), rfl⟩
set_option maxRecDepth 20000 in
theorem tw1494 : (.code yX12_takes cX12_takes 2 (some .boolean) : Cond) ∈ TBG := List.mem_filter.mpr ⟨in_t6 _ (List.mem_of_getElem? (i := 184) rfl), rfl⟩
theorem tw1495 : (.methodLink RL 46 yX12_edge : Cond) ∈ TBG := List.mem_filter.mpr ⟨in_t6 _ (List.mem_of_getElem? (i := 185) (by decide +kernel)), rfl⟩
theorem tw1496 : (.instanceMethod yX12_edge : Cond) ∈ TBG := List.mem_filter.mpr ⟨in_t6 _ (List.mem_of_getElem? (i := 186) (by decide +kernel)), rfl⟩
theorem tw1497 : (.selects RX12 yX12_edge yX12_edge : Cond) ∈ TBG := List.mem_filter.mpr ⟨in_t6 _ (List.mem_of_getElem? (i := 187) (by decide +kernel)), rfl⟩
set_option maxRecDepth 20000 in
theorem tw1498 : (.code yX12_edge cX12_edge 6 (some .int) : Cond) ∈ TBG := List.mem_filter.mpr ⟨in_t6 _ (List.mem_of_getElem? (i := 188) rfl), rfl⟩
theorem tw1499 : (.methodLink RX12 271 yX12_readsHeight : Cond) ∈ TBG := List.mem_filter.mpr ⟨in_t6 _ (List.mem_of_getElem? (i := 189) (by decide +kernel)), rfl⟩
theorem tw1501 : (.instanceMethod yX12_readsHeight : Cond) ∈ TBG := List.mem_filter.mpr ⟨in_t6 _ (List.mem_of_getElem? (i := 191) (by decide +kernel)), rfl⟩
set_option maxRecDepth 20000 in
theorem tw1502 : (.code yX12_readsHeight cX12_readsHeight 6 (some .boolean) : Cond) ∈ TBG := List.mem_filter.mpr ⟨in_t6 _ (List.mem_of_getElem? (i := 192) rfl), rfl⟩
theorem tw1503 : (.methodLink RX12 239 yX12_size : Cond) ∈ TBG := List.mem_filter.mpr ⟨in_t6 _ (List.mem_of_getElem? (i := 193) (by decide +kernel)), rfl⟩
theorem tw1504 : (.static yX12_size : Cond) ∈ TBG := List.mem_filter.mpr ⟨in_t6 _ (List.mem_of_getElem? (i := 194) (by decide +kernel)), rfl⟩
set_option maxRecDepth 20000 in
theorem tw1505 : (.code yX12_size cX12_size 1 (some .int) : Cond) ∈ TBG := List.mem_filter.mpr ⟨in_t6 _ (List.mem_of_getElem? (i := 195) rfl), rfl⟩
theorem tw1506 : (.methodLink RL 50 yX12_journey : Cond) ∈ TBG := List.mem_filter.mpr ⟨in_t6 _ (List.mem_of_getElem? (i := 196) (by decide +kernel)), rfl⟩
theorem tw1507 : (.instanceMethod yX12_journey : Cond) ∈ TBG := List.mem_filter.mpr ⟨in_t6 _ (List.mem_of_getElem? (i := 197) (by decide +kernel)), rfl⟩
theorem tw1508 : (.selects RX12 yX12_journey yX12_journey : Cond) ∈ TBG := List.mem_filter.mpr ⟨in_t6 _ (List.mem_of_getElem? (i := 198) (by decide +kernel)), rfl⟩
set_option maxRecDepth 20000 in
theorem tw1509 : (.code yX12_journey cX12_journey 5 (some .int) : Cond) ∈ TBG := List.mem_filter.mpr ⟨in_t6 _ (List.mem_of_getElem? (i := 199) rfl), rfl⟩
theorem tw1510 : (.methodLink RX12 277 yX12_readsStop : Cond) ∈ TBG := List.mem_filter.mpr ⟨in_t6 _ (List.mem_of_getElem? (i := 200) (by decide +kernel)), rfl⟩
theorem tw1512 : (.instanceMethod yX12_readsStop : Cond) ∈ TBG := List.mem_filter.mpr ⟨in_t6 _ (List.mem_of_getElem? (i := 202) (by decide +kernel)), rfl⟩
set_option maxRecDepth 20000 in
theorem tw1513 : (.code yX12_readsStop cX12_readsStop 4 (some .boolean) : Cond) ∈ TBG := List.mem_filter.mpr ⟨in_t6 _ (List.mem_of_getElem? (i := 203) rfl), rfl⟩
theorem tw1514 : (.methodLink RL 54 yX12_days : Cond) ∈ TBG := List.mem_filter.mpr ⟨in_t6 _ (List.mem_of_getElem? (i := 204) (by decide +kernel)), rfl⟩
theorem tw1515 : (.instanceMethod yX12_days : Cond) ∈ TBG := List.mem_filter.mpr ⟨in_t6 _ (List.mem_of_getElem? (i := 205) (by decide +kernel)), rfl⟩
theorem tw1516 : (.selects RX12 yX12_days yX12_days : Cond) ∈ TBG := List.mem_filter.mpr ⟨in_t6 _ (List.mem_of_getElem? (i := 206) (by decide +kernel)), rfl⟩
set_option maxRecDepth 20000 in
theorem tw1517 : (.code yX12_days cX12_days 2 (some .int) : Cond) ∈ TBG := List.mem_filter.mpr ⟨in_t6 _ (List.mem_of_getElem? (i := 207) rfl), rfl⟩
theorem tw1518 : (.methodLink RX12 314 yX12_daysGo : Cond) ∈ TBG := List.mem_filter.mpr ⟨in_t6 _ (List.mem_of_getElem? (i := 208) (by decide +kernel)), rfl⟩
theorem tw1520 : (.instanceMethod yX12_daysGo : Cond) ∈ TBG := List.mem_filter.mpr ⟨in_t6 _ (List.mem_of_getElem? (i := 210) (by decide +kernel)), rfl⟩
set_option maxRecDepth 20000 in
theorem tw1521 : (.code yX12_daysGo cX12_daysGo 5 (none) : Cond) ∈ TBG := List.mem_filter.mpr ⟨in_t6 _ (List.mem_of_getElem? (i := 211) rfl), rfl⟩
theorem tw1522 : (.methodLink RX12 305 yX12_travels : Cond) ∈ TBG := List.mem_filter.mpr ⟨in_t6 _ (List.mem_of_getElem? (i := 212) (by decide +kernel)), rfl⟩
theorem tw1524 : (.instanceMethod yX12_travels : Cond) ∈ TBG := List.mem_filter.mpr ⟨in_t6 _ (List.mem_of_getElem? (i := 214) (by decide +kernel)), rfl⟩
set_option maxRecDepth 20000 in
theorem tw1525 : (.code yX12_travels cX12_travels 2 (none) : Cond) ∈ TBG := List.mem_filter.mpr ⟨in_t6 _ (List.mem_of_getElem? (i := 215) rfl), rfl⟩
theorem tw1526 : (.methodLink RX12 308 yX12_triesIn : Cond) ∈ TBG := List.mem_filter.mpr ⟨in_t6 _ (List.mem_of_getElem? (i := 216) (by decide +kernel)), rfl⟩
theorem tw1528 : (.instanceMethod yX12_triesIn : Cond) ∈ TBG := List.mem_filter.mpr ⟨in_t6 _ (List.mem_of_getElem? (i := 218) (by decide +kernel)), rfl⟩
set_option maxRecDepth 20000 in
theorem tw1529 : (.code yX12_triesIn cX12_triesIn 5 (none) : Cond) ∈ TBG := List.mem_filter.mpr ⟨in_t6 _ (List.mem_of_getElem? (i := 219) rfl), rfl⟩
theorem tw1530 : (.methodLink RX12 283 yX12_haveTried : Cond) ∈ TBG := List.mem_filter.mpr ⟨in_t6 _ (List.mem_of_getElem? (i := 220) (by decide +kernel)), rfl⟩
theorem tw1532 : (.instanceMethod yX12_haveTried : Cond) ∈ TBG := List.mem_filter.mpr ⟨in_t6 _ (List.mem_of_getElem? (i := 222) (by decide +kernel)), rfl⟩
set_option maxRecDepth 20000 in
theorem tw1533 : (.code yX12_haveTried cX12_haveTried 3 (none) : Cond) ∈ TBG := List.mem_filter.mpr ⟨in_t6 _ (List.mem_of_getElem? (i := 223) rfl), rfl⟩
theorem tw1534 : (.methodLink RX12 286 yX12_fit : Cond) ∈ TBG := List.mem_filter.mpr ⟨in_t6 _ (List.mem_of_getElem? (i := 224) (by decide +kernel)), rfl⟩
theorem tw1536 : (.instanceMethod yX12_fit : Cond) ∈ TBG := List.mem_filter.mpr ⟨in_t6 _ (List.mem_of_getElem? (i := 226) (by decide +kernel)), rfl⟩
set_option maxRecDepth 20000 in
theorem tw1537 : (.code yX12_fit cX12_fit 4 (some .boolean) : Cond) ∈ TBG := List.mem_filter.mpr ⟨in_t6 _ (List.mem_of_getElem? (i := 227) rfl), rfl⟩
theorem tw1538 : (.methodLink RX12 262 yX12_slackBy : Cond) ∈ TBG := List.mem_filter.mpr ⟨in_t6 _ (List.mem_of_getElem? (i := 228) (by decide +kernel)), rfl⟩
theorem tw1540 : (.instanceMethod yX12_slackBy : Cond) ∈ TBG := List.mem_filter.mpr ⟨in_t6 _ (List.mem_of_getElem? (i := 230) (by decide +kernel)), rfl⟩
set_option maxRecDepth 20000 in
theorem tw1541 : (.code yX12_slackBy cX12_slackBy 6 (some .int) : Cond) ∈ TBG := List.mem_filter.mpr ⟨in_t6 _ (List.mem_of_getElem? (i := 231) rfl), rfl⟩
theorem tw1542 : (.constant RX12 245 (1000000000) : Cond) ∈ TBG := List.mem_filter.mpr ⟨in_t6 _ (List.mem_of_getElem? (i := 232) (by decide +kernel)), rfl⟩
theorem tw1543 : (.methodLink RX12 246 yX12_slackOf : Cond) ∈ TBG := List.mem_filter.mpr ⟨in_t6 _ (List.mem_of_getElem? (i := 233) (by decide +kernel)), rfl⟩
theorem tw1545 : (.instanceMethod yX12_slackOf : Cond) ∈ TBG := List.mem_filter.mpr ⟨in_t6 _ (List.mem_of_getElem? (i := 235) (by decide +kernel)), rfl⟩
set_option maxRecDepth 20000 in
theorem tw1546 : (.code yX12_slackOf cX12_slackOf 5 (some .int) : Cond) ∈ TBG := List.mem_filter.mpr ⟨in_t6 _ (List.mem_of_getElem? (i := 236) rfl), rfl⟩
theorem tw1547 : (.methodLink RX12 236 yX12_heightOf : Cond) ∈ TBG := List.mem_filter.mpr ⟨in_t6 _ (List.mem_of_getElem? (i := 237) (by decide +kernel)), rfl⟩
theorem tw1549 : (.instanceMethod yX12_heightOf : Cond) ∈ TBG := List.mem_filter.mpr ⟨in_t6 _ (List.mem_of_getElem? (i := 239) (by decide +kernel)), rfl⟩
set_option maxRecDepth 20000 in
theorem tw1550 : (.code yX12_heightOf cX12_heightOf 3 (some .int) : Cond) ∈ TBG := List.mem_filter.mpr ⟨in_t7 _ (List.mem_of_getElem? (i := 0) rfl), rfl⟩
theorem tw1551 : (.methodLink RX12 242 yX12_max : Cond) ∈ TBG := List.mem_filter.mpr ⟨in_t7 _ (List.mem_of_getElem? (i := 1) (by decide +kernel)), rfl⟩
theorem tw1552 : (.static yX12_max : Cond) ∈ TBG := List.mem_filter.mpr ⟨in_t7 _ (List.mem_of_getElem? (i := 2) (by decide +kernel)), rfl⟩
set_option maxRecDepth 20000 in
theorem tw1553 : (.code yX12_max cX12_max 2 (some .int) : Cond) ∈ TBG := List.mem_filter.mpr ⟨in_t7 _ (List.mem_of_getElem? (i := 3) rfl), rfl⟩
theorem tw1554 : (.methodLink RX12 249 yX12_min : Cond) ∈ TBG := List.mem_filter.mpr ⟨in_t7 _ (List.mem_of_getElem? (i := 4) (by decide +kernel)), rfl⟩
theorem tw1555 : (.static yX12_min : Cond) ∈ TBG := List.mem_filter.mpr ⟨in_t7 _ (List.mem_of_getElem? (i := 5) (by decide +kernel)), rfl⟩
set_option maxRecDepth 20000 in
theorem tw1556 : (.code yX12_min cX12_min 2 (some .int) : Cond) ∈ TBG := List.mem_filter.mpr ⟨in_t7 _ (List.mem_of_getElem? (i := 6) rfl), rfl⟩
theorem tw1557 : (.methodLink RX12 265 yX12_allowed : Cond) ∈ TBG := List.mem_filter.mpr ⟨in_t7 _ (List.mem_of_getElem? (i := 7) (by decide +kernel)), rfl⟩
theorem tw1559 : (.instanceMethod yX12_allowed : Cond) ∈ TBG := List.mem_filter.mpr ⟨in_t7 _ (List.mem_of_getElem? (i := 9) (by decide +kernel)), rfl⟩
set_option maxRecDepth 20000 in
theorem tw1560 : (.code yX12_allowed cX12_allowed 4 (some .int) : Cond) ∈ TBG := List.mem_filter.mpr ⟨in_t7 _ (List.mem_of_getElem? (i := 10) rfl), rfl⟩
theorem tw1561 : (.methodLink RX12 255 yX12_feels : Cond) ∈ TBG := List.mem_filter.mpr ⟨in_t7 _ (List.mem_of_getElem? (i := 11) (by decide +kernel)), rfl⟩
theorem tw1563 : (.instanceMethod yX12_feels : Cond) ∈ TBG := List.mem_filter.mpr ⟨in_t7 _ (List.mem_of_getElem? (i := 13) (by decide +kernel)), rfl⟩
set_option maxRecDepth 20000 in
theorem tw1564 : (.code yX12_feels cX12_feels 4 (none) : Cond) ∈ TBG := List.mem_filter.mpr ⟨in_t7 _ (List.mem_of_getElem? (i := 14) rfl), rfl⟩
theorem tw1565 : (.methodLink RX12 252 yX12_bits : Cond) ∈ TBG := List.mem_filter.mpr ⟨in_t7 _ (List.mem_of_getElem? (i := 15) (by decide +kernel)), rfl⟩
theorem tw1566 : (.static yX12_bits : Cond) ∈ TBG := List.mem_filter.mpr ⟨in_t7 _ (List.mem_of_getElem? (i := 16) (by decide +kernel)), rfl⟩
set_option maxRecDepth 20000 in
theorem tw1567 : (.code yX12_bits cX12_bits 3 (some .int) : Cond) ∈ TBG := List.mem_filter.mpr ⟨in_t7 _ (List.mem_of_getElem? (i := 17) rfl), rfl⟩
theorem tw1568 : (.methodLink RX12 259 yX12_byLaw : Cond) ∈ TBG := List.mem_filter.mpr ⟨in_t7 _ (List.mem_of_getElem? (i := 18) (by decide +kernel)), rfl⟩
theorem tw1570 : (.instanceMethod yX12_byLaw : Cond) ∈ TBG := List.mem_filter.mpr ⟨in_t7 _ (List.mem_of_getElem? (i := 20) (by decide +kernel)), rfl⟩
set_option maxRecDepth 20000 in
theorem tw1571 : (.code yX12_byLaw cX12_byLaw 5 (some .int) : Cond) ∈ TBG := List.mem_filter.mpr ⟨in_t7 _ (List.mem_of_getElem? (i := 21) rfl), rfl⟩
theorem tw1572 : (.methodLink RX12 232 yX12_comesTo : Cond) ∈ TBG := List.mem_filter.mpr ⟨in_t7 _ (List.mem_of_getElem? (i := 22) (by decide +kernel)), rfl⟩
theorem tw1574 : (.instanceMethod yX12_comesTo : Cond) ∈ TBG := List.mem_filter.mpr ⟨in_t7 _ (List.mem_of_getElem? (i := 24) (by decide +kernel)), rfl⟩
set_option maxRecDepth 20000 in
theorem tw1575 : (.code yX12_comesTo cX12_comesTo 8 (some .int) : Cond) ∈ TBG := List.mem_filter.mpr ⟨in_t7 _ (List.mem_of_getElem? (i := 25) rfl), rfl⟩
theorem tw1576 : (.methodLink RX12 228 yX12_reckon : Cond) ∈ TBG := List.mem_filter.mpr ⟨in_t7 _ (List.mem_of_getElem? (i := 26) (by decide +kernel)), rfl⟩
theorem tw1577 : (.static yX12_reckon : Cond) ∈ TBG := List.mem_filter.mpr ⟨in_t7 _ (List.mem_of_getElem? (i := 27) (by decide +kernel)), rfl⟩
set_option maxRecDepth 20000 in
theorem tw1578 : (.code yX12_reckon cX12_reckon 3 (some .int) : Cond) ∈ TBG := List.mem_filter.mpr ⟨in_t7 _ (List.mem_of_getElem? (i := 28) rfl), rfl⟩
theorem tw1579 : (.methodLink RX12 292 yX12_wearsBy : Cond) ∈ TBG := List.mem_filter.mpr ⟨in_t7 _ (List.mem_of_getElem? (i := 29) (by decide +kernel)), rfl⟩
theorem tw1581 : (.instanceMethod yX12_wearsBy : Cond) ∈ TBG := List.mem_filter.mpr ⟨in_t7 _ (List.mem_of_getElem? (i := 31) (by decide +kernel)), rfl⟩
set_option maxRecDepth 20000 in
theorem tw1582 : (.code yX12_wearsBy cX12_wearsBy 3 (some .int) : Cond) ∈ TBG := List.mem_filter.mpr ⟨in_t7 _ (List.mem_of_getElem? (i := 32) rfl), rfl⟩
theorem tw1583 : (.methodLink RX12 295 yX12_wearsAll : Cond) ∈ TBG := List.mem_filter.mpr ⟨in_t7 _ (List.mem_of_getElem? (i := 33) (by decide +kernel)), rfl⟩
theorem tw1585 : (.instanceMethod yX12_wearsAll : Cond) ∈ TBG := List.mem_filter.mpr ⟨in_t7 _ (List.mem_of_getElem? (i := 35) (by decide +kernel)), rfl⟩
set_option maxRecDepth 20000 in
theorem tw1586 : (.code yX12_wearsAll cX12_wearsAll 4 (none) : Cond) ∈ TBG := List.mem_filter.mpr ⟨in_t7 _ (List.mem_of_getElem? (i := 36) rfl), rfl⟩
theorem tw1587 : (.methodLink RX12 311 yX12_creak : Cond) ∈ TBG := List.mem_filter.mpr ⟨in_t7 _ (List.mem_of_getElem? (i := 37) (by decide +kernel)), rfl⟩
theorem tw1589 : (.instanceMethod yX12_creak : Cond) ∈ TBG := List.mem_filter.mpr ⟨in_t7 _ (List.mem_of_getElem? (i := 39) (by decide +kernel)), rfl⟩
set_option maxRecDepth 20000 in
theorem tw1590 : (.code yX12_creak cX12_creak 4 (none) : Cond) ∈ TBG := List.mem_filter.mpr ⟨in_t7 _ (List.mem_of_getElem? (i := 40) rfl), rfl⟩
theorem tw1591 : (.methodLink RX12 299 yX12_draws : Cond) ∈ TBG := List.mem_filter.mpr ⟨in_t7 _ (List.mem_of_getElem? (i := 41) (by decide +kernel)), rfl⟩
theorem tw1593 : (.instanceMethod yX12_draws : Cond) ∈ TBG := List.mem_filter.mpr ⟨in_t7 _ (List.mem_of_getElem? (i := 43) (by decide +kernel)), rfl⟩
set_option maxRecDepth 20000 in
theorem tw1594 : (.code yX12_draws cX12_draws 1 (some .int) : Cond) ∈ TBG := List.mem_filter.mpr ⟨in_t7 _ (List.mem_of_getElem? (i := 44) rfl), rfl⟩
theorem tw1595 : (.constant RX12 298 (65536) : Cond) ∈ TBG := List.mem_filter.mpr ⟨in_t7 _ (List.mem_of_getElem? (i := 45) (by decide +kernel)), rfl⟩
theorem tw1596 : (.methodLink RL 58 yX12_tried : Cond) ∈ TBG := List.mem_filter.mpr ⟨in_t7 _ (List.mem_of_getElem? (i := 46) (by decide +kernel)), rfl⟩
theorem tw1597 : (.instanceMethod yX12_tried : Cond) ∈ TBG := List.mem_filter.mpr ⟨in_t7 _ (List.mem_of_getElem? (i := 47) (by decide +kernel)), rfl⟩
theorem tw1598 : (.selects RX12 yX12_tried yX12_tried : Cond) ∈ TBG := List.mem_filter.mpr ⟨in_t7 _ (List.mem_of_getElem? (i := 48) (by decide +kernel)), rfl⟩
set_option maxRecDepth 20000 in
theorem tw1599 : (.code yX12_tried cX12_tried 5 (some .int) : Cond) ∈ TBG := List.mem_filter.mpr ⟨in_t7 _ (List.mem_of_getElem? (i := 49) rfl), rfl⟩
theorem tw1600 : (.methodLink RX12 317 yX12_copiesRow : Cond) ∈ TBG := List.mem_filter.mpr ⟨in_t7 _ (List.mem_of_getElem? (i := 50) (by decide +kernel)), rfl⟩
theorem tw1601 : (.static yX12_copiesRow : Cond) ∈ TBG := List.mem_filter.mpr ⟨in_t7 _ (List.mem_of_getElem? (i := 51) (by decide +kernel)), rfl⟩
set_option maxRecDepth 20000 in
theorem tw1602 : (.code yX12_copiesRow cX12_copiesRow 3 (none) : Cond) ∈ TBG := List.mem_filter.mpr ⟨in_t7 _ (List.mem_of_getElem? (i := 52) rfl), rfl⟩
theorem tw1603 : (.methodLink RX12 321 yX12_wedTwos : Cond) ∈ TBG := List.mem_filter.mpr ⟨in_t7 _ (List.mem_of_getElem? (i := 53) (by decide +kernel)), rfl⟩
theorem tw1605 : (.instanceMethod yX12_wedTwos : Cond) ∈ TBG := List.mem_filter.mpr ⟨in_t7 _ (List.mem_of_getElem? (i := 55) (by decide +kernel)), rfl⟩
set_option maxRecDepth 20000 in
theorem tw1606 : (.code yX12_wedTwos cX12_wedTwos 3 (some .int) : Cond) ∈ TBG := List.mem_filter.mpr ⟨in_t7 _ (List.mem_of_getElem? (i := 56) rfl), rfl⟩
theorem tw1607 : (.methodLink RL 62 yX12_personIs : Cond) ∈ TBG := List.mem_filter.mpr ⟨in_t7 _ (List.mem_of_getElem? (i := 57) (by decide +kernel)), rfl⟩
theorem tw1608 : (.instanceMethod yX12_personIs : Cond) ∈ TBG := List.mem_filter.mpr ⟨in_t7 _ (List.mem_of_getElem? (i := 58) (by decide +kernel)), rfl⟩
theorem tw1609 : (.selects RX12 yX12_personIs yX12_personIs : Cond) ∈ TBG := List.mem_filter.mpr ⟨in_t7 _ (List.mem_of_getElem? (i := 59) (by decide +kernel)), rfl⟩
set_option maxRecDepth 20000 in
theorem tw1610 : (.code yX12_personIs cX12_personIs 3 (some .int) : Cond) ∈ TBG := List.mem_filter.mpr ⟨in_t7 _ (List.mem_of_getElem? (i := 60) rfl), rfl⟩
theorem tw1611 : (.methodLink RX12 324 yX12_fitting : Cond) ∈ TBG := List.mem_filter.mpr ⟨in_t7 _ (List.mem_of_getElem? (i := 61) (by decide +kernel)), rfl⟩
theorem tw1613 : (.instanceMethod yX12_fitting : Cond) ∈ TBG := List.mem_filter.mpr ⟨in_t7 _ (List.mem_of_getElem? (i := 63) (by decide +kernel)), rfl⟩
set_option maxRecDepth 20000 in
theorem tw1614 : (.code yX12_fitting cX12_fitting 4 (some .int) : Cond) ∈ TBG := List.mem_filter.mpr ⟨in_t7 _ (List.mem_of_getElem? (i := 64) rfl), rfl⟩
theorem tw1615 : (.methodLink RL 66 yX12_piece : Cond) ∈ TBG := List.mem_filter.mpr ⟨in_t7 _ (List.mem_of_getElem? (i := 65) (by decide +kernel)), rfl⟩
theorem tw1616 : (.instanceMethod yX12_piece : Cond) ∈ TBG := List.mem_filter.mpr ⟨in_t7 _ (List.mem_of_getElem? (i := 66) (by decide +kernel)), rfl⟩
theorem tw1617 : (.selects RX12 yX12_piece yX12_piece : Cond) ∈ TBG := List.mem_filter.mpr ⟨in_t7 _ (List.mem_of_getElem? (i := 67) (by decide +kernel)), rfl⟩
set_option maxRecDepth 20000 in
theorem tw1618 : (.code yX12_piece cX12_piece 4 (some .int) : Cond) ∈ TBG := List.mem_filter.mpr ⟨in_t7 _ (List.mem_of_getElem? (i := 68) rfl), rfl⟩
theorem tw1619 : (.methodLink RL 71 yX12_slack : Cond) ∈ TBG := List.mem_filter.mpr ⟨in_t7 _ (List.mem_of_getElem? (i := 69) (by decide +kernel)), rfl⟩
theorem tw1620 : (.instanceMethod yX12_slack : Cond) ∈ TBG := List.mem_filter.mpr ⟨in_t7 _ (List.mem_of_getElem? (i := 70) (by decide +kernel)), rfl⟩
theorem tw1621 : (.selects RX12 yX12_slack yX12_slack : Cond) ∈ TBG := List.mem_filter.mpr ⟨in_t7 _ (List.mem_of_getElem? (i := 71) (by decide +kernel)), rfl⟩
set_option maxRecDepth 20000 in
theorem tw1622 : (.code yX12_slack cX12_slack 5 (some .int) : Cond) ∈ TBG := List.mem_filter.mpr ⟨in_t7 _ (List.mem_of_getElem? (i := 72) rfl), rfl⟩
theorem tw1623 : (.methodLink RX12 327 yX12_likes : Cond) ∈ TBG := List.mem_filter.mpr ⟨in_t7 _ (List.mem_of_getElem? (i := 73) (by decide +kernel)), rfl⟩
theorem tw1625 : (.instanceMethod yX12_likes : Cond) ∈ TBG := List.mem_filter.mpr ⟨in_t7 _ (List.mem_of_getElem? (i := 75) (by decide +kernel)), rfl⟩
set_option maxRecDepth 20000 in
theorem tw1626 : (.code yX12_likes cX12_likes 3 (some .int) : Cond) ∈ TBG := List.mem_filter.mpr ⟨in_t7 _ (List.mem_of_getElem? (i := 76) rfl), rfl⟩
theorem tw1627 : (.methodLink RL 75 yX12_locks : Cond) ∈ TBG := List.mem_filter.mpr ⟨in_t7 _ (List.mem_of_getElem? (i := 77) (by decide +kernel)), rfl⟩
theorem tw1628 : (.instanceMethod yX12_locks : Cond) ∈ TBG := List.mem_filter.mpr ⟨in_t7 _ (List.mem_of_getElem? (i := 78) (by decide +kernel)), rfl⟩
theorem tw1629 : (.selects RX12 yX12_locks yX12_locks : Cond) ∈ TBG := List.mem_filter.mpr ⟨in_t7 _ (List.mem_of_getElem? (i := 79) (by decide +kernel)), rfl⟩
set_option maxRecDepth 20000 in
theorem tw1630 : (.code yX12_locks cX12_locks 7 (some .int) : Cond) ∈ TBG := List.mem_filter.mpr ⟨in_t7 _ (List.mem_of_getElem? (i := 80) rfl), rfl⟩
theorem tw1631 : (.methodLink RX12 330 yX12_laysFits : Cond) ∈ TBG := List.mem_filter.mpr ⟨in_t7 _ (List.mem_of_getElem? (i := 81) (by decide +kernel)), rfl⟩
theorem tw1633 : (.instanceMethod yX12_laysFits : Cond) ∈ TBG := List.mem_filter.mpr ⟨in_t7 _ (List.mem_of_getElem? (i := 83) (by decide +kernel)), rfl⟩
set_option maxRecDepth 20000 in
theorem tw1634 : (.code yX12_laysFits cX12_laysFits 4 (none) : Cond) ∈ TBG := List.mem_filter.mpr ⟨in_t7 _ (List.mem_of_getElem? (i := 84) rfl), rfl⟩
theorem tw1635 : (.methodLink RL 79 yX12_most : Cond) ∈ TBG := List.mem_filter.mpr ⟨in_t7 _ (List.mem_of_getElem? (i := 85) (by decide +kernel)), rfl⟩
theorem tw1636 : (.instanceMethod yX12_most : Cond) ∈ TBG := List.mem_filter.mpr ⟨in_t7 _ (List.mem_of_getElem? (i := 86) (by decide +kernel)), rfl⟩
theorem tw1637 : (.selects RX12 yX12_most yX12_most : Cond) ∈ TBG := List.mem_filter.mpr ⟨in_t7 _ (List.mem_of_getElem? (i := 87) (by decide +kernel)), rfl⟩
set_option maxRecDepth 20000 in
theorem tw1638 : (.code yX12_most cX12_most 3 (some .int) : Cond) ∈ TBG := List.mem_filter.mpr ⟨in_t7 _ (List.mem_of_getElem? (i := 88) rfl), rfl⟩
theorem tw1639 : (.methodLink RX12 334 yX12_isOne : Cond) ∈ TBG := List.mem_filter.mpr ⟨in_t7 _ (List.mem_of_getElem? (i := 89) (by decide +kernel)), rfl⟩
theorem tw1641 : (.instanceMethod yX12_isOne : Cond) ∈ TBG := List.mem_filter.mpr ⟨in_t7 _ (List.mem_of_getElem? (i := 91) (by decide +kernel)), rfl⟩
set_option maxRecDepth 20000 in
theorem tw1642 : (.code yX12_isOne cX12_isOne 3 (some .boolean) : Cond) ∈ TBG := List.mem_filter.mpr ⟨in_t7 _ (List.mem_of_getElem? (i := 92) rfl), rfl⟩
theorem tw1643 : (.methodLink RX12 340 yX12_laysMost : Cond) ∈ TBG := List.mem_filter.mpr ⟨in_t7 _ (List.mem_of_getElem? (i := 93) (by decide +kernel)), rfl⟩
theorem tw1645 : (.instanceMethod yX12_laysMost : Cond) ∈ TBG := List.mem_filter.mpr ⟨in_t7 _ (List.mem_of_getElem? (i := 95) (by decide +kernel)), rfl⟩
set_option maxRecDepth 20000 in
theorem tw1646 : (.code yX12_laysMost cX12_laysMost 5 (none) : Cond) ∈ TBG := List.mem_filter.mpr ⟨in_t7 _ (List.mem_of_getElem? (i := 96) rfl), rfl⟩
theorem tw1647 : (.constant RX12 333 (49152) : Cond) ∈ TBG := List.mem_filter.mpr ⟨in_t7 _ (List.mem_of_getElem? (i := 97) (by decide +kernel)), rfl⟩
theorem tw1648 : (.methodLink RX12 337 yX12_mayGet : Cond) ∈ TBG := List.mem_filter.mpr ⟨in_t7 _ (List.mem_of_getElem? (i := 98) (by decide +kernel)), rfl⟩
theorem tw1650 : (.instanceMethod yX12_mayGet : Cond) ∈ TBG := List.mem_filter.mpr ⟨in_t7 _ (List.mem_of_getElem? (i := 100) (by decide +kernel)), rfl⟩
set_option maxRecDepth 20000 in
theorem tw1651 : (.code yX12_mayGet cX12_mayGet 4 (some .boolean) : Cond) ∈ TBG := List.mem_filter.mpr ⟨in_t7 _ (List.mem_of_getElem? (i := 101) rfl), rfl⟩
theorem tw1652 : (.methodLink RX12 343 yX12_getsBy : Cond) ∈ TBG := List.mem_filter.mpr ⟨in_t7 _ (List.mem_of_getElem? (i := 102) (by decide +kernel)), rfl⟩
theorem tw1654 : (.instanceMethod yX12_getsBy : Cond) ∈ TBG := List.mem_filter.mpr ⟨in_t7 _ (List.mem_of_getElem? (i := 104) (by decide +kernel)), rfl⟩
set_option maxRecDepth 20000 in
theorem tw1655 : (.code yX12_getsBy cX12_getsBy 6 (some .int) : Cond) ∈ TBG := List.mem_filter.mpr ⟨in_t7 _ (List.mem_of_getElem? (i := 105) rfl), rfl⟩
theorem tw1656 : (.methodLink RL 83 yX12_stable : Cond) ∈ TBG := List.mem_filter.mpr ⟨in_t7 _ (List.mem_of_getElem? (i := 106) (by decide +kernel)), rfl⟩
theorem tw1657 : (.instanceMethod yX12_stable : Cond) ∈ TBG := List.mem_filter.mpr ⟨in_t7 _ (List.mem_of_getElem? (i := 107) (by decide +kernel)), rfl⟩
theorem tw1658 : (.selects RX12 yX12_stable yX12_stable : Cond) ∈ TBG := List.mem_filter.mpr ⟨in_t7 _ (List.mem_of_getElem? (i := 108) (by decide +kernel)), rfl⟩
set_option maxRecDepth 20000 in
theorem tw1659 : (.code yX12_stable cX12_stable 4 (some .int) : Cond) ∈ TBG := List.mem_filter.mpr ⟨in_t7 _ (List.mem_of_getElem? (i := 109) rfl), rfl⟩
theorem tw1660 : (.methodLink RX12 352 yX12_laysStable : Cond) ∈ TBG := List.mem_filter.mpr ⟨in_t7 _ (List.mem_of_getElem? (i := 110) (by decide +kernel)), rfl⟩
theorem tw1662 : (.instanceMethod yX12_laysStable : Cond) ∈ TBG := List.mem_filter.mpr ⟨in_t7 _ (List.mem_of_getElem? (i := 112) (by decide +kernel)), rfl⟩
set_option maxRecDepth 20000 in
theorem tw1663 : (.code yX12_laysStable cX12_laysStable 4 (none) : Cond) ∈ TBG := List.mem_filter.mpr ⟨in_t7 _ (List.mem_of_getElem? (i := 113) rfl), rfl⟩
theorem tw1664 : (.methodLink RX12 346 yX12_nextAsked : Cond) ∈ TBG := List.mem_filter.mpr ⟨in_t7 _ (List.mem_of_getElem? (i := 114) (by decide +kernel)), rfl⟩
theorem tw1666 : (.instanceMethod yX12_nextAsked : Cond) ∈ TBG := List.mem_filter.mpr ⟨in_t7 _ (List.mem_of_getElem? (i := 116) (by decide +kernel)), rfl⟩
set_option maxRecDepth 20000 in
theorem tw1667 : (.code yX12_nextAsked cX12_nextAsked 4 (some .int) : Cond) ∈ TBG := List.mem_filter.mpr ⟨in_t7 _ (List.mem_of_getElem? (i := 117) rfl), rfl⟩
theorem tw1668 : (.methodLink RX12 349 yX12_keeps : Cond) ∈ TBG := List.mem_filter.mpr ⟨in_t7 _ (List.mem_of_getElem? (i := 118) (by decide +kernel)), rfl⟩
theorem tw1670 : (.instanceMethod yX12_keeps : Cond) ∈ TBG := List.mem_filter.mpr ⟨in_t7 _ (List.mem_of_getElem? (i := 120) (by decide +kernel)), rfl⟩
set_option maxRecDepth 20000 in
theorem tw1671 : (.code yX12_keeps cX12_keeps 5 (some .boolean) : Cond) ∈ TBG := List.mem_filter.mpr ⟨in_t7 _ (List.mem_of_getElem? (i := 121) rfl), rfl⟩
theorem tw1672 : (.methodLink RL 87 yX12_unrest : Cond) ∈ TBG := List.mem_filter.mpr ⟨in_t7 _ (List.mem_of_getElem? (i := 122) (by decide +kernel)), rfl⟩
theorem tw1673 : (.instanceMethod yX12_unrest : Cond) ∈ TBG := List.mem_filter.mpr ⟨in_t7 _ (List.mem_of_getElem? (i := 123) (by decide +kernel)), rfl⟩
theorem tw1674 : (.selects RX12 yX12_unrest yX12_unrest : Cond) ∈ TBG := List.mem_filter.mpr ⟨in_t7 _ (List.mem_of_getElem? (i := 124) (by decide +kernel)), rfl⟩
set_option maxRecDepth 20000 in
theorem tw1675 : (.code yX12_unrest cX12_unrest 6 (some .int) : Cond) ∈ TBG := List.mem_filter.mpr ⟨in_t7 _ (List.mem_of_getElem? (i := 125) rfl), rfl⟩
theorem tw1676 : (.methodLink RX12 355 yX12_likesWed : Cond) ∈ TBG := List.mem_filter.mpr ⟨in_t7 _ (List.mem_of_getElem? (i := 126) (by decide +kernel)), rfl⟩
theorem tw1678 : (.instanceMethod yX12_likesWed : Cond) ∈ TBG := List.mem_filter.mpr ⟨in_t7 _ (List.mem_of_getElem? (i := 128) (by decide +kernel)), rfl⟩
set_option maxRecDepth 20000 in
theorem tw1679 : (.code yX12_likesWed cX12_likesWed 2 (some .int) : Cond) ∈ TBG := List.mem_filter.mpr ⟨in_t7 _ (List.mem_of_getElem? (i := 129) rfl), rfl⟩
theorem tw1680 : (.methodLink RL 91 yX12_search : Cond) ∈ TBG := List.mem_filter.mpr ⟨in_t7 _ (List.mem_of_getElem? (i := 130) (by decide +kernel)), rfl⟩
theorem tw1681 : (.instanceMethod yX12_search : Cond) ∈ TBG := List.mem_filter.mpr ⟨in_t7 _ (List.mem_of_getElem? (i := 131) (by decide +kernel)), rfl⟩
theorem tw1682 : (.selects RX12 yX12_search yX12_search : Cond) ∈ TBG := List.mem_filter.mpr ⟨in_t7 _ (List.mem_of_getElem? (i := 132) (by decide +kernel)), rfl⟩
set_option maxRecDepth 20000 in
theorem tw1683 : (.code yX12_search cX12_search 8 (some .int) : Cond) ∈ TBG := List.mem_filter.mpr ⟨in_t7 _ (List.mem_of_getElem? (i := 133) rfl), rfl⟩
theorem tw1684 : (.methodLink RX12 358 yX12_areBounds : Cond) ∈ TBG := List.mem_filter.mpr ⟨in_t7 _ (List.mem_of_getElem? (i := 134) (by decide +kernel)), rfl⟩
theorem tw1686 : (.instanceMethod yX12_areBounds : Cond) ∈ TBG := List.mem_filter.mpr ⟨in_t7 _ (List.mem_of_getElem? (i := 136) (by decide +kernel)), rfl⟩
set_option maxRecDepth 20000 in
theorem tw1687 : (.code yX12_areBounds cX12_areBounds 5 (some .boolean) : Cond) ∈ TBG := List.mem_filter.mpr ⟨in_t7 _ (List.mem_of_getElem? (i := 137) rfl), rfl⟩
theorem tw1688 : (.methodLink RX12 361 yX12_readsRow : Cond) ∈ TBG := List.mem_filter.mpr ⟨in_t7 _ (List.mem_of_getElem? (i := 138) (by decide +kernel)), rfl⟩
theorem tw1690 : (.instanceMethod yX12_readsRow : Cond) ∈ TBG := List.mem_filter.mpr ⟨in_t7 _ (List.mem_of_getElem? (i := 140) (by decide +kernel)), rfl⟩
set_option maxRecDepth 20000 in
theorem tw1691 : (.code yX12_readsRow cX12_readsRow 6 (some .boolean) : Cond) ∈ TBG := List.mem_filter.mpr ⟨in_t7 _ (List.mem_of_getElem? (i := 141) rfl), rfl⟩
theorem tw1692 : (.methodLink RX12 364 yX12_sumBy : Cond) ∈ TBG := List.mem_filter.mpr ⟨in_t7 _ (List.mem_of_getElem? (i := 142) (by decide +kernel)), rfl⟩
theorem tw1694 : (.instanceMethod yX12_sumBy : Cond) ∈ TBG := List.mem_filter.mpr ⟨in_t7 _ (List.mem_of_getElem? (i := 144) (by decide +kernel)), rfl⟩
set_option maxRecDepth 20000 in
theorem tw1695 : (.code yX12_sumBy cX12_sumBy 5 (some .int) : Cond) ∈ TBG := List.mem_filter.mpr ⟨in_t7 _ (List.mem_of_getElem? (i := 145) rfl), rfl⟩
theorem tw1696 : (.methodLink RX12 367 yX12_gcd : Cond) ∈ TBG := List.mem_filter.mpr ⟨in_t7 _ (List.mem_of_getElem? (i := 146) (by decide +kernel)), rfl⟩
theorem tw1697 : (.static yX12_gcd : Cond) ∈ TBG := List.mem_filter.mpr ⟨in_t7 _ (List.mem_of_getElem? (i := 147) (by decide +kernel)), rfl⟩
set_option maxRecDepth 20000 in
theorem tw1698 : (.code yX12_gcd cX12_gcd 5 (some .int) : Cond) ∈ TBG := List.mem_filter.mpr ⟨in_t7 _ (List.mem_of_getElem? (i := 148) rfl), rfl⟩
theorem tw1699 : (.methodLink RL 96 yX12_sanding : Cond) ∈ TBG := List.mem_filter.mpr ⟨in_t7 _ (List.mem_of_getElem? (i := 149) (by decide +kernel)), rfl⟩
theorem tw1700 : (.instanceMethod yX12_sanding : Cond) ∈ TBG := List.mem_filter.mpr ⟨in_t7 _ (List.mem_of_getElem? (i := 150) (by decide +kernel)), rfl⟩
theorem tw1701 : (.selects RX12 yX12_sanding yX12_sanding : Cond) ∈ TBG := List.mem_filter.mpr ⟨in_t7 _ (List.mem_of_getElem? (i := 151) (by decide +kernel)), rfl⟩
set_option maxRecDepth 20000 in
theorem tw1702 : (.code yX12_sanding cX12_sanding 13 (some .int) : Cond) ∈ TBG := List.mem_filter.mpr ⟨in_t7 _ (List.mem_of_getElem? (i := 152) rfl), rfl⟩
theorem tw1703 : (.methodLink RX12 386 yX12_laysWork : Cond) ∈ TBG := List.mem_filter.mpr ⟨in_t7 _ (List.mem_of_getElem? (i := 153) (by decide +kernel)), rfl⟩
theorem tw1705 : (.instanceMethod yX12_laysWork : Cond) ∈ TBG := List.mem_filter.mpr ⟨in_t7 _ (List.mem_of_getElem? (i := 155) (by decide +kernel)), rfl⟩
set_option maxRecDepth 20000 in
theorem tw1706 : (.code yX12_laysWork cX12_laysWork 7 (none) : Cond) ∈ TBG := List.mem_filter.mpr ⟨in_t7 _ (List.mem_of_getElem? (i := 156) rfl), rfl⟩
theorem tw1707 : (.methodLink RX12 382 yX12_workBy : Cond) ∈ TBG := List.mem_filter.mpr ⟨in_t7 _ (List.mem_of_getElem? (i := 157) (by decide +kernel)), rfl⟩
theorem tw1709 : (.instanceMethod yX12_workBy : Cond) ∈ TBG := List.mem_filter.mpr ⟨in_t7 _ (List.mem_of_getElem? (i := 159) (by decide +kernel)), rfl⟩
set_option maxRecDepth 20000 in
theorem tw1710 : (.code yX12_workBy cX12_workBy 8 (some .int) : Cond) ∈ TBG := List.mem_filter.mpr ⟨in_t7 _ (List.mem_of_getElem? (i := 160) rfl), rfl⟩
theorem tw1711 : (.methodLink RX12 376 yX12_workAt : Cond) ∈ TBG := List.mem_filter.mpr ⟨in_t7 _ (List.mem_of_getElem? (i := 161) (by decide +kernel)), rfl⟩
theorem tw1713 : (.instanceMethod yX12_workAt : Cond) ∈ TBG := List.mem_filter.mpr ⟨in_t7 _ (List.mem_of_getElem? (i := 163) (by decide +kernel)), rfl⟩
set_option maxRecDepth 20000 in
theorem tw1714 : (.code yX12_workAt cX12_workAt 4 (some .int) : Cond) ∈ TBG := List.mem_filter.mpr ⟨in_t7 _ (List.mem_of_getElem? (i := 164) rfl), rfl⟩
theorem tw1715 : (.methodLink RX12 389 yX12_laysSanded : Cond) ∈ TBG := List.mem_filter.mpr ⟨in_t7 _ (List.mem_of_getElem? (i := 165) (by decide +kernel)), rfl⟩
theorem tw1717 : (.instanceMethod yX12_laysSanded : Cond) ∈ TBG := List.mem_filter.mpr ⟨in_t7 _ (List.mem_of_getElem? (i := 167) (by decide +kernel)), rfl⟩
set_option maxRecDepth 20000 in
theorem tw1718 : (.code yX12_laysSanded cX12_laysSanded 7 (none) : Cond) ∈ TBG := List.mem_filter.mpr ⟨in_t7 _ (List.mem_of_getElem? (i := 168) rfl), rfl⟩
theorem tw1719 : (.methodLink RX12 392 yX12_slackOfSanded : Cond) ∈ TBG := List.mem_filter.mpr ⟨in_t7 _ (List.mem_of_getElem? (i := 169) (by decide +kernel)), rfl⟩
theorem tw1721 : (.instanceMethod yX12_slackOfSanded : Cond) ∈ TBG := List.mem_filter.mpr ⟨in_t7 _ (List.mem_of_getElem? (i := 171) (by decide +kernel)), rfl⟩
set_option maxRecDepth 20000 in
theorem tw1722 : (.code yX12_slackOfSanded cX12_slackOfSanded 4 (some .int) : Cond) ∈ TBG := List.mem_filter.mpr ⟨in_t7 _ (List.mem_of_getElem? (i := 172) rfl), rfl⟩
theorem tw1723 : (.methodLink RL 101 yX12_steaming : Cond) ∈ TBG := List.mem_filter.mpr ⟨in_t7 _ (List.mem_of_getElem? (i := 173) (by decide +kernel)), rfl⟩
theorem tw1724 : (.instanceMethod yX12_steaming : Cond) ∈ TBG := List.mem_filter.mpr ⟨in_t7 _ (List.mem_of_getElem? (i := 174) (by decide +kernel)), rfl⟩
theorem tw1725 : (.selects RX12 yX12_steaming yX12_steaming : Cond) ∈ TBG := List.mem_filter.mpr ⟨in_t7 _ (List.mem_of_getElem? (i := 175) (by decide +kernel)), rfl⟩
set_option maxRecDepth 20000 in
theorem tw1726 : (.code yX12_steaming cX12_steaming 9 (some .int) : Cond) ∈ TBG := List.mem_filter.mpr ⟨in_t7 _ (List.mem_of_getElem? (i := 176) rfl), rfl⟩
theorem tw1727 : (.methodLink RX12 395 yX12_slackSteamed : Cond) ∈ TBG := List.mem_filter.mpr ⟨in_t7 _ (List.mem_of_getElem? (i := 177) (by decide +kernel)), rfl⟩
theorem tw1729 : (.instanceMethod yX12_slackSteamed : Cond) ∈ TBG := List.mem_filter.mpr ⟨in_t7 _ (List.mem_of_getElem? (i := 179) (by decide +kernel)), rfl⟩
set_option maxRecDepth 20000 in
theorem tw1730 : (.code yX12_slackSteamed cX12_slackSteamed 8 (some .int) : Cond) ∈ TBG := List.mem_filter.mpr ⟨in_t7 _ (List.mem_of_getElem? (i := 180) rfl), rfl⟩
theorem tw1731 : (.methodLink RL 105 yX12_worn : Cond) ∈ TBG := List.mem_filter.mpr ⟨in_t7 _ (List.mem_of_getElem? (i := 181) (by decide +kernel)), rfl⟩
theorem tw1732 : (.instanceMethod yX12_worn : Cond) ∈ TBG := List.mem_filter.mpr ⟨in_t7 _ (List.mem_of_getElem? (i := 182) (by decide +kernel)), rfl⟩
theorem tw1733 : (.selects RX12 yX12_worn yX12_worn : Cond) ∈ TBG := List.mem_filter.mpr ⟨in_t7 _ (List.mem_of_getElem? (i := 183) (by decide +kernel)), rfl⟩
set_option maxRecDepth 20000 in
theorem tw1734 : (.code yX12_worn cX12_worn 8 (some .int) : Cond) ∈ TBG := List.mem_filter.mpr ⟨in_t7 _ (List.mem_of_getElem? (i := 184) rfl), rfl⟩
theorem tw1735 : (.methodLink RL 109 yX12_cutter : Cond) ∈ TBG := List.mem_filter.mpr ⟨in_t7 _ (List.mem_of_getElem? (i := 185) (by decide +kernel)), rfl⟩
theorem tw1736 : (.instanceMethod yX12_cutter : Cond) ∈ TBG := List.mem_filter.mpr ⟨in_t7 _ (List.mem_of_getElem? (i := 186) (by decide +kernel)), rfl⟩
theorem tw1737 : (.selects RX12 yX12_cutter yX12_cutter : Cond) ∈ TBG := List.mem_filter.mpr ⟨in_t7 _ (List.mem_of_getElem? (i := 187) (by decide +kernel)), rfl⟩
set_option maxRecDepth 20000 in
theorem tw1738 : (.code yX12_cutter cX12_cutter 6 (some .int) : Cond) ∈ TBG := List.mem_filter.mpr ⟨in_t7 _ (List.mem_of_getElem? (i := 188) rfl), rfl⟩
theorem tw1739 : (.methodLink RX12 401 yX12_makesAll : Cond) ∈ TBG := List.mem_filter.mpr ⟨in_t7 _ (List.mem_of_getElem? (i := 189) (by decide +kernel)), rfl⟩
theorem tw1741 : (.instanceMethod yX12_makesAll : Cond) ∈ TBG := List.mem_filter.mpr ⟨in_t7 _ (List.mem_of_getElem? (i := 191) (by decide +kernel)), rfl⟩
set_option maxRecDepth 20000 in
theorem tw1742 : (.code yX12_makesAll cX12_makesAll 4 (some .boolean) : Cond) ∈ TBG := List.mem_filter.mpr ⟨in_t7 _ (List.mem_of_getElem? (i := 192) rfl), rfl⟩
theorem tw1743 : (.methodLink RX12 398 yX12_makes : Cond) ∈ TBG := List.mem_filter.mpr ⟨in_t7 _ (List.mem_of_getElem? (i := 193) (by decide +kernel)), rfl⟩
theorem tw1745 : (.instanceMethod yX12_makes : Cond) ∈ TBG := List.mem_filter.mpr ⟨in_t7 _ (List.mem_of_getElem? (i := 195) (by decide +kernel)), rfl⟩
set_option maxRecDepth 20000 in
theorem tw1746 : (.code yX12_makes cX12_makes 8 (some .boolean) : Cond) ∈ TBG := List.mem_filter.mpr ⟨in_t7 _ (List.mem_of_getElem? (i := 196) rfl), rfl⟩
theorem tw1747 : (.methodLink RL 113 yX12_copies : Cond) ∈ TBG := List.mem_filter.mpr ⟨in_t7 _ (List.mem_of_getElem? (i := 197) (by decide +kernel)), rfl⟩
theorem tw1748 : (.instanceMethod yX12_copies : Cond) ∈ TBG := List.mem_filter.mpr ⟨in_t7 _ (List.mem_of_getElem? (i := 198) (by decide +kernel)), rfl⟩
theorem tw1749 : (.selects RX12 yX12_copies yX12_copies : Cond) ∈ TBG := List.mem_filter.mpr ⟨in_t7 _ (List.mem_of_getElem? (i := 199) (by decide +kernel)), rfl⟩
set_option maxRecDepth 20000 in
theorem tw1750 : (.code yX12_copies cX12_copies 6 (some .int) : Cond) ∈ TBG := List.mem_filter.mpr ⟨in_t7 _ (List.mem_of_getElem? (i := 200) rfl), rfl⟩
theorem tw1751 : (.methodLink RX12 404 yX12_areSame : Cond) ∈ TBG := List.mem_filter.mpr ⟨in_t7 _ (List.mem_of_getElem? (i := 201) (by decide +kernel)), rfl⟩
theorem tw1753 : (.instanceMethod yX12_areSame : Cond) ∈ TBG := List.mem_filter.mpr ⟨in_t7 _ (List.mem_of_getElem? (i := 203) (by decide +kernel)), rfl⟩
set_option maxRecDepth 20000 in
theorem tw1754 : (.code yX12_areSame cX12_areSame 4 (some .boolean) : Cond) ∈ TBG := List.mem_filter.mpr ⟨in_t7 _ (List.mem_of_getElem? (i := 204) rfl), rfl⟩
theorem tw1755 : (.methodLink RL 117 yX12_mate : Cond) ∈ TBG := List.mem_filter.mpr ⟨in_t7 _ (List.mem_of_getElem? (i := 205) (by decide +kernel)), rfl⟩
theorem tw1756 : (.instanceMethod yX12_mate : Cond) ∈ TBG := List.mem_filter.mpr ⟨in_t7 _ (List.mem_of_getElem? (i := 206) (by decide +kernel)), rfl⟩
theorem tw1757 : (.selects RX12 yX12_mate yX12_mate : Cond) ∈ TBG := List.mem_filter.mpr ⟨in_t7 _ (List.mem_of_getElem? (i := 207) (by decide +kernel)), rfl⟩
set_option maxRecDepth 20000 in
theorem tw1758 : (.code yX12_mate cX12_mate 3 (some .int) : Cond) ∈ TBG := List.mem_filter.mpr ⟨in_t7 _ (List.mem_of_getElem? (i := 208) rfl), rfl⟩
theorem tw1759 : (.methodLink RL 121 yX12_seed : Cond) ∈ TBG := List.mem_filter.mpr ⟨in_t7 _ (List.mem_of_getElem? (i := 209) (by decide +kernel)), rfl⟩
theorem tw1760 : (.instanceMethod yX12_seed : Cond) ∈ TBG := List.mem_filter.mpr ⟨in_t7 _ (List.mem_of_getElem? (i := 210) (by decide +kernel)), rfl⟩
theorem tw1761 : (.selects RX12 yX12_seed yX12_seed : Cond) ∈ TBG := List.mem_filter.mpr ⟨in_t7 _ (List.mem_of_getElem? (i := 211) (by decide +kernel)), rfl⟩
set_option maxRecDepth 20000 in
theorem tw1762 : (.code yX12_seed cX12_seed 2 (some .boolean) : Cond) ∈ TBG := List.mem_filter.mpr ⟨in_t7 _ (List.mem_of_getElem? (i := 212) rfl), rfl⟩
theorem tw1763 : (.constant RX12 407 (65535) : Cond) ∈ TBG := List.mem_filter.mpr ⟨in_t7 _ (List.mem_of_getElem? (i := 213) (by decide +kernel)), rfl⟩
theorem tw1764 : (.methodLink RL 126 yX12_keep : Cond) ∈ TBG := List.mem_filter.mpr ⟨in_t7 _ (List.mem_of_getElem? (i := 214) (by decide +kernel)), rfl⟩
theorem tw1765 : (.instanceMethod yX12_keep : Cond) ∈ TBG := List.mem_filter.mpr ⟨in_t7 _ (List.mem_of_getElem? (i := 215) (by decide +kernel)), rfl⟩
theorem tw1766 : (.selects RX12 yX12_keep yX12_keep : Cond) ∈ TBG := List.mem_filter.mpr ⟨in_t7 _ (List.mem_of_getElem? (i := 216) (by decide +kernel)), rfl⟩
set_option maxRecDepth 20000 in
theorem tw1767 : (.code yX12_keep cX12_keep 1 (some .int) : Cond) ∈ TBG := List.mem_filter.mpr ⟨in_t7 _ (List.mem_of_getElem? (i := 217) rfl), rfl⟩
theorem tw1768 : (.methodLink RL 131 yX12_undo : Cond) ∈ TBG := List.mem_filter.mpr ⟨in_t7 _ (List.mem_of_getElem? (i := 218) (by decide +kernel)), rfl⟩
theorem tw1769 : (.instanceMethod yX12_undo : Cond) ∈ TBG := List.mem_filter.mpr ⟨in_t7 _ (List.mem_of_getElem? (i := 219) (by decide +kernel)), rfl⟩
theorem tw1770 : (.selects RX12 yX12_undo yX12_undo : Cond) ∈ TBG := List.mem_filter.mpr ⟨in_t7 _ (List.mem_of_getElem? (i := 220) (by decide +kernel)), rfl⟩
set_option maxRecDepth 20000 in
theorem tw1771 : (.code yX12_undo cX12_undo 1 (some .boolean) : Cond) ∈ TBG := List.mem_filter.mpr ⟨in_t7 _ (List.mem_of_getElem? (i := 221) rfl), rfl⟩
theorem tw1772 : (.methodLink RL 135 yX12_check : Cond) ∈ TBG := List.mem_filter.mpr ⟨in_t7 _ (List.mem_of_getElem? (i := 222) (by decide +kernel)), rfl⟩
theorem tw1773 : (.instanceMethod yX12_check : Cond) ∈ TBG := List.mem_filter.mpr ⟨in_t7 _ (List.mem_of_getElem? (i := 223) (by decide +kernel)), rfl⟩
theorem tw1774 : (.selects RX12 yX12_check yX12_check : Cond) ∈ TBG := List.mem_filter.mpr ⟨in_t7 _ (List.mem_of_getElem? (i := 224) (by decide +kernel)), rfl⟩
set_option maxRecDepth 20000 in
theorem tw1775 : (.code yX12_check cX12_check 4 (some .int) : Cond) ∈ TBG := List.mem_filter.mpr ⟨in_t7 _ (List.mem_of_getElem? (i := 225) rfl), rfl⟩
theorem tw1776 : (.methodLink RL 139 yX12_count : Cond) ∈ TBG := List.mem_filter.mpr ⟨in_t7 _ (List.mem_of_getElem? (i := 226) (by decide +kernel)), rfl⟩
theorem tw1777 : (.instanceMethod yX12_count : Cond) ∈ TBG := List.mem_filter.mpr ⟨in_t7 _ (List.mem_of_getElem? (i := 227) (by decide +kernel)), rfl⟩
theorem tw1778 : (.selects RX12 yX12_count yX12_count : Cond) ∈ TBG := List.mem_filter.mpr ⟨in_t7 _ (List.mem_of_getElem? (i := 228) (by decide +kernel)), rfl⟩
set_option maxRecDepth 20000 in
theorem tw1779 : (.code yX12_count cX12_count 4 (some .int) : Cond) ∈ TBG := List.mem_filter.mpr ⟨in_t7 _ (List.mem_of_getElem? (i := 229) rfl), rfl⟩
theorem tw1780 : (.fieldLink RJ0 15 "java/lang/String" "coder" "B" : Cond) ∈ TBG := List.mem_filter.mpr ⟨in_t7 _ (List.mem_of_getElem? (i := 230) (by decide +kernel)), rfl⟩
theorem tw1781 : (.fieldLink RJ0 9 "java/lang/String" "value" "[B" : Cond) ∈ TBG := List.mem_filter.mpr ⟨in_t7 _ (List.mem_of_getElem? (i := 231) (by decide +kernel)), rfl⟩
