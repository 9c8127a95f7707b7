theorem in_t1 : ∀ w ∈ tables_1_1, w ∈ lw_tbl := fun w h => List.mem_append_right _ (show w ∈ tables_1 from List.mem_append_left _ h)
theorem in_t2 : ∀ w ∈ tables_1_2, w ∈ lw_tbl := fun w h => List.mem_append_right _ (show w ∈ tables_1 from List.mem_append_right _ (List.mem_append_left _ h))
theorem in_t3 : ∀ w ∈ tables_1_3, w ∈ lw_tbl := fun w h => List.mem_append_right _ (show w ∈ tables_1 from List.mem_append_right _ (List.mem_append_right _ (List.mem_append_left _ h)))
theorem in_t4 : ∀ w ∈ tables_1_4, w ∈ lw_tbl := fun w h => List.mem_append_right _ (show w ∈ tables_1 from List.mem_append_right _ (List.mem_append_right _ (List.mem_append_right _ (List.mem_append_left _ h))))
theorem in_t5 : ∀ w ∈ tables_1_5, w ∈ lw_tbl := fun w h => List.mem_append_right _ (show w ∈ tables_1 from List.mem_append_right _ (List.mem_append_right _ (List.mem_append_right _ (List.mem_append_right _ (List.mem_append_left _ h)))))
theorem in_t6 : ∀ w ∈ tables_1_6, w ∈ lw_tbl := fun w h => List.mem_append_right _ (show w ∈ tables_1 from List.mem_append_right _ (List.mem_append_right _ (List.mem_append_right _ (List.mem_append_right _ (List.mem_append_right _ (List.mem_append_left _ h))))))
theorem in_t7 : ∀ w ∈ tables_1_7, w ∈ lw_tbl := fun w h => List.mem_append_right _ (show w ∈ tables_1 from List.mem_append_right _ (List.mem_append_right _ (List.mem_append_right _ (List.mem_append_right _ (List.mem_append_right _ (List.mem_append_right _ (h)))))))
theorem tw0 : (.selects RX5 yX5_readClause yX5_readClause : Cond) ∈ TBG := TBG_mem (i := 0) (by decide +kernel) rfl
theorem tw1 : (.selects RX5 yX5_readSum yX5_readSum : Cond) ∈ TBG := TBG_mem (i := 1) (by decide +kernel) rfl
theorem tw2 : (.selects RX5 yX5_readProduct yX5_readProduct : Cond) ∈ TBG := TBG_mem (i := 2) (by decide +kernel) rfl
theorem tw3 : (.selects RX5 yX5_readFactor yX5_readFactor : Cond) ∈ TBG := TBG_mem (i := 3) (by decide +kernel) rfl
theorem tw4 : (.selects RX5 yX5_pass yX5_pass : Cond) ∈ TBG := TBG_mem (i := 4) (by decide +kernel) rfl
theorem tw5 : (.selects RX5 yX5_readNumber yX5_readNumber : Cond) ∈ TBG := TBG_mem (i := 5) (by decide +kernel) rfl
theorem tw6 : (.selects RX5 yX5_readEither yX5_readEither : Cond) ∈ TBG := TBG_mem (i := 6) (by decide +kernel) rfl
theorem tw7 : (.selects RX5 yX5_readBoth yX5_readBoth : Cond) ∈ TBG := TBG_mem (i := 7) (by decide +kernel) rfl
theorem tw8 : (.selects RX5 yX5_readTest yX5_readTest : Cond) ∈ TBG := TBG_mem (i := 8) (by decide +kernel) rfl
theorem tw9 : (.selects RX5 yX5_readInner yX5_readInner : Cond) ∈ TBG := TBG_mem (i := 9) (by decide +kernel) rfl
theorem tw10 : (.selects RX5 yX5_emitJump yX5_emitJump : Cond) ∈ TBG := TBG_mem (i := 10) (by decide +kernel) rfl
theorem tw11 : (.selects RX5 yX5_land yX5_land : Cond) ∈ TBG := TBG_mem (i := 11) (by decide +kernel) rfl
theorem tw12 : (.selects RX6 yX6_readHeight yX6_readHeight : Cond) ∈ TBG := TBG_mem (i := 12) (by decide +kernel) rfl
theorem tw13 : (.selects RX6 yX6_readTimes yX6_readTimes : Cond) ∈ TBG := TBG_mem (i := 13) (by decide +kernel) rfl
theorem tw14 : (.selects RX6 yX6_put yX6_put : Cond) ∈ TBG := TBG_mem (i := 14) (by decide +kernel) rfl
theorem tw15 : (.selects RX1 yX1_travel yX1_travel : Cond) ∈ TBG := TBG_mem (i := 15) (by decide +kernel) rfl
theorem tw16 : (.selects RX1 yX1_meet yX1_meet : Cond) ∈ TBG := TBG_mem (i := 16) (by decide +kernel) rfl
theorem tw17 : (.selects RX2 yX2_fill yX2_fill : Cond) ∈ TBG := TBG_mem (i := 17) (by decide +kernel) rfl
theorem tw18 : (.selects RX1 yX1_strain yX1_strain : Cond) ∈ TBG := TBG_mem (i := 18) (by decide +kernel) rfl
theorem tw19 : (.selects RX11 yX11_whomItFits yX11_whomItFits : Cond) ∈ TBG := TBG_mem (i := 19) (by decide +kernel) rfl
theorem tw20 : (.selects RX11 yX11_fitsAbove yX11_fitsAbove : Cond) ∈ TBG := TBG_mem (i := 20) (by decide +kernel) rfl
theorem tw21 : (.selects RX0 yX0_gather yX0_gather : Cond) ∈ TBG := TBG_mem (i := 21) (by decide +kernel) rfl
theorem tw22 : (.selects RX0 yX0_weighAll yX0_weighAll : Cond) ∈ TBG := TBG_mem (i := 22) (by decide +kernel) rfl
theorem tw23 : (.selects RX0 yX0_setBest yX0_setBest : Cond) ∈ TBG := TBG_mem (i := 23) (by decide +kernel) rfl
theorem tw24 : (.selects RX0 yX0_bestOf yX0_bestOf : Cond) ∈ TBG := TBG_mem (i := 24) (by decide +kernel) rfl
theorem tw25 : (.selects RX0 yX0_withBond yX0_withBond : Cond) ∈ TBG := TBG_mem (i := 25) (by decide +kernel) rfl
theorem tw26 : (.selects RX0 yX0_choose yX0_choose : Cond) ∈ TBG := TBG_mem (i := 26) (by decide +kernel) rfl
theorem tw27 : (.selects RX0 yX0_askNext yX0_askNext : Cond) ∈ TBG := TBG_mem (i := 27) (by decide +kernel) rfl
theorem tw28 : (.selects RX0 yX0_prefers yX0_prefers : Cond) ∈ TBG := TBG_mem (i := 28) (by decide +kernel) rfl
theorem tw29 : (.selects RX11 yX11_wouldLeave yX11_wouldLeave : Cond) ∈ TBG := TBG_mem (i := 29) (by decide +kernel) rfl
theorem tw30 : (.selects RX11 yX11_likingNow yX11_likingNow : Cond) ∈ TBG := TBG_mem (i := 30) (by decide +kernel) rfl
theorem tw31 : (.selects RX9 yX9_weigh yX9_weigh : Cond) ∈ TBG := TBG_mem (i := 31) (by decide +kernel) rfl
theorem tw32 : (.selects RX9 yX9_nextOrder yX9_nextOrder : Cond) ∈ TBG := TBG_mem (i := 32) (by decide +kernel) rfl
theorem tw33 : (.selects RX9 yX9_swap yX9_swap : Cond) ∈ TBG := TBG_mem (i := 33) (by decide +kernel) rfl
theorem tw34 : (.selects RX9 yX9_commonDivisor yX9_commonDivisor : Cond) ∈ TBG := TBG_mem (i := 34) (by decide +kernel) rfl
theorem tw35 : (.selects RX11 yX11_canSand yX11_canSand : Cond) ∈ TBG := TBG_mem (i := 35) (by decide +kernel) rfl
theorem tw36 : (.selects RX8 yX8_weigh yX8_weigh : Cond) ∈ TBG := TBG_mem (i := 36) (by decide +kernel) rfl
theorem tw37 : (.selects RX8 yX8_bestHere yX8_bestHere : Cond) ∈ TBG := TBG_mem (i := 37) (by decide +kernel) rfl
theorem tw38 : (.selects RX8 yX8_leastOf yX8_leastOf : Cond) ∈ TBG := TBG_mem (i := 38) (by decide +kernel) rfl
theorem tw39 : (.selects RX8 yX8_read yX8_read : Cond) ∈ TBG := TBG_mem (i := 39) (by decide +kernel) rfl
theorem tw40 : (.selects RX11 yX11_fitOthers yX11_fitOthers : Cond) ∈ TBG := TBG_mem (i := 40) (by decide +kernel) rfl
theorem tw41 : (.selects RX11 yX11_rulesAll yX11_rulesAll : Cond) ∈ TBG := TBG_mem (i := 41) (by decide +kernel) rfl
theorem tw42 : (.selects RX11 yX11_cut yX11_cut : Cond) ∈ TBG := TBG_mem (i := 42) (by decide +kernel) rfl
theorem tw43 : (.selects RX11 yX11_madeBy yX11_madeBy : Cond) ∈ TBG := TBG_mem (i := 43) (by decide +kernel) rfl
theorem tw44 : (.selects RX12 yX12_isPerson yX12_isPerson : Cond) ∈ TBG := TBG_mem (i := 44) (by decide +kernel) rfl
theorem tw45 : (.selects RX12 yX12_lives yX12_lives : Cond) ∈ TBG := TBG_mem (i := 45) (by decide +kernel) rfl
theorem tw46 : (.selects RX12 yX12_parts yX12_parts : Cond) ∈ TBG := TBG_mem (i := 46) (by decide +kernel) rfl
theorem tw47 : (.selects RX12 yX12_isFree yX12_isFree : Cond) ∈ TBG := TBG_mem (i := 47) (by decide +kernel) rfl
theorem tw48 : (.selects RX12 yX12_wedsTwo yX12_wedsTwo : Cond) ∈ TBG := TBG_mem (i := 48) (by decide +kernel) rfl
theorem tw49 : (.selects RX12 yX12_types yX12_types : Cond) ∈ TBG := TBG_mem (i := 49) (by decide +kernel) rfl
theorem tw50 : (.selects RX12 yX12_readsClause yX12_readsClause : Cond) ∈ TBG := TBG_mem (i := 50) (by decide +kernel) rfl
theorem tw51 : (.selects RX12 yX12_here yX12_here : Cond) ∈ TBG := TBG_mem (i := 51) (by decide +kernel) rfl
theorem tw52 : (.selects RX12 yX12_wrongAt yX12_wrongAt : Cond) ∈ TBG := TBG_mem (i := 52) (by decide +kernel) rfl
theorem tw53 : (.selects RX12 yX12_readsSum yX12_readsSum : Cond) ∈ TBG := TBG_mem (i := 53) (by decide +kernel) rfl
theorem tw54 : (.selects RX12 yX12_readsFactor yX12_readsFactor : Cond) ∈ TBG := TBG_mem (i := 54) (by decide +kernel) rfl
theorem tw55 : (.selects RX12 yX12_opens yX12_opens : Cond) ∈ TBG := TBG_mem (i := 55) (by decide +kernel) rfl
theorem tw56 : (.selects RX12 yX12_isDigit yX12_isDigit : Cond) ∈ TBG := TBG_mem (i := 56) (by decide +kernel) rfl
theorem tw57 : (.selects RX12 yX12_readsNumber yX12_readsNumber : Cond) ∈ TBG := TBG_mem (i := 57) (by decide +kernel) rfl
theorem tw58 : (.selects RX12 yX12_notes yX12_notes : Cond) ∈ TBG := TBG_mem (i := 58) (by decide +kernel) rfl
theorem tw59 : (.selects RX12 yX12_closesSums yX12_closesSums : Cond) ∈ TBG := TBG_mem (i := 59) (by decide +kernel) rfl
theorem tw60 : (.selects RX12 yX12_waitTop yX12_waitTop : Cond) ∈ TBG := TBG_mem (i := 60) (by decide +kernel) rfl
theorem tw61 : (.selects RX12 yX12_hasOpenSum yX12_hasOpenSum : Cond) ∈ TBG := TBG_mem (i := 61) (by decide +kernel) rfl
theorem tw62 : (.selects RX12 yX12_readsCondition yX12_readsCondition : Cond) ∈ TBG := TBG_mem (i := 62) (by decide +kernel) rfl
theorem tw63 : (.selects RX12 yX12_readsCompared yX12_readsCompared : Cond) ∈ TBG := TBG_mem (i := 63) (by decide +kernel) rfl
theorem tw64 : (.selects RX12 yX12_endsPiece yX12_endsPiece : Cond) ∈ TBG := TBG_mem (i := 64) (by decide +kernel) rfl
theorem tw65 : (.selects RX12 yX12_lands yX12_lands : Cond) ∈ TBG := TBG_mem (i := 65) (by decide +kernel) rfl
theorem tw66 : (.selects RX12 yX12_jumps yX12_jumps : Cond) ∈ TBG := TBG_mem (i := 66) (by decide +kernel) rfl
theorem tw67 : (.selects RX12 yX12_takes yX12_takes : Cond) ∈ TBG := TBG_mem (i := 67) (by decide +kernel) rfl
theorem tw68 : (.selects RX12 yX12_readsHeight yX12_readsHeight : Cond) ∈ TBG := TBG_mem (i := 68) (by decide +kernel) rfl
theorem tw69 : (.selects RX12 yX12_readsStop yX12_readsStop : Cond) ∈ TBG := TBG_mem (i := 69) (by decide +kernel) rfl
theorem tw70 : (.selects RX12 yX12_daysGo yX12_daysGo : Cond) ∈ TBG := TBG_mem (i := 70) (by decide +kernel) rfl
theorem tw71 : (.selects RX12 yX12_travels yX12_travels : Cond) ∈ TBG := TBG_mem (i := 71) (by decide +kernel) rfl
theorem tw72 : (.selects RX12 yX12_triesIn yX12_triesIn : Cond) ∈ TBG := TBG_mem (i := 72) (by decide +kernel) rfl
theorem tw73 : (.selects RX12 yX12_haveTried yX12_haveTried : Cond) ∈ TBG := TBG_mem (i := 73) (by decide +kernel) rfl
theorem tw74 : (.selects RX12 yX12_fit yX12_fit : Cond) ∈ TBG := TBG_mem (i := 74) (by decide +kernel) rfl
theorem tw75 : (.selects RX12 yX12_slackBy yX12_slackBy : Cond) ∈ TBG := TBG_mem (i := 75) (by decide +kernel) rfl
theorem tw76 : (.selects RX12 yX12_slackOf yX12_slackOf : Cond) ∈ TBG := TBG_mem (i := 76) (by decide +kernel) rfl
theorem tw77 : (.selects RX12 yX12_heightOf yX12_heightOf : Cond) ∈ TBG := TBG_mem (i := 77) (by decide +kernel) rfl
theorem tw78 : (.selects RX12 yX12_allowed yX12_allowed : Cond) ∈ TBG := TBG_mem (i := 78) (by decide +kernel) rfl
theorem tw79 : (.selects RX12 yX12_feels yX12_feels : Cond) ∈ TBG := TBG_mem (i := 79) (by decide +kernel) rfl
theorem tw80 : (.selects RX12 yX12_byLaw yX12_byLaw : Cond) ∈ TBG := TBG_mem (i := 80) (by decide +kernel) rfl
theorem tw81 : (.selects RX12 yX12_comesTo yX12_comesTo : Cond) ∈ TBG := TBG_mem (i := 81) (by decide +kernel) rfl
theorem tw82 : (.selects RX12 yX12_wearsBy yX12_wearsBy : Cond) ∈ TBG := TBG_mem (i := 82) (by decide +kernel) rfl
theorem tw83 : (.selects RX12 yX12_wearsAll yX12_wearsAll : Cond) ∈ TBG := TBG_mem (i := 83) (by decide +kernel) rfl
theorem tw84 : (.selects RX12 yX12_creak yX12_creak : Cond) ∈ TBG := TBG_mem (i := 84) (by decide +kernel) rfl
theorem tw85 : (.selects RX12 yX12_draws yX12_draws : Cond) ∈ TBG := TBG_mem (i := 85) (by decide +kernel) rfl
theorem tw86 : (.selects RX12 yX12_wedTwos yX12_wedTwos : Cond) ∈ TBG := TBG_mem (i := 86) (by decide +kernel) rfl
theorem tw87 : (.selects RX12 yX12_fitting yX12_fitting : Cond) ∈ TBG := TBG_mem (i := 87) (by decide +kernel) rfl
theorem tw88 : (.selects RX12 yX12_likes yX12_likes : Cond) ∈ TBG := TBG_mem (i := 88) (by decide +kernel) rfl
theorem tw89 : (.selects RX12 yX12_laysFits yX12_laysFits : Cond) ∈ TBG := TBG_mem (i := 89) (by decide +kernel) rfl
theorem tw90 : (.selects RX12 yX12_isOne yX12_isOne : Cond) ∈ TBG := TBG_mem (i := 90) (by decide +kernel) rfl
theorem tw91 : (.selects RX12 yX12_laysMost yX12_laysMost : Cond) ∈ TBG := TBG_mem (i := 91) (by decide +kernel) rfl
theorem tw92 : (.selects RX12 yX12_mayGet yX12_mayGet : Cond) ∈ TBG := TBG_mem (i := 92) (by decide +kernel) rfl
theorem tw93 : (.selects RX12 yX12_getsBy yX12_getsBy : Cond) ∈ TBG := TBG_mem (i := 93) (by decide +kernel) rfl
theorem tw94 : (.selects RX12 yX12_laysStable yX12_laysStable : Cond) ∈ TBG := TBG_mem (i := 94) (by decide +kernel) rfl
theorem tw95 : (.selects RX12 yX12_nextAsked yX12_nextAsked : Cond) ∈ TBG := TBG_mem (i := 95) (by decide +kernel) rfl
theorem tw96 : (.selects RX12 yX12_keeps yX12_keeps : Cond) ∈ TBG := TBG_mem (i := 96) (by decide +kernel) rfl
theorem tw97 : (.selects RX12 yX12_likesWed yX12_likesWed : Cond) ∈ TBG := TBG_mem (i := 97) (by decide +kernel) rfl
theorem tw98 : (.selects RX12 yX12_areBounds yX12_areBounds : Cond) ∈ TBG := TBG_mem (i := 98) (by decide +kernel) rfl
theorem tw99 : (.selects RX12 yX12_readsRow yX12_readsRow : Cond) ∈ TBG := TBG_mem (i := 99) (by decide +kernel) rfl
theorem tw100 : (.selects RX12 yX12_sumBy yX12_sumBy : Cond) ∈ TBG := TBG_mem (i := 100) (by decide +kernel) rfl
theorem tw101 : (.selects RX12 yX12_laysWork yX12_laysWork : Cond) ∈ TBG := TBG_mem (i := 101) (by decide +kernel) rfl
theorem tw102 : (.selects RX12 yX12_workBy yX12_workBy : Cond) ∈ TBG := TBG_mem (i := 102) (by decide +kernel) rfl
theorem tw103 : (.selects RX12 yX12_workAt yX12_workAt : Cond) ∈ TBG := TBG_mem (i := 103) (by decide +kernel) rfl
theorem tw104 : (.selects RX12 yX12_laysSanded yX12_laysSanded : Cond) ∈ TBG := TBG_mem (i := 104) (by decide +kernel) rfl
theorem tw105 : (.selects RX12 yX12_slackOfSanded yX12_slackOfSanded : Cond) ∈ TBG := TBG_mem (i := 105) (by decide +kernel) rfl
theorem tw106 : (.selects RX12 yX12_slackSteamed yX12_slackSteamed : Cond) ∈ TBG := TBG_mem (i := 106) (by decide +kernel) rfl
theorem tw107 : (.selects RX12 yX12_makesAll yX12_makesAll : Cond) ∈ TBG := TBG_mem (i := 107) (by decide +kernel) rfl
theorem tw108 : (.selects RX12 yX12_makes yX12_makes : Cond) ∈ TBG := TBG_mem (i := 108) (by decide +kernel) rfl
theorem tw109 : (.selects RX12 yX12_areSame yX12_areSame : Cond) ∈ TBG := TBG_mem (i := 109) (by decide +kernel) rfl
theorem tw110 : (.initialized RL : Cond) ∈ TBG := TBG_mem (i := 110) (by decide +kernel) rfl
theorem tw111 : (.initialized RX11 : Cond) ∈ TBG := TBG_mem (i := 111) (by decide +kernel) rfl
theorem tw112 : (.initialized RX3 : Cond) ∈ TBG := TBG_mem (i := 112) (by decide +kernel) rfl
theorem tw113 : (.initialized RX10 : Cond) ∈ TBG := TBG_mem (i := 113) (by decide +kernel) rfl
theorem tw114 : (.initialized RX4 : Cond) ∈ TBG := TBG_mem (i := 114) (by decide +kernel) rfl
theorem tw115 : (.initialized RX7 : Cond) ∈ TBG := TBG_mem (i := 115) (by decide +kernel) rfl
theorem tw116 : (.initialized RX5 : Cond) ∈ TBG := TBG_mem (i := 116) (by decide +kernel) rfl
theorem tw117 : (.initialized RX6 : Cond) ∈ TBG := TBG_mem (i := 117) (by decide +kernel) rfl
theorem tw118 : (.initialized RX2 : Cond) ∈ TBG := TBG_mem (i := 118) (by decide +kernel) rfl
theorem tw119 : (.initialized RX1 : Cond) ∈ TBG := TBG_mem (i := 119) (by decide +kernel) rfl
theorem tw120 : (.initialized RX0 : Cond) ∈ TBG := TBG_mem (i := 120) (by decide +kernel) rfl
theorem tw121 : (.initialized RX9 : Cond) ∈ TBG := TBG_mem (i := 121) (by decide +kernel) rfl
theorem tw122 : (.initialized RX8 : Cond) ∈ TBG := TBG_mem (i := 122) (by decide +kernel) rfl
theorem tw123 : (.initialized RX12 : Cond) ∈ TBG := TBG_mem (i := 123) (by decide +kernel) rfl
theorem tw124 : (.initialized RJ0 : Cond) ∈ TBG := TBG_mem (i := 124) (by decide +kernel) rfl
theorem tw125 : (.initialized RJ1 : Cond) ∈ TBG := TBG_mem (i := 125) (by decide +kernel) rfl
theorem tw126 : (.initialized RJ9 : Cond) ∈ TBG := TBG_mem (i := 126) (by decide +kernel) rfl
theorem tw127 : (.initialized RJ2 : Cond) ∈ TBG := TBG_mem (i := 127) (by decide +kernel) rfl
theorem tw128 : (.initialized RJ3 : Cond) ∈ TBG := TBG_mem (i := 128) (by decide +kernel) rfl
theorem tw129 : (.initialized RJ11 : Cond) ∈ TBG := TBG_mem (i := 129) (by decide +kernel) rfl
theorem tw130 : (.initialized RJ10 : Cond) ∈ TBG := TBG_mem (i := 130) (by decide +kernel) rfl
theorem tw131 : (.initialized RJ7 : Cond) ∈ TBG := TBG_mem (i := 131) (by decide +kernel) rfl
theorem tw132 : (.initialized RJ6 : Cond) ∈ TBG := TBG_mem (i := 132) (by decide +kernel) rfl
theorem tw136 : (.instanceMethod yX11_init : Cond) ∈ TBG := TBG_mem (i := 136) (by decide +kernel) rfl
set_option maxRecDepth 20000 in
theorem tw137 : (.code yX11_init cX11_init 1 (none) : Cond) ∈ TBG := List.mem_filter.mpr ⟨in_t1 _ (List.mem_of_getElem? (i := 27) rfl), rfl⟩
theorem tw139 : (.instanceMethod ⟨"java/lang/Object", "<init>", "()V"⟩ : Cond) ∈ TBG := TBG_mem (i := 139) (by decide +kernel) rfl
theorem tw144 : (.instanceMethod yX3_init : Cond) ∈ TBG := TBG_mem (i := 144) (by decide +kernel) rfl
set_option maxRecDepth 20000 in
theorem tw145 : (.code yX3_init cX3_init 2 (none) : Cond) ∈ TBG := List.mem_filter.mpr ⟨in_t1 _ (List.mem_of_getElem? (i := 35) rfl), rfl⟩
theorem tw149 : (.fieldLink RX3 55 "PuzzleWed$Land" "told" "I" : Cond) ∈ TBG := TBG_mem (i := 149) (by decide +kernel) rfl
theorem tw150 : (.fieldLink RX11 111 "PuzzleWed$Land" "told" "I" : Cond) ∈ TBG := TBG_mem (i := 150) (by decide +kernel) rfl
theorem tw151 : (.fieldLink RX11 115 "PuzzleWed$Land" "living" "I" : Cond) ∈ TBG := TBG_mem (i := 151) (by decide +kernel) rfl
theorem tw152 : (.fieldLink RX3 58 "PuzzleWed$Land" "living" "I" : Cond) ∈ TBG := TBG_mem (i := 152) (by decide +kernel) rfl
theorem tw153 : (.fieldLink RX3 9 "PuzzleWed$Land" "side" "[I" : Cond) ∈ TBG := TBG_mem (i := 153) (by decide +kernel) rfl
theorem tw154 : (.fieldLink RX0 55 "PuzzleWed$Land" "side" "[I" : Cond) ∈ TBG := TBG_mem (i := 154) (by decide +kernel) rfl
theorem tw155 : (.fieldLink RX11 118 "PuzzleWed$Land" "side" "[I" : Cond) ∈ TBG := TBG_mem (i := 155) (by decide +kernel) rfl
theorem tw156 : (.fieldLink RX1 81 "PuzzleWed$Land" "side" "[I" : Cond) ∈ TBG := TBG_mem (i := 156) (by decide +kernel) rfl
theorem tw157 : (.fieldLink RX2 70 "PuzzleWed$Land" "side" "[I" : Cond) ∈ TBG := TBG_mem (i := 157) (by decide +kernel) rfl
theorem tw158 : (.fieldLink RX3 15 "PuzzleWed$Land" "town" "[I" : Cond) ∈ TBG := TBG_mem (i := 158) (by decide +kernel) rfl
theorem tw159 : (.fieldLink RX11 121 "PuzzleWed$Land" "town" "[I" : Cond) ∈ TBG := TBG_mem (i := 159) (by decide +kernel) rfl
theorem tw160 : (.fieldLink RX1 51 "PuzzleWed$Land" "town" "[I" : Cond) ∈ TBG := TBG_mem (i := 160) (by decide +kernel) rfl
theorem tw161 : (.fieldLink RX2 109 "PuzzleWed$Land" "town" "[I" : Cond) ∈ TBG := TBG_mem (i := 161) (by decide +kernel) rfl
theorem tw162 : (.fieldLink RX3 18 "PuzzleWed$Land" "wedTo" "[I" : Cond) ∈ TBG := TBG_mem (i := 162) (by decide +kernel) rfl
theorem tw163 : (.fieldLink RX1 88 "PuzzleWed$Land" "wedTo" "[I" : Cond) ∈ TBG := TBG_mem (i := 163) (by decide +kernel) rfl
theorem tw164 : (.fieldLink RX2 67 "PuzzleWed$Land" "wedTo" "[I" : Cond) ∈ TBG := TBG_mem (i := 164) (by decide +kernel) rfl
theorem tw165 : (.fieldLink RX11 207 "PuzzleWed$Land" "wedTo" "[I" : Cond) ∈ TBG := TBG_mem (i := 165) (by decide +kernel) rfl
theorem tw166 : (.fieldLink RX3 21 "PuzzleWed$Land" "creaks" "[I" : Cond) ∈ TBG := TBG_mem (i := 166) (by decide +kernel) rfl
theorem tw167 : (.fieldLink RX1 105 "PuzzleWed$Land" "creaks" "[I" : Cond) ∈ TBG := TBG_mem (i := 167) (by decide +kernel) rfl
theorem tw168 : (.fieldLink RX2 115 "PuzzleWed$Land" "creaks" "[I" : Cond) ∈ TBG := TBG_mem (i := 168) (by decide +kernel) rfl
theorem tw169 : (.fieldLink RX11 220 "PuzzleWed$Land" "creaks" "[I" : Cond) ∈ TBG := TBG_mem (i := 169) (by decide +kernel) rfl
theorem tw170 : (.fieldLink RX3 24 "PuzzleWed$Land" "triedBits" "[I" : Cond) ∈ TBG := TBG_mem (i := 170) (by decide +kernel) rfl
theorem tw171 : (.fieldLink RX11 229 "PuzzleWed$Land" "triedBits" "[I" : Cond) ∈ TBG := TBG_mem (i := 171) (by decide +kernel) rfl
theorem tw172 : (.fieldLink RX3 27 "PuzzleWed$Land" "holder" "[I" : Cond) ∈ TBG := TBG_mem (i := 172) (by decide +kernel) rfl
theorem tw173 : (.fieldLink RX2 25 "PuzzleWed$Land" "holder" "[I" : Cond) ∈ TBG := TBG_mem (i := 173) (by decide +kernel) rfl
theorem tw174 : (.fieldLink RX11 236 "PuzzleWed$Land" "holder" "[I" : Cond) ∈ TBG := TBG_mem (i := 174) (by decide +kernel) rfl
theorem tw175 : (.fieldLink RX3 30 "PuzzleWed$Land" "wear" "[I" : Cond) ∈ TBG := TBG_mem (i := 175) (by decide +kernel) rfl
theorem tw176 : (.fieldLink RX11 124 "PuzzleWed$Land" "wear" "[I" : Cond) ∈ TBG := TBG_mem (i := 176) (by decide +kernel) rfl
theorem tw177 : (.fieldLink RX2 38 "PuzzleWed$Land" "wear" "[I" : Cond) ∈ TBG := TBG_mem (i := 177) (by decide +kernel) rfl
theorem tw178 : (.fieldLink RX3 35 "PuzzleWed$Land" "height" "[[I" : Cond) ∈ TBG := TBG_mem (i := 178) (by decide +kernel) rfl
theorem tw179 : (.fieldLink RX2 30 "PuzzleWed$Land" "height" "[[I" : Cond) ∈ TBG := TBG_mem (i := 179) (by decide +kernel) rfl
theorem tw180 : (.fieldLink RX11 163 "PuzzleWed$Land" "height" "[[I" : Cond) ∈ TBG := TBG_mem (i := 180) (by decide +kernel) rfl
theorem tw181 : (.fieldLink RX3 38 "PuzzleWed$Land" "way" "[[I" : Cond) ∈ TBG := TBG_mem (i := 181) (by decide +kernel) rfl
theorem tw182 : (.fieldLink RX1 54 "PuzzleWed$Land" "way" "[[I" : Cond) ∈ TBG := TBG_mem (i := 182) (by decide +kernel) rfl
theorem tw183 : (.fieldLink RX11 179 "PuzzleWed$Land" "way" "[[I" : Cond) ∈ TBG := TBG_mem (i := 183) (by decide +kernel) rfl
theorem tw184 : (.fieldLink RX3 41 "PuzzleWed$Land" "wayLength" "[I" : Cond) ∈ TBG := TBG_mem (i := 184) (by decide +kernel) rfl
theorem tw185 : (.fieldLink RX1 48 "PuzzleWed$Land" "wayLength" "[I" : Cond) ∈ TBG := TBG_mem (i := 185) (by decide +kernel) rfl
theorem tw186 : (.fieldLink RX11 188 "PuzzleWed$Land" "wayLength" "[I" : Cond) ∈ TBG := TBG_mem (i := 186) (by decide +kernel) rfl
theorem tw187 : (.fieldLink RX3 44 "PuzzleWed$Land" "wayGone" "[I" : Cond) ∈ TBG := TBG_mem (i := 187) (by decide +kernel) rfl
theorem tw188 : (.fieldLink RX1 40 "PuzzleWed$Land" "wayGone" "[I" : Cond) ∈ TBG := TBG_mem (i := 188) (by decide +kernel) rfl
theorem tw189 : (.fieldLink RX11 194 "PuzzleWed$Land" "wayGone" "[I" : Cond) ∈ TBG := TBG_mem (i := 189) (by decide +kernel) rfl
theorem tw190 : (.fieldLink RX1 25 "PuzzleWed$Land" "day" "I" : Cond) ∈ TBG := TBG_mem (i := 190) (by decide +kernel) rfl
theorem tw191 : (.fieldLink RX2 112 "PuzzleWed$Land" "day" "I" : Cond) ∈ TBG := TBG_mem (i := 191) (by decide +kernel) rfl
theorem tw192 : (.fieldLink RX3 75 "PuzzleWed$Land" "day" "I" : Cond) ∈ TBG := TBG_mem (i := 192) (by decide +kernel) rfl
theorem tw193 : (.fieldLink RX11 360 "PuzzleWed$Land" "day" "I" : Cond) ∈ TBG := TBG_mem (i := 193) (by decide +kernel) rfl
theorem tw194 : (.fieldLink RX3 47 "PuzzleWed$Land" "x" "I" : Cond) ∈ TBG := TBG_mem (i := 194) (by decide +kernel) rfl
theorem tw195 : (.fieldLink RX11 357 "PuzzleWed$Land" "x" "I" : Cond) ∈ TBG := TBG_mem (i := 195) (by decide +kernel) rfl
theorem tw231 : (.instanceMethod yX10_init : Cond) ∈ TBG := TBG_mem (i := 231) (by decide +kernel) rfl
set_option maxRecDepth 20000 in
theorem tw232 : (.code yX10_init cX10_init 1 (none) : Cond) ∈ TBG := List.mem_filter.mpr ⟨in_t1 _ (List.mem_of_getElem? (i := 122) rfl), rfl⟩
theorem tw234 : (.fieldLink RX10 9 "PuzzleWed$Tape" "bytes" "[I" : Cond) ∈ TBG := TBG_mem (i := 234) (by decide +kernel) rfl
theorem tw235 : (.fieldLink RX9 46 "PuzzleWed$Tape" "bytes" "[I" : Cond) ∈ TBG := TBG_mem (i := 235) (by decide +kernel) rfl
theorem tw236 : (.fieldLink RX7 25 "PuzzleWed$Tape" "bytes" "[I" : Cond) ∈ TBG := TBG_mem (i := 236) (by decide +kernel) rfl
theorem tw237 : (.fieldLink RX11 338 "PuzzleWed$Tape" "bytes" "[I" : Cond) ∈ TBG := TBG_mem (i := 237) (by decide +kernel) rfl
theorem tw238 : (.fieldLink RX10 15 "PuzzleWed$Tape" "length" "I" : Cond) ∈ TBG := TBG_mem (i := 238) (by decide +kernel) rfl
theorem tw239 : (.fieldLink RX11 141 "PuzzleWed$Tape" "length" "I" : Cond) ∈ TBG := TBG_mem (i := 239) (by decide +kernel) rfl
theorem tw248 : (.instanceMethod yX4_init : Cond) ∈ TBG := TBG_mem (i := 248) (by decide +kernel) rfl
set_option maxRecDepth 20000 in
theorem tw249 : (.code yX4_init cX4_init 1 (none) : Cond) ∈ TBG := List.mem_filter.mpr ⟨in_t1 _ (List.mem_of_getElem? (i := 139) rfl), rfl⟩
theorem tw251 : (.fieldLink RX4 11 "PuzzleWed$Law" "code" "[I" : Cond) ∈ TBG := TBG_mem (i := 251) (by decide +kernel) rfl
theorem tw252 : (.fieldLink RX5 92 "PuzzleWed$Law" "code" "[I" : Cond) ∈ TBG := TBG_mem (i := 252) (by decide +kernel) rfl
theorem tw253 : (.fieldLink RX4 15 "PuzzleWed$Law" "letter" "[I" : Cond) ∈ TBG := TBG_mem (i := 253) (by decide +kernel) rfl
theorem tw254 : (.fieldLink RX5 54 "PuzzleWed$Law" "letter" "[I" : Cond) ∈ TBG := TBG_mem (i := 254) (by decide +kernel) rfl
theorem tw255 : (.fieldLink RX2 83 "PuzzleWed$Law" "letter" "[I" : Cond) ∈ TBG := TBG_mem (i := 255) (by decide +kernel) rfl
theorem tw256 : (.fieldLink RX4 18 "PuzzleWed$Law" "worthAt" "[I" : Cond) ∈ TBG := TBG_mem (i := 256) (by decide +kernel) rfl
theorem tw257 : (.fieldLink RX5 58 "PuzzleWed$Law" "worthAt" "[I" : Cond) ∈ TBG := TBG_mem (i := 257) (by decide +kernel) rfl
theorem tw258 : (.fieldLink RX2 93 "PuzzleWed$Law" "worthAt" "[I" : Cond) ∈ TBG := TBG_mem (i := 258) (by decide +kernel) rfl
theorem tw259 : (.fieldLink RX4 21 "PuzzleWed$Law" "whenAt" "[I" : Cond) ∈ TBG := TBG_mem (i := 259) (by decide +kernel) rfl
theorem tw260 : (.fieldLink RX5 67 "PuzzleWed$Law" "whenAt" "[I" : Cond) ∈ TBG := TBG_mem (i := 260) (by decide +kernel) rfl
theorem tw261 : (.fieldLink RX2 86 "PuzzleWed$Law" "whenAt" "[I" : Cond) ∈ TBG := TBG_mem (i := 261) (by decide +kernel) rfl
theorem tw262 : (.fieldLink RX4 24 "PuzzleWed$Law" "stack" "[I" : Cond) ∈ TBG := TBG_mem (i := 262) (by decide +kernel) rfl
theorem tw263 : (.fieldLink RX4 27 "PuzzleWed$Law" "used" "I" : Cond) ∈ TBG := TBG_mem (i := 263) (by decide +kernel) rfl
theorem tw264 : (.fieldLink RX5 19 "PuzzleWed$Law" "used" "I" : Cond) ∈ TBG := TBG_mem (i := 264) (by decide +kernel) rfl
theorem tw265 : (.fieldLink RX5 25 "PuzzleWed$Law" "clauses" "I" : Cond) ∈ TBG := TBG_mem (i := 265) (by decide +kernel) rfl
theorem tw266 : (.fieldLink RX4 37 "PuzzleWed$Law" "clauses" "I" : Cond) ∈ TBG := TBG_mem (i := 266) (by decide +kernel) rfl
theorem tw267 : (.fieldLink RX11 156 "PuzzleWed$Law" "clauses" "I" : Cond) ∈ TBG := TBG_mem (i := 267) (by decide +kernel) rfl
theorem tw268 : (.fieldLink RX2 77 "PuzzleWed$Law" "clauses" "I" : Cond) ∈ TBG := TBG_mem (i := 268) (by decide +kernel) rfl
theorem tw287 : (.instanceMethod yX5_init : Cond) ∈ TBG := TBG_mem (i := 287) (by decide +kernel) rfl
set_option maxRecDepth 20000 in
theorem tw288 : (.code yX5_init cX5_init 3 (none) : Cond) ∈ TBG := List.mem_filter.mpr ⟨in_t1 _ (List.mem_of_getElem? (i := 178) rfl), rfl⟩
theorem tw290 : (.instanceMethod yX7_init : Cond) ∈ TBG := TBG_mem (i := 290) (by decide +kernel) rfl
set_option maxRecDepth 20000 in
theorem tw291 : (.code yX7_init cX7_init 2 (none) : Cond) ∈ TBG := List.mem_filter.mpr ⟨in_t1 _ (List.mem_of_getElem? (i := 181) rfl), rfl⟩
theorem tw293 : (.fieldLink RX5 9 "PuzzleWed$LawReader" "draft" "LPuzzleWed$Law;" : Cond) ∈ TBG := TBG_mem (i := 293) (by decide +kernel) rfl
theorem tw294 : (.fieldLink RX7 9 "PuzzleWed$Reader" "tape" "LPuzzleWed$Tape;" : Cond) ∈ TBG := TBG_mem (i := 294) (by decide +kernel) rfl
theorem tw295 : (.fieldLink RX7 15 "PuzzleWed$Reader" "length" "I" : Cond) ∈ TBG := TBG_mem (i := 295) (by decide +kernel) rfl
theorem tw296 : (.fieldLink RX5 76 "PuzzleWed$LawReader" "length" "I" : Cond) ∈ TBG := TBG_mem (i := 296) (by decide +kernel) rfl
theorem tw297 : (.sameField "PuzzleWed$LawReader" "PuzzleWed$Reader" "length" "I" : Cond) ∈ TBG := TBG_mem (i := 297) (by decide +kernel) rfl
theorem tw298 : (.fieldLink RX7 19 "PuzzleWed$Reader" "at" "I" : Cond) ∈ TBG := TBG_mem (i := 298) (by decide +kernel) rfl
theorem tw299 : (.fieldLink RX6 23 "PuzzleWed$ListReader" "at" "I" : Cond) ∈ TBG := TBG_mem (i := 299) (by decide +kernel) rfl
theorem tw300 : (.sameField "PuzzleWed$ListReader" "PuzzleWed$Reader" "at" "I" : Cond) ∈ TBG := TBG_mem (i := 300) (by decide +kernel) rfl
theorem tw301 : (.fieldLink RX5 43 "PuzzleWed$LawReader" "at" "I" : Cond) ∈ TBG := TBG_mem (i := 301) (by decide +kernel) rfl
theorem tw302 : (.sameField "PuzzleWed$LawReader" "PuzzleWed$Reader" "at" "I" : Cond) ∈ TBG := TBG_mem (i := 302) (by decide +kernel) rfl
theorem tw303 : (.fieldLink RX7 22 "PuzzleWed$Reader" "fault" "I" : Cond) ∈ TBG := TBG_mem (i := 303) (by decide +kernel) rfl
theorem tw304 : (.fieldLink RX11 150 "PuzzleWed$LawReader" "fault" "I" : Cond) ∈ TBG := TBG_mem (i := 304) (by decide +kernel) rfl
theorem tw305 : (.sameField "PuzzleWed$LawReader" "PuzzleWed$Reader" "fault" "I" : Cond) ∈ TBG := TBG_mem (i := 305) (by decide +kernel) rfl
theorem tw306 : (.fieldLink RX11 162 "PuzzleWed$ListReader" "fault" "I" : Cond) ∈ TBG := TBG_mem (i := 306) (by decide +kernel) rfl
theorem tw307 : (.sameField "PuzzleWed$ListReader" "PuzzleWed$Reader" "fault" "I" : Cond) ∈ TBG := TBG_mem (i := 307) (by decide +kernel) rfl
theorem tw322 : (.instanceMethod yX6_init : Cond) ∈ TBG := TBG_mem (i := 322) (by decide +kernel) rfl
set_option maxRecDepth 20000 in
theorem tw323 : (.code yX6_init cX6_init 2 (none) : Cond) ∈ TBG := List.mem_filter.mpr ⟨in_t1 _ (List.mem_of_getElem? (i := 213) rfl), rfl⟩
theorem tw325 : (.fieldLink RX6 9 "PuzzleWed$ListReader" "list" "[I" : Cond) ∈ TBG := TBG_mem (i := 325) (by decide +kernel) rfl
theorem tw326 : (.fieldLink RX11 167 "PuzzleWed$ListReader" "list" "[I" : Cond) ∈ TBG := TBG_mem (i := 326) (by decide +kernel) rfl
theorem tw327 : (.fieldLink RX6 19 "PuzzleWed$ListReader" "filled" "I" : Cond) ∈ TBG := TBG_mem (i := 327) (by decide +kernel) rfl
theorem tw328 : (.fieldLink RX11 191 "PuzzleWed$ListReader" "filled" "I" : Cond) ∈ TBG := TBG_mem (i := 328) (by decide +kernel) rfl
theorem tw329 : (.fieldLink RX6 55 "PuzzleWed$ListReader" "value" "I" : Cond) ∈ TBG := TBG_mem (i := 329) (by decide +kernel) rfl
theorem tw330 : (.fieldLink RX6 34 "PuzzleWed$ListReader" "times" "I" : Cond) ∈ TBG := TBG_mem (i := 330) (by decide +kernel) rfl
theorem tw347 : (.instanceMethod yX2_init : Cond) ∈ TBG := TBG_mem (i := 347) (by decide +kernel) rfl
set_option maxRecDepth 20000 in
theorem tw348 : (.code yX2_init cX2_init 2 (none) : Cond) ∈ TBG := List.mem_filter.mpr ⟨in_t1 _ (List.mem_of_getElem? (i := 238) rfl), rfl⟩
theorem tw350 : (.fieldLink RX2 9 "PuzzleWed$Judge" "law" "LPuzzleWed$Law;" : Cond) ∈ TBG := TBG_mem (i := 350) (by decide +kernel) rfl
theorem tw351 : (.fieldLink RX2 15 "PuzzleWed$Judge" "letters" "[I" : Cond) ∈ TBG := TBG_mem (i := 351) (by decide +kernel) rfl
theorem tw360 : (.instanceMethod yX1_init : Cond) ∈ TBG := TBG_mem (i := 360) (by decide +kernel) rfl
set_option maxRecDepth 20000 in
theorem tw361 : (.code yX1_init cX1_init 2 (none) : Cond) ∈ TBG := List.mem_filter.mpr ⟨in_t2 _ (List.mem_of_getElem? (i := 11) rfl), rfl⟩
theorem tw363 : (.fieldLink RX1 9 "PuzzleWed$Course" "judge" "LPuzzleWed$Judge;" : Cond) ∈ TBG := TBG_mem (i := 363) (by decide +kernel) rfl
theorem tw364 : (.fieldLink RX1 15 "PuzzleWed$Course" "wed" "I" : Cond) ∈ TBG := TBG_mem (i := 364) (by decide +kernel) rfl
theorem tw365 : (.fieldLink RX11 201 "PuzzleWed$Course" "wed" "I" : Cond) ∈ TBG := TBG_mem (i := 365) (by decide +kernel) rfl
theorem tw366 : (.fieldLink RX1 19 "PuzzleWed$Course" "tries" "I" : Cond) ∈ TBG := TBG_mem (i := 366) (by decide +kernel) rfl
theorem tw367 : (.fieldLink RX11 210 "PuzzleWed$Course" "tries" "I" : Cond) ∈ TBG := TBG_mem (i := 367) (by decide +kernel) rfl
theorem tw368 : (.fieldLink RX1 22 "PuzzleWed$Course" "parted" "I" : Cond) ∈ TBG := TBG_mem (i := 368) (by decide +kernel) rfl
theorem tw369 : (.fieldLink RX11 213 "PuzzleWed$Course" "parted" "I" : Cond) ∈ TBG := TBG_mem (i := 369) (by decide +kernel) rfl
theorem tw382 : (.instanceMethod yX0_init : Cond) ∈ TBG := TBG_mem (i := 382) (by decide +kernel) rfl
set_option maxRecDepth 20000 in
theorem tw383 : (.code yX0_init cX0_init 2 (none) : Cond) ∈ TBG := List.mem_filter.mpr ⟨in_t2 _ (List.mem_of_getElem? (i := 33) rfl), rfl⟩
theorem tw386 : (.fieldLink RX0 9 "PuzzleWed$Couples" "judge" "LPuzzleWed$Judge;" : Cond) ∈ TBG := TBG_mem (i := 386) (by decide +kernel) rfl
theorem tw387 : (.fieldLink RX0 15 "PuzzleWed$Couples" "partner" "[I" : Cond) ∈ TBG := TBG_mem (i := 387) (by decide +kernel) rfl
theorem tw388 : (.fieldLink RX11 266 "PuzzleWed$Couples" "partner" "[I" : Cond) ∈ TBG := TBG_mem (i := 388) (by decide +kernel) rfl
theorem tw389 : (.fieldLink RX0 43 "PuzzleWed$Couples" "twos" "I" : Cond) ∈ TBG := TBG_mem (i := 389) (by decide +kernel) rfl
theorem tw390 : (.fieldLink RX11 260 "PuzzleWed$Couples" "twos" "I" : Cond) ∈ TBG := TBG_mem (i := 390) (by decide +kernel) rfl
theorem tw391 : (.fieldLink RX0 46 "PuzzleWed$Couples" "slackSum" "I" : Cond) ∈ TBG := TBG_mem (i := 391) (by decide +kernel) rfl
theorem tw392 : (.fieldLink RX11 263 "PuzzleWed$Couples" "slackSum" "I" : Cond) ∈ TBG := TBG_mem (i := 392) (by decide +kernel) rfl
theorem tw393 : (.fieldLink RX0 19 "PuzzleWed$Couples" "ones" "[I" : Cond) ∈ TBG := TBG_mem (i := 393) (by decide +kernel) rfl
theorem tw394 : (.fieldLink RX0 22 "PuzzleWed$Couples" "others" "[I" : Cond) ∈ TBG := TBG_mem (i := 394) (by decide +kernel) rfl
theorem tw395 : (.fieldLink RX0 36 "PuzzleWed$Couples" "oneCount" "I" : Cond) ∈ TBG := TBG_mem (i := 395) (by decide +kernel) rfl
theorem tw396 : (.fieldLink RX0 40 "PuzzleWed$Couples" "otherCount" "I" : Cond) ∈ TBG := TBG_mem (i := 396) (by decide +kernel) rfl
theorem tw397 : (.fieldLink RX0 27 "PuzzleWed$Couples" "bond" "[[I" : Cond) ∈ TBG := TBG_mem (i := 397) (by decide +kernel) rfl
theorem tw398 : (.fieldLink RX0 30 "PuzzleWed$Couples" "best" "[I" : Cond) ∈ TBG := TBG_mem (i := 398) (by decide +kernel) rfl
theorem tw399 : (.fieldLink RX0 33 "PuzzleWed$Couples" "asked" "[I" : Cond) ∈ TBG := TBG_mem (i := 399) (by decide +kernel) rfl
theorem tw426 : (.instanceMethod yX9_init : Cond) ∈ TBG := TBG_mem (i := 426) (by decide +kernel) rfl
set_option maxRecDepth 20000 in
theorem tw427 : (.code yX9_init cX9_init 2 (none) : Cond) ∈ TBG := List.mem_filter.mpr ⟨in_t2 _ (List.mem_of_getElem? (i := 77) rfl), rfl⟩
theorem tw430 : (.fieldLink RX9 9 "PuzzleWed$Search" "tape" "LPuzzleWed$Tape;" : Cond) ∈ TBG := TBG_mem (i := 430) (by decide +kernel) rfl
theorem tw431 : (.fieldLink RX9 39 "PuzzleWed$Search" "towns" "I" : Cond) ∈ TBG := TBG_mem (i := 431) (by decide +kernel) rfl
theorem tw432 : (.fieldLink RX9 15 "PuzzleWed$Search" "weight" "[I" : Cond) ∈ TBG := TBG_mem (i := 432) (by decide +kernel) rfl
theorem tw433 : (.fieldLink RX9 21 "PuzzleWed$Search" "travel" "[[I" : Cond) ∈ TBG := TBG_mem (i := 433) (by decide +kernel) rfl
theorem tw434 : (.fieldLink RX9 24 "PuzzleWed$Search" "order" "[I" : Cond) ∈ TBG := TBG_mem (i := 434) (by decide +kernel) rfl
theorem tw435 : (.fieldLink RX9 27 "PuzzleWed$Search" "bestOrder" "[I" : Cond) ∈ TBG := TBG_mem (i := 435) (by decide +kernel) rfl
theorem tw436 : (.fieldLink RX11 285 "PuzzleWed$Search" "bestOrder" "[I" : Cond) ∈ TBG := TBG_mem (i := 436) (by decide +kernel) rfl
theorem tw437 : (.fieldLink RX9 51 "PuzzleWed$Search" "bestSum" "I" : Cond) ∈ TBG := TBG_mem (i := 437) (by decide +kernel) rfl
theorem tw438 : (.fieldLink RX9 43 "PuzzleWed$Search" "weights" "I" : Cond) ∈ TBG := TBG_mem (i := 438) (by decide +kernel) rfl
theorem tw459 : (.instanceMethod yX8_init : Cond) ∈ TBG := TBG_mem (i := 459) (by decide +kernel) rfl
set_option maxRecDepth 20000 in
theorem tw460 : (.code yX8_init cX8_init 1 (none) : Cond) ∈ TBG := List.mem_filter.mpr ⟨in_t2 _ (List.mem_of_getElem? (i := 110) rfl), rfl⟩
theorem tw462 : (.fieldLink RX8 9 "PuzzleWed$Sander" "made" "[I" : Cond) ∈ TBG := TBG_mem (i := 462) (by decide +kernel) rfl
theorem tw463 : (.fieldLink RX11 308 "PuzzleWed$Sander" "made" "[I" : Cond) ∈ TBG := TBG_mem (i := 463) (by decide +kernel) rfl
theorem tw464 : (.fieldLink RX8 81 "PuzzleWed$Sander" "done" "Z" : Cond) ∈ TBG := TBG_mem (i := 464) (by decide +kernel) rfl
theorem tw465 : (.fieldLink RX11 302 "PuzzleWed$Sander" "done" "Z" : Cond) ∈ TBG := TBG_mem (i := 465) (by decide +kernel) rfl
theorem tw466 : (.fieldLink RX8 85 "PuzzleWed$Sander" "work" "I" : Cond) ∈ TBG := TBG_mem (i := 466) (by decide +kernel) rfl
theorem tw467 : (.fieldLink RX11 305 "PuzzleWed$Sander" "work" "I" : Cond) ∈ TBG := TBG_mem (i := 467) (by decide +kernel) rfl
theorem tw468 : (.fieldLink RX8 94 "PuzzleWed$Sander" "turns" "I" : Cond) ∈ TBG := TBG_mem (i := 468) (by decide +kernel) rfl
theorem tw469 : (.fieldLink RX11 323 "PuzzleWed$Sander" "turns" "I" : Cond) ∈ TBG := TBG_mem (i := 469) (by decide +kernel) rfl
theorem tw470 : (.fieldLink RX8 97 "PuzzleWed$Sander" "raising" "I" : Cond) ∈ TBG := TBG_mem (i := 470) (by decide +kernel) rfl
theorem tw471 : (.fieldLink RX11 326 "PuzzleWed$Sander" "raising" "I" : Cond) ∈ TBG := TBG_mem (i := 471) (by decide +kernel) rfl
theorem tw472 : (.fieldLink RX8 25 "PuzzleWed$Sander" "least" "[J" : Cond) ∈ TBG := TBG_mem (i := 472) (by decide +kernel) rfl
theorem tw473 : (.fieldLink RX8 15 "PuzzleWed$Sander" "cost" "[J" : Cond) ∈ TBG := TBG_mem (i := 473) (by decide +kernel) rfl
theorem tw474 : (.fieldLink RX8 19 "PuzzleWed$Sander" "gapOne" "[I" : Cond) ∈ TBG := TBG_mem (i := 474) (by decide +kernel) rfl
theorem tw475 : (.fieldLink RX8 22 "PuzzleWed$Sander" "gapOther" "[I" : Cond) ∈ TBG := TBG_mem (i := 475) (by decide +kernel) rfl
theorem tw476 : (.fieldLink RX8 63 "PuzzleWed$Sander" "low" "I" : Cond) ∈ TBG := TBG_mem (i := 476) (by decide +kernel) rfl
theorem tw477 : (.fieldLink RX8 67 "PuzzleWed$Sander" "high" "I" : Cond) ∈ TBG := TBG_mem (i := 477) (by decide +kernel) rfl
theorem tw502 : (.fieldLink RX11 12 "PuzzleWed" "land" "LPuzzleWed$Land;" : Cond) ∈ TBG := TBG_mem (i := 502) (by decide +kernel) rfl
theorem tw503 : (.fieldLink RX11 16 "PuzzleWed" "kept" "LPuzzleWed$Land;" : Cond) ∈ TBG := TBG_mem (i := 503) (by decide +kernel) rfl
theorem tw504 : (.fieldLink RX11 19 "PuzzleWed" "trial" "LPuzzleWed$Land;" : Cond) ∈ TBG := TBG_mem (i := 504) (by decide +kernel) rfl
theorem tw505 : (.fieldLink RX11 22 "PuzzleWed" "hasKept" "Z" : Cond) ∈ TBG := TBG_mem (i := 505) (by decide +kernel) rfl
theorem tw506 : (.fieldLink RX11 29 "PuzzleWed" "tape" "LPuzzleWed$Tape;" : Cond) ∈ TBG := TBG_mem (i := 506) (by decide +kernel) rfl
theorem tw507 : (.fieldLink RX11 36 "PuzzleWed" "law" "LPuzzleWed$Law;" : Cond) ∈ TBG := TBG_mem (i := 507) (by decide +kernel) rfl
theorem tw508 : (.fieldLink RX11 40 "PuzzleWed" "draft" "LPuzzleWed$Law;" : Cond) ∈ TBG := TBG_mem (i := 508) (by decide +kernel) rfl
theorem tw509 : (.fieldLink RX11 48 "PuzzleWed" "lawReader" "LPuzzleWed$LawReader;" : Cond) ∈ TBG := TBG_mem (i := 509) (by decide +kernel) rfl
theorem tw510 : (.fieldLink RX11 57 "PuzzleWed" "listReader" "LPuzzleWed$ListReader;" : Cond) ∈ TBG := TBG_mem (i := 510) (by decide +kernel) rfl
theorem tw511 : (.fieldLink RX11 66 "PuzzleWed" "judge" "LPuzzleWed$Judge;" : Cond) ∈ TBG := TBG_mem (i := 511) (by decide +kernel) rfl
theorem tw512 : (.fieldLink RX11 75 "PuzzleWed" "course" "LPuzzleWed$Course;" : Cond) ∈ TBG := TBG_mem (i := 512) (by decide +kernel) rfl
theorem tw513 : (.fieldLink RX11 82 "PuzzleWed" "couples" "LPuzzleWed$Couples;" : Cond) ∈ TBG := TBG_mem (i := 513) (by decide +kernel) rfl
theorem tw514 : (.fieldLink RX11 89 "PuzzleWed" "quest" "LPuzzleWed$Search;" : Cond) ∈ TBG := TBG_mem (i := 514) (by decide +kernel) rfl
theorem tw515 : (.fieldLink RX11 96 "PuzzleWed" "sander" "LPuzzleWed$Sander;" : Cond) ∈ TBG := TBG_mem (i := 515) (by decide +kernel) rfl
theorem tw516 : (.fieldLink RX11 100 "PuzzleWed" "row" "[I" : Cond) ∈ TBG := TBG_mem (i := 516) (by decide +kernel) rfl
theorem tw548 : (.methodLink RL 13 yX11_person : Cond) ∈ TBG := TBG_mem (i := 548) (by decide +kernel) rfl
theorem tw549 : (.instanceMethod yX11_person : Cond) ∈ TBG := TBG_mem (i := 549) (by decide +kernel) rfl
theorem tw550 : (.selects RX11 yX11_person yX11_person : Cond) ∈ TBG := TBG_mem (i := 550) (by decide +kernel) rfl
set_option maxRecDepth 20000 in
theorem tw551 : (.code yX11_person cX11_person 4 (some .boolean) : Cond) ∈ TBG := List.mem_filter.mpr ⟨in_t2 _ (List.mem_of_getElem? (i := 201) rfl), rfl⟩
theorem tw552 : (.methodLink RX11 104 yX11_isNumber : Cond) ∈ TBG := TBG_mem (i := 552) (by decide +kernel) rfl
theorem tw553 : (.static yX11_isNumber : Cond) ∈ TBG := TBG_mem (i := 553) (by decide +kernel) rfl
set_option maxRecDepth 20000 in
theorem tw554 : (.code yX11_isNumber cX11_isNumber 1 (some .boolean) : Cond) ∈ TBG := List.mem_filter.mpr ⟨in_t2 _ (List.mem_of_getElem? (i := 204) rfl), rfl⟩
theorem tw555 : (.methodLink RX11 108 yX3_isTold : Cond) ∈ TBG := TBG_mem (i := 555) (by decide +kernel) rfl
theorem tw556 : (.instanceMethod yX3_isTold : Cond) ∈ TBG := TBG_mem (i := 556) (by decide +kernel) rfl
theorem tw557 : (.selects RX3 yX3_isTold yX3_isTold : Cond) ∈ TBG := TBG_mem (i := 557) (by decide +kernel) rfl
set_option maxRecDepth 20000 in
theorem tw558 : (.code yX3_isTold cX3_isTold 2 (some .boolean) : Cond) ∈ TBG := List.mem_filter.mpr ⟨in_t2 _ (List.mem_of_getElem? (i := 208) rfl), rfl⟩
theorem tw560 : (.methodLink RL 18 yX11_wear : Cond) ∈ TBG := TBG_mem (i := 560) (by decide +kernel) rfl
theorem tw561 : (.instanceMethod yX11_wear : Cond) ∈ TBG := TBG_mem (i := 561) (by decide +kernel) rfl
theorem tw562 : (.selects RX11 yX11_wear yX11_wear : Cond) ∈ TBG := TBG_mem (i := 562) (by decide +kernel) rfl
set_option maxRecDepth 20000 in
theorem tw563 : (.code yX11_wear cX11_wear 3 (some .boolean) : Cond) ∈ TBG := List.mem_filter.mpr ⟨in_t2 _ (List.mem_of_getElem? (i := 213) rfl), rfl⟩
theorem tw564 : (.methodLink RL 23 yX11_dies : Cond) ∈ TBG := TBG_mem (i := 564) (by decide +kernel) rfl
theorem tw565 : (.instanceMethod yX11_dies : Cond) ∈ TBG := TBG_mem (i := 565) (by decide +kernel) rfl
theorem tw566 : (.selects RX11 yX11_dies yX11_dies : Cond) ∈ TBG := TBG_mem (i := 566) (by decide +kernel) rfl
set_option maxRecDepth 20000 in
theorem tw567 : (.code yX11_dies cX11_dies 2 (some .boolean) : Cond) ∈ TBG := List.mem_filter.mpr ⟨in_t2 _ (List.mem_of_getElem? (i := 217) rfl), rfl⟩
theorem tw568 : (.methodLink RX11 127 yX3_isAlive : Cond) ∈ TBG := TBG_mem (i := 568) (by decide +kernel) rfl
theorem tw569 : (.instanceMethod yX3_isAlive : Cond) ∈ TBG := TBG_mem (i := 569) (by decide +kernel) rfl
theorem tw570 : (.selects RX3 yX3_isAlive yX3_isAlive : Cond) ∈ TBG := TBG_mem (i := 570) (by decide +kernel) rfl
set_option maxRecDepth 20000 in
theorem tw571 : (.code yX3_isAlive cX3_isAlive 2 (some .boolean) : Cond) ∈ TBG := List.mem_filter.mpr ⟨in_t2 _ (List.mem_of_getElem? (i := 221) rfl), rfl⟩
theorem tw572 : (.methodLink RX11 130 yX3_bury : Cond) ∈ TBG := TBG_mem (i := 572) (by decide +kernel) rfl
theorem tw573 : (.instanceMethod yX3_bury : Cond) ∈ TBG := TBG_mem (i := 573) (by decide +kernel) rfl
theorem tw574 : (.selects RX3 yX3_bury yX3_bury : Cond) ∈ TBG := TBG_mem (i := 574) (by decide +kernel) rfl
set_option maxRecDepth 20000 in
theorem tw575 : (.code yX3_bury cX3_bury 4 (none) : Cond) ∈ TBG := List.mem_filter.mpr ⟨in_t2 _ (List.mem_of_getElem? (i := 225) rfl), rfl⟩
theorem tw576 : (.methodLink RX3 64 yX3_separate : Cond) ∈ TBG := TBG_mem (i := 576) (by decide +kernel) rfl
theorem tw577 : (.instanceMethod yX3_separate : Cond) ∈ TBG := TBG_mem (i := 577) (by decide +kernel) rfl
theorem tw578 : (.selects RX3 yX3_separate yX3_separate : Cond) ∈ TBG := TBG_mem (i := 578) (by decide +kernel) rfl
set_option maxRecDepth 20000 in
theorem tw579 : (.code yX3_separate cX3_separate 3 (none) : Cond) ∈ TBG := List.mem_filter.mpr ⟨in_t2 _ (List.mem_of_getElem? (i := 229) rfl), rfl⟩
theorem tw580 : (.methodLink RL 28 yX11_weds : Cond) ∈ TBG := TBG_mem (i := 580) (by decide +kernel) rfl
theorem tw581 : (.instanceMethod yX11_weds : Cond) ∈ TBG := TBG_mem (i := 581) (by decide +kernel) rfl
theorem tw582 : (.selects RX11 yX11_weds yX11_weds : Cond) ∈ TBG := TBG_mem (i := 582) (by decide +kernel) rfl
set_option maxRecDepth 20000 in
theorem tw583 : (.code yX11_weds cX11_weds 3 (some .boolean) : Cond) ∈ TBG := List.mem_filter.mpr ⟨in_t2 _ (List.mem_of_getElem? (i := 233) rfl), rfl⟩
theorem tw584 : (.methodLink RX11 134 yX3_isFree : Cond) ∈ TBG := TBG_mem (i := 584) (by decide +kernel) rfl
theorem tw585 : (.instanceMethod yX3_isFree : Cond) ∈ TBG := TBG_mem (i := 585) (by decide +kernel) rfl
theorem tw586 : (.selects RX3 yX3_isFree yX3_isFree : Cond) ∈ TBG := TBG_mem (i := 586) (by decide +kernel) rfl
set_option maxRecDepth 20000 in
theorem tw587 : (.code yX3_isFree cX3_isFree 2 (some .boolean) : Cond) ∈ TBG := List.mem_filter.mpr ⟨in_t2 _ (List.mem_of_getElem? (i := 237) rfl), rfl⟩
theorem tw588 : (.methodLink RX3 61 yX3_isAlive : Cond) ∈ TBG := TBG_mem (i := 588) (by decide +kernel) rfl
theorem tw589 : (.methodLink RX11 137 yX3_join : Cond) ∈ TBG := TBG_mem (i := 589) (by decide +kernel) rfl
theorem tw590 : (.instanceMethod yX3_join : Cond) ∈ TBG := TBG_mem (i := 590) (by decide +kernel) rfl
theorem tw591 : (.selects RX3 yX3_join yX3_join : Cond) ∈ TBG := TBG_mem (i := 591) (by decide +kernel) rfl
set_option maxRecDepth 20000 in
theorem tw592 : (.code yX3_join cX3_join 3 (none) : Cond) ∈ TBG := List.mem_filter.mpr ⟨in_t3 _ (List.mem_of_getElem? (i := 2) rfl), rfl⟩
theorem tw593 : (.methodLink RL 32 yX11_feed : Cond) ∈ TBG := TBG_mem (i := 593) (by decide +kernel) rfl
theorem tw594 : (.instanceMethod yX11_feed : Cond) ∈ TBG := TBG_mem (i := 594) (by decide +kernel) rfl
theorem tw595 : (.selects RX11 yX11_feed yX11_feed : Cond) ∈ TBG := TBG_mem (i := 595) (by decide +kernel) rfl
set_option maxRecDepth 20000 in
theorem tw596 : (.code yX11_feed cX11_feed 6 (some .int) : Cond) ∈ TBG := List.mem_filter.mpr ⟨in_t3 _ (List.mem_of_getElem? (i := 6) rfl), rfl⟩
theorem tw597 : (.methodLink RX11 144 yX10_add : Cond) ∈ TBG := TBG_mem (i := 597) (by decide +kernel) rfl
theorem tw598 : (.instanceMethod yX10_add : Cond) ∈ TBG := TBG_mem (i := 598) (by decide +kernel) rfl
theorem tw599 : (.selects RX10 yX10_add yX10_add : Cond) ∈ TBG := TBG_mem (i := 599) (by decide +kernel) rfl
set_option maxRecDepth 20000 in
theorem tw600 : (.code yX10_add cX10_add 3 (none) : Cond) ∈ TBG := List.mem_filter.mpr ⟨in_t3 _ (List.mem_of_getElem? (i := 10) rfl), rfl⟩
theorem tw601 : (.methodLink RL 37 yX11_law : Cond) ∈ TBG := TBG_mem (i := 601) (by decide +kernel) rfl
theorem tw602 : (.instanceMethod yX11_law : Cond) ∈ TBG := TBG_mem (i := 602) (by decide +kernel) rfl
theorem tw603 : (.selects RX11 yX11_law yX11_law : Cond) ∈ TBG := TBG_mem (i := 603) (by decide +kernel) rfl
set_option maxRecDepth 20000 in
theorem tw604 : (.code yX11_law cX11_law 3 (some .int) : Cond) ∈ TBG := List.mem_filter.mpr ⟨in_t3 _ (List.mem_of_getElem? (i := 14) rfl), rfl⟩
theorem tw605 : (.methodLink RX11 147 yX5_readLaw : Cond) ∈ TBG := TBG_mem (i := 605) (by decide +kernel) rfl
theorem tw606 : (.instanceMethod yX5_readLaw : Cond) ∈ TBG := TBG_mem (i := 606) (by decide +kernel) rfl
theorem tw607 : (.selects RX5 yX5_readLaw yX5_readLaw : Cond) ∈ TBG := TBG_mem (i := 607) (by decide +kernel) rfl
set_option maxRecDepth 20000 in
theorem tw608 : (.code yX5_readLaw cX5_readLaw 3 (some .boolean) : Cond) ∈ TBG := List.mem_filter.mpr ⟨in_t3 _ (List.mem_of_getElem? (i := 18) rfl), rfl⟩
theorem tw609 : (.methodLink RX5 15 ⟨"PuzzleWed$LawReader", "begin", "(I)V"⟩ : Cond) ∈ TBG := TBG_mem (i := 609) (by decide +kernel) rfl
theorem tw610 : (.sameMethod RX5 RX7 "begin" "(I)V" : Cond) ∈ TBG := TBG_mem (i := 610) (by decide +kernel) rfl
theorem tw612 : (.selects RX5 ⟨"PuzzleWed$LawReader", "begin", "(I)V"⟩ yX7_begin : Cond) ∈ TBG := TBG_mem (i := 612) (by decide +kernel) rfl
theorem tw613 : (.instanceMethod yX7_begin : Cond) ∈ TBG := TBG_mem (i := 613) (by decide +kernel) rfl
set_option maxRecDepth 20000 in
theorem tw614 : (.code yX7_begin cX7_begin 2 (none) : Cond) ∈ TBG := List.mem_filter.mpr ⟨in_t3 _ (List.mem_of_getElem? (i := 24) rfl), rfl⟩
theorem tw615 : (.methodLink RX5 28 yX5_readClause : Cond) ∈ TBG := TBG_mem (i := 615) (by decide +kernel) rfl
theorem tw617 : (.instanceMethod yX5_readClause : Cond) ∈ TBG := TBG_mem (i := 617) (by decide +kernel) rfl
set_option maxRecDepth 20000 in
theorem tw618 : (.code yX5_readClause cX5_readClause 2 (some .boolean) : Cond) ∈ TBG := List.mem_filter.mpr ⟨in_t3 _ (List.mem_of_getElem? (i := 28) rfl), rfl⟩
theorem tw619 : (.methodLink RX5 32 ⟨"PuzzleWed$LawReader", "isEnd", "()Z"⟩ : Cond) ∈ TBG := TBG_mem (i := 619) (by decide +kernel) rfl
theorem tw620 : (.sameMethod RX5 RX7 "isEnd" "()Z" : Cond) ∈ TBG := TBG_mem (i := 620) (by decide +kernel) rfl
theorem tw622 : (.selects RX5 ⟨"PuzzleWed$LawReader", "isEnd", "()Z"⟩ yX7_isEnd : Cond) ∈ TBG := TBG_mem (i := 622) (by decide +kernel) rfl
theorem tw623 : (.instanceMethod yX7_isEnd : Cond) ∈ TBG := TBG_mem (i := 623) (by decide +kernel) rfl
set_option maxRecDepth 20000 in
theorem tw624 : (.code yX7_isEnd cX7_isEnd 1 (some .boolean) : Cond) ∈ TBG := List.mem_filter.mpr ⟨in_t3 _ (List.mem_of_getElem? (i := 34) rfl), rfl⟩
theorem tw626 : (.methodLink RX5 35 ⟨"PuzzleWed$LawReader", "sign", "()I"⟩ : Cond) ∈ TBG := TBG_mem (i := 626) (by decide +kernel) rfl
theorem tw627 : (.sameMethod RX5 RX7 "sign" "()I" : Cond) ∈ TBG := TBG_mem (i := 627) (by decide +kernel) rfl
theorem tw629 : (.selects RX5 ⟨"PuzzleWed$LawReader", "sign", "()I"⟩ yX7_sign : Cond) ∈ TBG := TBG_mem (i := 629) (by decide +kernel) rfl
theorem tw630 : (.instanceMethod yX7_sign : Cond) ∈ TBG := TBG_mem (i := 630) (by decide +kernel) rfl
set_option maxRecDepth 20000 in
theorem tw631 : (.code yX7_sign cX7_sign 1 (some .int) : Cond) ∈ TBG := List.mem_filter.mpr ⟨in_t3 _ (List.mem_of_getElem? (i := 41) rfl), rfl⟩
theorem tw632 : (.methodLink RX5 48 yJ0_indexOf_0f7a4 : Cond) ∈ TBG := TBG_mem (i := 632) (by decide +kernel) rfl
theorem tw633 : (.instanceMethod yJ0_indexOf_0f7a4 : Cond) ∈ TBG := TBG_mem (i := 633) (by decide +kernel) rfl
theorem tw634 : (.selects RJ0 yJ0_indexOf_0f7a4 yJ0_indexOf_0f7a4 : Cond) ∈ TBG := TBG_mem (i := 634) (by decide +kernel) rfl
set_option maxRecDepth 20000 in
theorem tw635 : (.code yJ0_indexOf_0f7a4 cJ0_indexOf_0f7a4 2 (some .int) : Cond) ∈ TBG := List.mem_filter.mpr ⟨in_t3 _ (List.mem_of_getElem? (i := 45) rfl), rfl⟩
theorem tw636 : (.methodLink RJ0 633 yJ0_indexOf_7cf53 : Cond) ∈ TBG := TBG_mem (i := 636) (by decide +kernel) rfl
theorem tw637 : (.instanceMethod yJ0_indexOf_7cf53 : Cond) ∈ TBG := TBG_mem (i := 637) (by decide +kernel) rfl
theorem tw638 : (.selects RJ0 yJ0_indexOf_7cf53 yJ0_indexOf_7cf53 : Cond) ∈ TBG := TBG_mem (i := 638) (by decide +kernel) rfl
set_option maxRecDepth 20000 in
theorem tw639 : (.code yJ0_indexOf_7cf53 cJ0_indexOf_7cf53 3 (some .int) : Cond) ∈ TBG := List.mem_filter.mpr ⟨in_t3 _ (List.mem_of_getElem? (i := 49) rfl), rfl⟩
theorem tw640 : (.methodLink RJ0 492 yJ0_isLatin1_aae02 : Cond) ∈ TBG := TBG_mem (i := 640) (by decide +kernel) rfl
theorem tw641 : (.instanceMethod yJ0_isLatin1_aae02 : Cond) ∈ TBG := TBG_mem (i := 641) (by decide +kernel) rfl
theorem tw642 : (.selects RJ0 yJ0_isLatin1_aae02 yJ0_isLatin1_aae02 : Cond) ∈ TBG := TBG_mem (i := 642) (by decide +kernel) rfl
set_option maxRecDepth 20000 in
theorem tw643 : (.code yJ0_isLatin1_aae02 cJ0_isLatin1_aae02 1 (some .boolean) : Cond) ∈ TBG := List.mem_filter.mpr ⟨in_t3 _ (List.mem_of_getElem? (i := 53) rfl), rfl⟩
theorem tw644 : (.fieldLink RJ0 38 "java/lang/String" "COMPACT_STRINGS" "Z" : Cond) ∈ TBG := TBG_mem (i := 644) (by decide +kernel) rfl
theorem tw646 : (.methodLink RJ0 505 yJ0_length_8abf5 : Cond) ∈ TBG := TBG_mem (i := 646) (by decide +kernel) rfl
theorem tw647 : (.instanceMethod yJ0_length_8abf5 : Cond) ∈ TBG := TBG_mem (i := 647) (by decide +kernel) rfl
theorem tw648 : (.selects RJ0 yJ0_length_8abf5 yJ0_length_8abf5 : Cond) ∈ TBG := TBG_mem (i := 648) (by decide +kernel) rfl
set_option maxRecDepth 20000 in
theorem tw649 : (.code yJ0_length_8abf5 cJ0_length_8abf5 1 (some .int) : Cond) ∈ TBG := List.mem_filter.mpr ⟨in_t3 _ (List.mem_of_getElem? (i := 59) rfl), rfl⟩
theorem tw650 : (.methodLink RJ0 335 yJ0_coder_7d493 : Cond) ∈ TBG := TBG_mem (i := 650) (by decide +kernel) rfl
theorem tw651 : (.instanceMethod yJ0_coder_7d493 : Cond) ∈ TBG := TBG_mem (i := 651) (by decide +kernel) rfl
theorem tw652 : (.selects RJ0 yJ0_coder_7d493 yJ0_coder_7d493 : Cond) ∈ TBG := TBG_mem (i := 652) (by decide +kernel) rfl
set_option maxRecDepth 20000 in
theorem tw653 : (.code yJ0_coder_7d493 cJ0_coder_7d493 1 (some .byte) : Cond) ∈ TBG := List.mem_filter.mpr ⟨in_t3 _ (List.mem_of_getElem? (i := 63) rfl), rfl⟩
theorem tw654 : (.methodLink RJ0 637 yJ1_indexOf_4cfef : Cond) ∈ TBG := TBG_mem (i := 654) (by decide +kernel) rfl
theorem tw655 : (.static yJ1_indexOf_4cfef : Cond) ∈ TBG := TBG_mem (i := 655) (by decide +kernel) rfl
set_option maxRecDepth 20000 in
theorem tw656 : (.code yJ1_indexOf_4cfef cJ1_indexOf_4cfef 4 (some .int) : Cond) ∈ TBG := List.mem_filter.mpr ⟨in_t3 _ (List.mem_of_getElem? (i := 66) rfl), rfl⟩
theorem tw657 : (.methodLink RJ1 88 yJ1_canEncode_9a6ad : Cond) ∈ TBG := TBG_mem (i := 657) (by decide +kernel) rfl
theorem tw658 : (.static yJ1_canEncode_9a6ad : Cond) ∈ TBG := TBG_mem (i := 658) (by decide +kernel) rfl
set_option maxRecDepth 20000 in
theorem tw659 : (.code yJ1_canEncode_9a6ad cJ1_canEncode_9a6ad 1 (some .boolean) : Cond) ∈ TBG := List.mem_filter.mpr ⟨in_t3 _ (List.mem_of_getElem? (i := 69) rfl), rfl⟩
theorem tw660 : (.methodLink RJ1 92 yJ9_max_7cf53 : Cond) ∈ TBG := TBG_mem (i := 660) (by decide +kernel) rfl
theorem tw661 : (.static yJ9_max_7cf53 : Cond) ∈ TBG := TBG_mem (i := 661) (by decide +kernel) rfl
set_option maxRecDepth 20000 in
theorem tw662 : (.code yJ9_max_7cf53 cJ9_max_7cf53 2 (some .int) : Cond) ∈ TBG := List.mem_filter.mpr ⟨in_t3 _ (List.mem_of_getElem? (i := 72) rfl), rfl⟩
theorem tw663 : (.methodLink RJ1 38 yJ9_min_7cf53 : Cond) ∈ TBG := TBG_mem (i := 663) (by decide +kernel) rfl
theorem tw664 : (.static yJ9_min_7cf53 : Cond) ∈ TBG := TBG_mem (i := 664) (by decide +kernel) rfl
set_option maxRecDepth 20000 in
theorem tw665 : (.code yJ9_min_7cf53 cJ9_min_7cf53 2 (some .int) : Cond) ∈ TBG := List.mem_filter.mpr ⟨in_t3 _ (List.mem_of_getElem? (i := 75) rfl), rfl⟩
theorem tw666 : (.methodLink RJ1 95 yJ1_indexOfChar_4cfef : Cond) ∈ TBG := TBG_mem (i := 666) (by decide +kernel) rfl
theorem tw667 : (.static yJ1_indexOfChar_4cfef : Cond) ∈ TBG := TBG_mem (i := 667) (by decide +kernel) rfl
set_option maxRecDepth 20000 in
theorem tw668 : (.code yJ1_indexOfChar_4cfef cJ1_indexOfChar_4cfef 6 (some .int) : Cond) ∈ TBG := List.mem_filter.mpr ⟨in_t3 _ (List.mem_of_getElem? (i := 78) rfl), rfl⟩
theorem tw669 : (.methodLink RJ0 640 yJ2_indexOf_4cfef : Cond) ∈ TBG := TBG_mem (i := 669) (by decide +kernel) rfl
theorem tw670 : (.static yJ2_indexOf_4cfef : Cond) ∈ TBG := TBG_mem (i := 670) (by decide +kernel) rfl
set_option maxRecDepth 20000 in
theorem tw671 : (.code yJ2_indexOf_4cfef cJ2_indexOf_4cfef 4 (some .int) : Cond) ∈ TBG := List.mem_filter.mpr ⟨in_t3 _ (List.mem_of_getElem? (i := 81) rfl), rfl⟩
theorem tw672 : (.methodLink RJ2 224 yJ9_max_7cf53 : Cond) ∈ TBG := TBG_mem (i := 672) (by decide +kernel) rfl
theorem tw673 : (.methodLink RJ2 183 yJ9_min_7cf53 : Cond) ∈ TBG := TBG_mem (i := 673) (by decide +kernel) rfl
theorem tw674 : (.constant RJ2 227 (65536) : Cond) ∈ TBG := TBG_mem (i := 674) (by decide +kernel) rfl
theorem tw675 : (.methodLink RJ2 228 yJ2_indexOfChar_4cfef : Cond) ∈ TBG := TBG_mem (i := 675) (by decide +kernel) rfl
theorem tw676 : (.static yJ2_indexOfChar_4cfef : Cond) ∈ TBG := TBG_mem (i := 676) (by decide +kernel) rfl
set_option maxRecDepth 20000 in
theorem tw677 : (.code yJ2_indexOfChar_4cfef cJ2_indexOfChar_4cfef 4 (some .int) : Cond) ∈ TBG := List.mem_filter.mpr ⟨in_t3 _ (List.mem_of_getElem? (i := 87) rfl), rfl⟩
theorem tw678 : (.methodLink RJ2 96 yJ2_checkBoundsBeginEnd_d044e : Cond) ∈ TBG := TBG_mem (i := 678) (by decide +kernel) rfl
theorem tw679 : (.static yJ2_checkBoundsBeginEnd_d044e : Cond) ∈ TBG := TBG_mem (i := 679) (by decide +kernel) rfl
set_option maxRecDepth 20000 in
theorem tw680 : (.code yJ2_checkBoundsBeginEnd_d044e cJ2_checkBoundsBeginEnd_d044e 3 (none) : Cond) ∈ TBG := List.mem_filter.mpr ⟨in_t3 _ (List.mem_of_getElem? (i := 90) rfl), rfl⟩
theorem tw681 : (.methodLink RJ2 48 yJ2_length_9d52b : Cond) ∈ TBG := TBG_mem (i := 681) (by decide +kernel) rfl
theorem tw682 : (.static yJ2_length_9d52b : Cond) ∈ TBG := TBG_mem (i := 682) (by decide +kernel) rfl
set_option maxRecDepth 20000 in
theorem tw683 : (.code yJ2_length_9d52b cJ2_length_9d52b 1 (some .int) : Cond) ∈ TBG := List.mem_filter.mpr ⟨in_t3 _ (List.mem_of_getElem? (i := 93) rfl), rfl⟩
theorem tw684 : (.methodLink RJ2 241 yJ0_checkBoundsBeginEnd_23922 : Cond) ∈ TBG := TBG_mem (i := 684) (by decide +kernel) rfl
theorem tw685 : (.static yJ0_checkBoundsBeginEnd_23922 : Cond) ∈ TBG := TBG_mem (i := 685) (by decide +kernel) rfl
set_option maxRecDepth 20000 in
theorem tw686 : (.code yJ0_checkBoundsBeginEnd_23922 cJ0_checkBoundsBeginEnd_23922 3 (none) : Cond) ∈ TBG := List.mem_filter.mpr ⟨in_t3 _ (List.mem_of_getElem? (i := 96) rfl), rfl⟩
theorem tw689 : (.methodLink RJ0 1062 yJ3_checkFromToIndex_8c36e : Cond) ∈ TBG := TBG_mem (i := 689) (by decide +kernel) rfl
theorem tw690 : (.static yJ3_checkFromToIndex_8c36e : Cond) ∈ TBG := TBG_mem (i := 690) (by decide +kernel) rfl
set_option maxRecDepth 20000 in
theorem tw691 : (.code yJ3_checkFromToIndex_8c36e cJ3_checkFromToIndex_8c36e 4 (some .int) : Cond) ∈ TBG := List.mem_filter.mpr ⟨in_t3 _ (List.mem_of_getElem? (i := 101) rfl), rfl⟩
theorem tw692 : (.methodLink RJ2 244 yJ2_indexOfCharUnsafe_4cfef : Cond) ∈ TBG := TBG_mem (i := 692) (by decide +kernel) rfl
theorem tw693 : (.static yJ2_indexOfCharUnsafe_4cfef : Cond) ∈ TBG := TBG_mem (i := 693) (by decide +kernel) rfl
set_option maxRecDepth 20000 in
theorem tw694 : (.code yJ2_indexOfCharUnsafe_4cfef cJ2_indexOfCharUnsafe_4cfef 5 (some .int) : Cond) ∈ TBG := List.mem_filter.mpr ⟨in_t3 _ (List.mem_of_getElem? (i := 104) rfl), rfl⟩
theorem tw695 : (.methodLink RJ2 71 yJ2_getChar_3b067 : Cond) ∈ TBG := TBG_mem (i := 695) (by decide +kernel) rfl
theorem tw696 : (.static yJ2_getChar_3b067 : Cond) ∈ TBG := TBG_mem (i := 696) (by decide +kernel) rfl
set_option maxRecDepth 20000 in
theorem tw697 : (.code yJ2_getChar_3b067 cJ2_getChar_3b067 2 (some .char) : Cond) ∈ TBG := List.mem_filter.mpr ⟨in_t3 _ (List.mem_of_getElem? (i := 107) rfl), rfl⟩
theorem tw704 : (.methodLink RJ2 232 yJ2_indexOfSupplementary_4cfef : Cond) ∈ TBG := TBG_mem (i := 704) (by decide +kernel) rfl
theorem tw705 : (.static yJ2_indexOfSupplementary_4cfef : Cond) ∈ TBG := TBG_mem (i := 705) (by decide +kernel) rfl
set_option maxRecDepth 20000 in
theorem tw706 : (.code yJ2_indexOfSupplementary_4cfef cJ2_indexOfSupplementary_4cfef 7 (some .int) : Cond) ∈ TBG := List.mem_filter.mpr ⟨in_t3 _ (List.mem_of_getElem? (i := 116) rfl), rfl⟩
theorem tw707 : (.methodLink RJ2 164 yJ11_isValidCodePoint_9a6ad : Cond) ∈ TBG := TBG_mem (i := 707) (by decide +kernel) rfl
theorem tw708 : (.static yJ11_isValidCodePoint_9a6ad : Cond) ∈ TBG := TBG_mem (i := 708) (by decide +kernel) rfl
set_option maxRecDepth 20000 in
theorem tw709 : (.code yJ11_isValidCodePoint_9a6ad cJ11_isValidCodePoint_9a6ad 2 (some .boolean) : Cond) ∈ TBG := List.mem_filter.mpr ⟨in_t3 _ (List.mem_of_getElem? (i := 119) rfl), rfl⟩
theorem tw710 : (.methodLink RJ2 157 yJ11_highSurrogate_5068e : Cond) ∈ TBG := TBG_mem (i := 710) (by decide +kernel) rfl
theorem tw711 : (.static yJ11_highSurrogate_5068e : Cond) ∈ TBG := TBG_mem (i := 711) (by decide +kernel) rfl
set_option maxRecDepth 20000 in
theorem tw712 : (.code yJ11_highSurrogate_5068e cJ11_highSurrogate_5068e 1 (some .char) : Cond) ∈ TBG := List.mem_filter.mpr ⟨in_t3 _ (List.mem_of_getElem? (i := 122) rfl), rfl⟩
theorem tw713 : (.constant RJ11 110 (55232) : Cond) ∈ TBG := TBG_mem (i := 713) (by decide +kernel) rfl
theorem tw714 : (.methodLink RJ2 161 yJ11_lowSurrogate_5068e : Cond) ∈ TBG := TBG_mem (i := 714) (by decide +kernel) rfl
theorem tw715 : (.static yJ11_lowSurrogate_5068e : Cond) ∈ TBG := TBG_mem (i := 715) (by decide +kernel) rfl
set_option maxRecDepth 20000 in
theorem tw716 : (.code yJ11_lowSurrogate_5068e cJ11_lowSurrogate_5068e 1 (some .char) : Cond) ∈ TBG := List.mem_filter.mpr ⟨in_t3 _ (List.mem_of_getElem? (i := 126) rfl), rfl⟩
theorem tw717 : (.constant RJ11 76 (56320) : Cond) ∈ TBG := TBG_mem (i := 717) (by decide +kernel) rfl
theorem tw718 : (.methodLink RX5 39 ⟨"PuzzleWed$LawReader", "fail", "(I)Z"⟩ : Cond) ∈ TBG := TBG_mem (i := 718) (by decide +kernel) rfl
theorem tw719 : (.sameMethod RX5 RX7 "fail" "(I)Z" : Cond) ∈ TBG := TBG_mem (i := 719) (by decide +kernel) rfl
theorem tw721 : (.selects RX5 ⟨"PuzzleWed$LawReader", "fail", "(I)Z"⟩ yX7_fail : Cond) ∈ TBG := TBG_mem (i := 721) (by decide +kernel) rfl
theorem tw722 : (.instanceMethod yX7_fail : Cond) ∈ TBG := TBG_mem (i := 722) (by decide +kernel) rfl
set_option maxRecDepth 20000 in
theorem tw723 : (.code yX7_fail cX7_fail 2 (some .boolean) : Cond) ∈ TBG := List.mem_filter.mpr ⟨in_t3 _ (List.mem_of_getElem? (i := 133) rfl), rfl⟩
theorem tw724 : (.methodLink RX7 31 yX7_failAt : Cond) ∈ TBG := TBG_mem (i := 724) (by decide +kernel) rfl
theorem tw725 : (.instanceMethod yX7_failAt : Cond) ∈ TBG := TBG_mem (i := 725) (by decide +kernel) rfl
theorem tw726 : (.sameMethod RX7 RX7 "failAt" "(II)Z" : Cond) ∈ TBG := TBG_mem (i := 726) (by decide +kernel) rfl
theorem tw727 : (.selects RX5 yX7_failAt yX7_failAt : Cond) ∈ TBG := TBG_mem (i := 727) (by decide +kernel) rfl
theorem tw728 : (.selects RX6 yX7_failAt yX7_failAt : Cond) ∈ TBG := TBG_mem (i := 728) (by decide +kernel) rfl
set_option maxRecDepth 20000 in
theorem tw729 : (.code yX7_failAt cX7_failAt 3 (some .boolean) : Cond) ∈ TBG := List.mem_filter.mpr ⟨in_t3 _ (List.mem_of_getElem? (i := 139) rfl), rfl⟩
theorem tw730 : (.methodLink RX5 61 yX5_readSum : Cond) ∈ TBG := TBG_mem (i := 730) (by decide +kernel) rfl
theorem tw732 : (.instanceMethod yX5_readSum : Cond) ∈ TBG := TBG_mem (i := 732) (by decide +kernel) rfl
set_option maxRecDepth 20000 in
theorem tw733 : (.code yX5_readSum cX5_readSum 4 (some .boolean) : Cond) ∈ TBG := List.mem_filter.mpr ⟨in_t3 _ (List.mem_of_getElem? (i := 143) rfl), rfl⟩
theorem tw734 : (.methodLink RX5 99 yX5_readProduct : Cond) ∈ TBG := TBG_mem (i := 734) (by decide +kernel) rfl
theorem tw736 : (.instanceMethod yX5_readProduct : Cond) ∈ TBG := TBG_mem (i := 736) (by decide +kernel) rfl
set_option maxRecDepth 20000 in
theorem tw737 : (.code yX5_readProduct cX5_readProduct 4 (some .boolean) : Cond) ∈ TBG := List.mem_filter.mpr ⟨in_t3 _ (List.mem_of_getElem? (i := 147) rfl), rfl⟩
theorem tw738 : (.methodLink RX5 102 yX5_readFactor : Cond) ∈ TBG := TBG_mem (i := 738) (by decide +kernel) rfl
theorem tw740 : (.instanceMethod yX5_readFactor : Cond) ∈ TBG := TBG_mem (i := 740) (by decide +kernel) rfl
set_option maxRecDepth 20000 in
theorem tw741 : (.code yX5_readFactor cX5_readFactor 4 (some .boolean) : Cond) ∈ TBG := List.mem_filter.mpr ⟨in_t3 _ (List.mem_of_getElem? (i := 151) rfl), rfl⟩
theorem tw742 : (.methodLink RX5 70 yX5_pass : Cond) ∈ TBG := TBG_mem (i := 742) (by decide +kernel) rfl
theorem tw744 : (.instanceMethod yX5_pass : Cond) ∈ TBG := TBG_mem (i := 744) (by decide +kernel) rfl
set_option maxRecDepth 20000 in
theorem tw745 : (.code yX5_pass cX5_pass 2 (some .boolean) : Cond) ∈ TBG := List.mem_filter.mpr ⟨in_t3 _ (List.mem_of_getElem? (i := 155) rfl), rfl⟩
theorem tw746 : (.methodLink RX5 105 yX5_readNumber : Cond) ∈ TBG := TBG_mem (i := 746) (by decide +kernel) rfl
theorem tw748 : (.instanceMethod yX5_readNumber : Cond) ∈ TBG := TBG_mem (i := 748) (by decide +kernel) rfl
set_option maxRecDepth 20000 in
theorem tw749 : (.code yX5_readNumber cX5_readNumber 4 (some .boolean) : Cond) ∈ TBG := List.mem_filter.mpr ⟨in_t3 _ (List.mem_of_getElem? (i := 159) rfl), rfl⟩
theorem tw750 : (.methodLink RX5 64 yX4_emit : Cond) ∈ TBG := TBG_mem (i := 750) (by decide +kernel) rfl
theorem tw751 : (.instanceMethod yX4_emit : Cond) ∈ TBG := TBG_mem (i := 751) (by decide +kernel) rfl
theorem tw752 : (.selects RX4 yX4_emit yX4_emit : Cond) ∈ TBG := TBG_mem (i := 752) (by decide +kernel) rfl
set_option maxRecDepth 20000 in
theorem tw753 : (.code yX4_emit cX4_emit 2 (none) : Cond) ∈ TBG := List.mem_filter.mpr ⟨in_t3 _ (List.mem_of_getElem? (i := 163) rfl), rfl⟩
theorem tw755 : (.methodLink RX5 73 yX5_readEither : Cond) ∈ TBG := TBG_mem (i := 755) (by decide +kernel) rfl
theorem tw757 : (.instanceMethod yX5_readEither : Cond) ∈ TBG := TBG_mem (i := 757) (by decide +kernel) rfl
set_option maxRecDepth 20000 in
theorem tw758 : (.code yX5_readEither cX5_readEither 4 (some .boolean) : Cond) ∈ TBG := List.mem_filter.mpr ⟨in_t3 _ (List.mem_of_getElem? (i := 168) rfl), rfl⟩
theorem tw759 : (.methodLink RX5 79 yX5_readBoth : Cond) ∈ TBG := TBG_mem (i := 759) (by decide +kernel) rfl
theorem tw761 : (.instanceMethod yX5_readBoth : Cond) ∈ TBG := TBG_mem (i := 761) (by decide +kernel) rfl
set_option maxRecDepth 20000 in
theorem tw762 : (.code yX5_readBoth cX5_readBoth 4 (some .boolean) : Cond) ∈ TBG := List.mem_filter.mpr ⟨in_t3 _ (List.mem_of_getElem? (i := 172) rfl), rfl⟩
theorem tw763 : (.methodLink RX5 89 yX5_readTest : Cond) ∈ TBG := TBG_mem (i := 763) (by decide +kernel) rfl
theorem tw765 : (.instanceMethod yX5_readTest : Cond) ∈ TBG := TBG_mem (i := 765) (by decide +kernel) rfl
set_option maxRecDepth 20000 in
theorem tw766 : (.code yX5_readTest cX5_readTest 4 (some .boolean) : Cond) ∈ TBG := List.mem_filter.mpr ⟨in_t3 _ (List.mem_of_getElem? (i := 176) rfl), rfl⟩
theorem tw767 : (.methodLink RX5 95 yX5_readInner : Cond) ∈ TBG := TBG_mem (i := 767) (by decide +kernel) rfl
theorem tw769 : (.instanceMethod yX5_readInner : Cond) ∈ TBG := TBG_mem (i := 769) (by decide +kernel) rfl
set_option maxRecDepth 20000 in
theorem tw770 : (.code yX5_readInner cX5_readInner 3 (some .boolean) : Cond) ∈ TBG := List.mem_filter.mpr ⟨in_t3 _ (List.mem_of_getElem? (i := 180) rfl), rfl⟩
theorem tw771 : (.methodLink RX5 82 yX5_emitJump : Cond) ∈ TBG := TBG_mem (i := 771) (by decide +kernel) rfl
theorem tw773 : (.instanceMethod yX5_emitJump : Cond) ∈ TBG := TBG_mem (i := 773) (by decide +kernel) rfl
set_option maxRecDepth 20000 in
theorem tw774 : (.code yX5_emitJump cX5_emitJump 3 (some .int) : Cond) ∈ TBG := List.mem_filter.mpr ⟨in_t3 _ (List.mem_of_getElem? (i := 184) rfl), rfl⟩
theorem tw775 : (.methodLink RX5 86 yX5_land : Cond) ∈ TBG := TBG_mem (i := 775) (by decide +kernel) rfl
theorem tw777 : (.instanceMethod yX5_land : Cond) ∈ TBG := TBG_mem (i := 777) (by decide +kernel) rfl
set_option maxRecDepth 20000 in
theorem tw778 : (.code yX5_land cX5_land 2 (none) : Cond) ∈ TBG := List.mem_filter.mpr ⟨in_t3 _ (List.mem_of_getElem? (i := 188) rfl), rfl⟩
theorem tw779 : (.methodLink RX11 153 yX4_copyFrom : Cond) ∈ TBG := TBG_mem (i := 779) (by decide +kernel) rfl
theorem tw780 : (.instanceMethod yX4_copyFrom : Cond) ∈ TBG := TBG_mem (i := 780) (by decide +kernel) rfl
theorem tw781 : (.selects RX4 yX4_copyFrom yX4_copyFrom : Cond) ∈ TBG := TBG_mem (i := 781) (by decide +kernel) rfl
set_option maxRecDepth 20000 in
theorem tw782 : (.code yX4_copyFrom cX4_copyFrom 2 (none) : Cond) ∈ TBG := List.mem_filter.mpr ⟨in_t3 _ (List.mem_of_getElem? (i := 192) rfl), rfl⟩
theorem tw783 : (.methodLink RX4 31 ⟨"java/lang/System", "arraycopy", "(Ljava/lang/Object;ILjava/lang/Object;II)V"⟩ : Cond) ∈ TBG := TBG_mem (i := 783) (by decide +kernel) rfl
theorem tw784 : (.static ⟨"java/lang/System", "arraycopy", "(Ljava/lang/Object;ILjava/lang/Object;II)V"⟩ : Cond) ∈ TBG := TBG_mem (i := 784) (by decide +kernel) rfl
theorem tw785 : (.native ⟨"java/lang/System", "arraycopy", "(Ljava/lang/Object;ILjava/lang/Object;II)V"⟩ : Cond) ∈ TBG := TBG_mem (i := 785) (by decide +kernel) rfl
theorem tw787 : (.methodLink RL 42 yX11_edge : Cond) ∈ TBG := TBG_mem (i := 787) (by decide +kernel) rfl
theorem tw788 : (.instanceMethod yX11_edge : Cond) ∈ TBG := TBG_mem (i := 788) (by decide +kernel) rfl
theorem tw789 : (.selects RX11 yX11_edge yX11_edge : Cond) ∈ TBG := TBG_mem (i := 789) (by decide +kernel) rfl
set_option maxRecDepth 20000 in
theorem tw790 : (.code yX11_edge cX11_edge 6 (some .int) : Cond) ∈ TBG := List.mem_filter.mpr ⟨in_t3 _ (List.mem_of_getElem? (i := 200) rfl), rfl⟩
theorem tw791 : (.methodLink RX11 159 yX6_readEdge : Cond) ∈ TBG := TBG_mem (i := 791) (by decide +kernel) rfl
theorem tw792 : (.instanceMethod yX6_readEdge : Cond) ∈ TBG := TBG_mem (i := 792) (by decide +kernel) rfl
theorem tw793 : (.selects RX6 yX6_readEdge yX6_readEdge : Cond) ∈ TBG := TBG_mem (i := 793) (by decide +kernel) rfl
set_option maxRecDepth 20000 in
theorem tw794 : (.code yX6_readEdge cX6_readEdge 4 (some .boolean) : Cond) ∈ TBG := List.mem_filter.mpr ⟨in_t3 _ (List.mem_of_getElem? (i := 204) rfl), rfl⟩
theorem tw795 : (.methodLink RX6 15 ⟨"PuzzleWed$ListReader", "begin", "(I)V"⟩ : Cond) ∈ TBG := TBG_mem (i := 795) (by decide +kernel) rfl
theorem tw796 : (.sameMethod RX6 RX7 "begin" "(I)V" : Cond) ∈ TBG := TBG_mem (i := 796) (by decide +kernel) rfl
theorem tw797 : (.selects RX6 ⟨"PuzzleWed$ListReader", "begin", "(I)V"⟩ yX7_begin : Cond) ∈ TBG := TBG_mem (i := 797) (by decide +kernel) rfl
theorem tw798 : (.methodLink RX6 26 yX6_readHeight : Cond) ∈ TBG := TBG_mem (i := 798) (by decide +kernel) rfl
theorem tw800 : (.instanceMethod yX6_readHeight : Cond) ∈ TBG := TBG_mem (i := 800) (by decide +kernel) rfl
set_option maxRecDepth 20000 in
theorem tw801 : (.code yX6_readHeight cX6_readHeight 3 (some .boolean) : Cond) ∈ TBG := List.mem_filter.mpr ⟨in_t3 _ (List.mem_of_getElem? (i := 211) rfl), rfl⟩
theorem tw802 : (.methodLink RX6 51 ⟨"PuzzleWed$ListReader", "sign", "()I"⟩ : Cond) ∈ TBG := TBG_mem (i := 802) (by decide +kernel) rfl
theorem tw803 : (.sameMethod RX6 RX7 "sign" "()I" : Cond) ∈ TBG := TBG_mem (i := 803) (by decide +kernel) rfl
theorem tw804 : (.selects RX6 ⟨"PuzzleWed$ListReader", "sign", "()I"⟩ yX7_sign : Cond) ∈ TBG := TBG_mem (i := 804) (by decide +kernel) rfl
theorem tw805 : (.methodLink RX6 48 ⟨"PuzzleWed$ListReader", "fail", "(I)Z"⟩ : Cond) ∈ TBG := TBG_mem (i := 805) (by decide +kernel) rfl
theorem tw806 : (.sameMethod RX6 RX7 "fail" "(I)Z" : Cond) ∈ TBG := TBG_mem (i := 806) (by decide +kernel) rfl
theorem tw807 : (.selects RX6 ⟨"PuzzleWed$ListReader", "fail", "(I)Z"⟩ yX7_fail : Cond) ∈ TBG := TBG_mem (i := 807) (by decide +kernel) rfl
theorem tw808 : (.methodLink RX6 30 yX6_readTimes : Cond) ∈ TBG := TBG_mem (i := 808) (by decide +kernel) rfl
theorem tw810 : (.instanceMethod yX6_readTimes : Cond) ∈ TBG := TBG_mem (i := 810) (by decide +kernel) rfl
set_option maxRecDepth 20000 in
theorem tw811 : (.code yX6_readTimes cX6_readTimes 3 (some .boolean) : Cond) ∈ TBG := List.mem_filter.mpr ⟨in_t3 _ (List.mem_of_getElem? (i := 221) rfl), rfl⟩
theorem tw812 : (.methodLink RX6 37 ⟨"PuzzleWed$ListReader", "failAt", "(II)Z"⟩ : Cond) ∈ TBG := TBG_mem (i := 812) (by decide +kernel) rfl
theorem tw813 : (.sameMethod RX6 RX7 "failAt" "(II)Z" : Cond) ∈ TBG := TBG_mem (i := 813) (by decide +kernel) rfl
theorem tw815 : (.selects RX6 ⟨"PuzzleWed$ListReader", "failAt", "(II)Z"⟩ yX7_failAt : Cond) ∈ TBG := TBG_mem (i := 815) (by decide +kernel) rfl
theorem tw816 : (.methodLink RX6 41 yX6_put : Cond) ∈ TBG := TBG_mem (i := 816) (by decide +kernel) rfl
theorem tw818 : (.instanceMethod yX6_put : Cond) ∈ TBG := TBG_mem (i := 818) (by decide +kernel) rfl
set_option maxRecDepth 20000 in
theorem tw819 : (.code yX6_put cX6_put 2 (none) : Cond) ∈ TBG := List.mem_filter.mpr ⟨in_t3 _ (List.mem_of_getElem? (i := 229) rfl), rfl⟩
theorem tw820 : (.methodLink RX6 45 ⟨"PuzzleWed$ListReader", "isEnd", "()Z"⟩ : Cond) ∈ TBG := TBG_mem (i := 820) (by decide +kernel) rfl
theorem tw821 : (.sameMethod RX6 RX7 "isEnd" "()Z" : Cond) ∈ TBG := TBG_mem (i := 821) (by decide +kernel) rfl
theorem tw822 : (.selects RX6 ⟨"PuzzleWed$ListReader", "isEnd", "()Z"⟩ yX7_isEnd : Cond) ∈ TBG := TBG_mem (i := 822) (by decide +kernel) rfl
theorem tw823 : (.methodLink RX11 170 yJ9_abs_0f7a4 : Cond) ∈ TBG := TBG_mem (i := 823) (by decide +kernel) rfl
theorem tw824 : (.static yJ9_abs_0f7a4 : Cond) ∈ TBG := TBG_mem (i := 824) (by decide +kernel) rfl
set_option maxRecDepth 20000 in
theorem tw825 : (.code yJ9_abs_0f7a4 cJ9_abs_0f7a4 1 (some .int) : Cond) ∈ TBG := List.mem_filter.mpr ⟨in_t3 _ (List.mem_of_getElem? (i := 235) rfl), rfl⟩
theorem tw826 : (.methodLink RL 47 yX11_journey : Cond) ∈ TBG := TBG_mem (i := 826) (by decide +kernel) rfl
theorem tw827 : (.instanceMethod yX11_journey : Cond) ∈ TBG := TBG_mem (i := 827) (by decide +kernel) rfl
theorem tw828 : (.selects RX11 yX11_journey yX11_journey : Cond) ∈ TBG := TBG_mem (i := 828) (by decide +kernel) rfl
set_option maxRecDepth 20000 in
theorem tw829 : (.code yX11_journey cX11_journey 4 (some .int) : Cond) ∈ TBG := List.mem_filter.mpr ⟨in_t3 _ (List.mem_of_getElem? (i := 239) rfl), rfl⟩
theorem tw830 : (.methodLink RX11 176 yX6_readWay : Cond) ∈ TBG := TBG_mem (i := 830) (by decide +kernel) rfl
theorem tw831 : (.instanceMethod yX6_readWay : Cond) ∈ TBG := TBG_mem (i := 831) (by decide +kernel) rfl
theorem tw832 : (.selects RX6 yX6_readWay yX6_readWay : Cond) ∈ TBG := TBG_mem (i := 832) (by decide +kernel) rfl
set_option maxRecDepth 20000 in
theorem tw833 : (.code yX6_readWay cX6_readWay 4 (some .boolean) : Cond) ∈ TBG := List.mem_filter.mpr ⟨in_t4 _ (List.mem_of_getElem? (i := 3) rfl), rfl⟩
theorem tw834 : (.methodLink RX11 182 ⟨"java/lang/System", "arraycopy", "(Ljava/lang/Object;ILjava/lang/Object;II)V"⟩ : Cond) ∈ TBG := TBG_mem (i := 834) (by decide +kernel) rfl
theorem tw835 : (.methodLink RL 51 yX11_days : Cond) ∈ TBG := TBG_mem (i := 835) (by decide +kernel) rfl
theorem tw836 : (.instanceMethod yX11_days : Cond) ∈ TBG := TBG_mem (i := 836) (by decide +kernel) rfl
theorem tw837 : (.selects RX11 yX11_days yX11_days : Cond) ∈ TBG := TBG_mem (i := 837) (by decide +kernel) rfl
set_option maxRecDepth 20000 in
theorem tw838 : (.code yX11_days cX11_days 2 (some .int) : Cond) ∈ TBG := List.mem_filter.mpr ⟨in_t4 _ (List.mem_of_getElem? (i := 8) rfl), rfl⟩
theorem tw839 : (.methodLink RX11 197 yX1_pass : Cond) ∈ TBG := TBG_mem (i := 839) (by decide +kernel) rfl
theorem tw840 : (.instanceMethod yX1_pass : Cond) ∈ TBG := TBG_mem (i := 840) (by decide +kernel) rfl
theorem tw841 : (.selects RX1 yX1_pass yX1_pass : Cond) ∈ TBG := TBG_mem (i := 841) (by decide +kernel) rfl
set_option maxRecDepth 20000 in
theorem tw842 : (.code yX1_pass cX1_pass 4 (none) : Cond) ∈ TBG := List.mem_filter.mpr ⟨in_t4 _ (List.mem_of_getElem? (i := 12) rfl), rfl⟩
theorem tw843 : (.methodLink RX1 30 yX1_travel : Cond) ∈ TBG := TBG_mem (i := 843) (by decide +kernel) rfl
theorem tw845 : (.instanceMethod yX1_travel : Cond) ∈ TBG := TBG_mem (i := 845) (by decide +kernel) rfl
set_option maxRecDepth 20000 in
theorem tw846 : (.code yX1_travel cX1_travel 4 (none) : Cond) ∈ TBG := List.mem_filter.mpr ⟨in_t4 _ (List.mem_of_getElem? (i := 16) rfl), rfl⟩
theorem tw847 : (.methodLink RX1 44 yX3_isFree : Cond) ∈ TBG := TBG_mem (i := 847) (by decide +kernel) rfl
theorem tw848 : (.methodLink RX1 34 yX1_meet : Cond) ∈ TBG := TBG_mem (i := 848) (by decide +kernel) rfl
theorem tw850 : (.instanceMethod yX1_meet : Cond) ∈ TBG := TBG_mem (i := 850) (by decide +kernel) rfl
set_option maxRecDepth 20000 in
theorem tw851 : (.code yX1_meet cX1_meet 6 (none) : Cond) ∈ TBG := List.mem_filter.mpr ⟨in_t4 _ (List.mem_of_getElem? (i := 21) rfl), rfl⟩
theorem tw852 : (.methodLink RX1 58 yX1_nextFor : Cond) ∈ TBG := TBG_mem (i := 852) (by decide +kernel) rfl
theorem tw853 : (.static yX1_nextFor : Cond) ∈ TBG := TBG_mem (i := 853) (by decide +kernel) rfl
set_option maxRecDepth 20000 in
theorem tw854 : (.code yX1_nextFor cX1_nextFor 4 (some .int) : Cond) ∈ TBG := List.mem_filter.mpr ⟨in_t4 _ (List.mem_of_getElem? (i := 24) rfl), rfl⟩
theorem tw855 : (.methodLink RX1 84 yX3_hasTried : Cond) ∈ TBG := TBG_mem (i := 855) (by decide +kernel) rfl
theorem tw856 : (.instanceMethod yX3_hasTried : Cond) ∈ TBG := TBG_mem (i := 856) (by decide +kernel) rfl
theorem tw857 : (.selects RX3 yX3_hasTried yX3_hasTried : Cond) ∈ TBG := TBG_mem (i := 857) (by decide +kernel) rfl
set_option maxRecDepth 20000 in
theorem tw858 : (.code yX3_hasTried cX3_hasTried 3 (some .boolean) : Cond) ∈ TBG := List.mem_filter.mpr ⟨in_t4 _ (List.mem_of_getElem? (i := 28) rfl), rfl⟩
theorem tw859 : (.methodLink RX1 62 yX3_markTried : Cond) ∈ TBG := TBG_mem (i := 859) (by decide +kernel) rfl
theorem tw860 : (.instanceMethod yX3_markTried : Cond) ∈ TBG := TBG_mem (i := 860) (by decide +kernel) rfl
theorem tw861 : (.selects RX3 yX3_markTried yX3_markTried : Cond) ∈ TBG := TBG_mem (i := 861) (by decide +kernel) rfl
set_option maxRecDepth 20000 in
theorem tw862 : (.code yX3_markTried cX3_markTried 3 (none) : Cond) ∈ TBG := List.mem_filter.mpr ⟨in_t4 _ (List.mem_of_getElem? (i := 32) rfl), rfl⟩
theorem tw863 : (.methodLink RX1 66 yX2_fit : Cond) ∈ TBG := TBG_mem (i := 863) (by decide +kernel) rfl
theorem tw864 : (.instanceMethod yX2_fit : Cond) ∈ TBG := TBG_mem (i := 864) (by decide +kernel) rfl
theorem tw865 : (.selects RX2 yX2_fit yX2_fit : Cond) ∈ TBG := TBG_mem (i := 865) (by decide +kernel) rfl
set_option maxRecDepth 20000 in
theorem tw866 : (.code yX2_fit cX2_fit 5 (some .boolean) : Cond) ∈ TBG := List.mem_filter.mpr ⟨in_t4 _ (List.mem_of_getElem? (i := 36) rfl), rfl⟩
theorem tw867 : (.methodLink RX2 48 yX2_slackOf : Cond) ∈ TBG := TBG_mem (i := 867) (by decide +kernel) rfl
theorem tw868 : (.instanceMethod yX2_slackOf : Cond) ∈ TBG := TBG_mem (i := 868) (by decide +kernel) rfl
theorem tw869 : (.selects RX2 yX2_slackOf yX2_slackOf : Cond) ∈ TBG := TBG_mem (i := 869) (by decide +kernel) rfl
set_option maxRecDepth 20000 in
theorem tw870 : (.code yX2_slackOf cX2_slackOf 9 (some .int) : Cond) ∈ TBG := List.mem_filter.mpr ⟨in_t4 _ (List.mem_of_getElem? (i := 40) rfl), rfl⟩
theorem tw871 : (.methodLink RX2 34 yX2_gap : Cond) ∈ TBG := TBG_mem (i := 871) (by decide +kernel) rfl
theorem tw872 : (.static yX2_gap : Cond) ∈ TBG := TBG_mem (i := 872) (by decide +kernel) rfl
set_option maxRecDepth 20000 in
theorem tw873 : (.code yX2_gap cX2_gap 4 (some .int) : Cond) ∈ TBG := List.mem_filter.mpr ⟨in_t4 _ (List.mem_of_getElem? (i := 43) rfl), rfl⟩
theorem tw874 : (.methodLink RX2 19 yJ9_abs_0f7a4 : Cond) ∈ TBG := TBG_mem (i := 874) (by decide +kernel) rfl
theorem tw875 : (.methodLink RX2 41 yJ9_max_7cf53 : Cond) ∈ TBG := TBG_mem (i := 875) (by decide +kernel) rfl
theorem tw876 : (.methodLink RX2 45 yJ9_min_7cf53 : Cond) ∈ TBG := TBG_mem (i := 876) (by decide +kernel) rfl
theorem tw877 : (.methodLink RX2 52 yX2_allowance : Cond) ∈ TBG := TBG_mem (i := 877) (by decide +kernel) rfl
theorem tw878 : (.instanceMethod yX2_allowance : Cond) ∈ TBG := TBG_mem (i := 878) (by decide +kernel) rfl
theorem tw879 : (.selects RX2 yX2_allowance yX2_allowance : Cond) ∈ TBG := TBG_mem (i := 879) (by decide +kernel) rfl
set_option maxRecDepth 20000 in
theorem tw880 : (.code yX2_allowance cX2_allowance 5 (some .int) : Cond) ∈ TBG := List.mem_filter.mpr ⟨in_t4 _ (List.mem_of_getElem? (i := 50) rfl), rfl⟩
theorem tw881 : (.methodLink RX2 55 yX2_isFirst : Cond) ∈ TBG := TBG_mem (i := 881) (by decide +kernel) rfl
theorem tw882 : (.static yX2_isFirst : Cond) ∈ TBG := TBG_mem (i := 882) (by decide +kernel) rfl
set_option maxRecDepth 20000 in
theorem tw883 : (.code yX2_isFirst cX2_isFirst 3 (some .boolean) : Cond) ∈ TBG := List.mem_filter.mpr ⟨in_t4 _ (List.mem_of_getElem? (i := 53) rfl), rfl⟩
theorem tw885 : (.methodLink RX2 59 yX2_rule : Cond) ∈ TBG := TBG_mem (i := 885) (by decide +kernel) rfl
theorem tw886 : (.instanceMethod yX2_rule : Cond) ∈ TBG := TBG_mem (i := 886) (by decide +kernel) rfl
theorem tw887 : (.selects RX2 yX2_rule yX2_rule : Cond) ∈ TBG := TBG_mem (i := 887) (by decide +kernel) rfl
set_option maxRecDepth 20000 in
theorem tw888 : (.code yX2_rule cX2_rule 8 (some .int) : Cond) ∈ TBG := List.mem_filter.mpr ⟨in_t4 _ (List.mem_of_getElem? (i := 58) rfl), rfl⟩
theorem tw889 : (.methodLink RX2 73 yX2_fill : Cond) ∈ TBG := TBG_mem (i := 889) (by decide +kernel) rfl
theorem tw891 : (.instanceMethod yX2_fill : Cond) ∈ TBG := TBG_mem (i := 891) (by decide +kernel) rfl
set_option maxRecDepth 20000 in
theorem tw892 : (.code yX2_fill cX2_fill 5 (none) : Cond) ∈ TBG := List.mem_filter.mpr ⟨in_t4 _ (List.mem_of_getElem? (i := 62) rfl), rfl⟩
theorem tw893 : (.methodLink RX2 96 yJ7_fill_53178 : Cond) ∈ TBG := TBG_mem (i := 893) (by decide +kernel) rfl
theorem tw894 : (.static yJ7_fill_53178 : Cond) ∈ TBG := TBG_mem (i := 894) (by decide +kernel) rfl
set_option maxRecDepth 20000 in
theorem tw895 : (.code yJ7_fill_53178 cJ7_fill_53178 4 (none) : Cond) ∈ TBG := List.mem_filter.mpr ⟨in_t4 _ (List.mem_of_getElem? (i := 65) rfl), rfl⟩
theorem tw896 : (.methodLink RX2 101 yX3_piecesOf : Cond) ∈ TBG := TBG_mem (i := 896) (by decide +kernel) rfl
theorem tw897 : (.instanceMethod yX3_piecesOf : Cond) ∈ TBG := TBG_mem (i := 897) (by decide +kernel) rfl
theorem tw898 : (.selects RX3 yX3_piecesOf yX3_piecesOf : Cond) ∈ TBG := TBG_mem (i := 898) (by decide +kernel) rfl
set_option maxRecDepth 20000 in
theorem tw899 : (.code yX3_piecesOf cX3_piecesOf 4 (some .int) : Cond) ∈ TBG := List.mem_filter.mpr ⟨in_t4 _ (List.mem_of_getElem? (i := 69) rfl), rfl⟩
theorem tw900 : (.methodLink RX2 104 yJ6_bitCount_0f7a4 : Cond) ∈ TBG := TBG_mem (i := 900) (by decide +kernel) rfl
theorem tw901 : (.static yJ6_bitCount_0f7a4 : Cond) ∈ TBG := TBG_mem (i := 901) (by decide +kernel) rfl
set_option maxRecDepth 20000 in
theorem tw902 : (.code yJ6_bitCount_0f7a4 cJ6_bitCount_0f7a4 1 (some .int) : Cond) ∈ TBG := List.mem_filter.mpr ⟨in_t4 _ (List.mem_of_getElem? (i := 72) rfl), rfl⟩
theorem tw903 : (.constant RJ6 265 (1431655765) : Cond) ∈ TBG := TBG_mem (i := 903) (by decide +kernel) rfl
theorem tw904 : (.constant RJ6 266 (858993459) : Cond) ∈ TBG := TBG_mem (i := 904) (by decide +kernel) rfl
theorem tw905 : (.constant RJ6 267 (252645135) : Cond) ∈ TBG := TBG_mem (i := 905) (by decide +kernel) rfl
theorem tw906 : (.methodLink RX2 89 yX4_run : Cond) ∈ TBG := TBG_mem (i := 906) (by decide +kernel) rfl
theorem tw907 : (.instanceMethod yX4_run : Cond) ∈ TBG := TBG_mem (i := 907) (by decide +kernel) rfl
theorem tw908 : (.selects RX4 yX4_run yX4_run : Cond) ∈ TBG := TBG_mem (i := 908) (by decide +kernel) rfl
set_option maxRecDepth 20000 in
theorem tw909 : (.code yX4_run cX4_run 9 (some .int) : Cond) ∈ TBG := List.mem_filter.mpr ⟨in_t4 _ (List.mem_of_getElem? (i := 79) rfl), rfl⟩
theorem tw910 : (.methodLink RX4 40 yX4_valueOf : Cond) ∈ TBG := TBG_mem (i := 910) (by decide +kernel) rfl
theorem tw911 : (.static yX4_valueOf : Cond) ∈ TBG := TBG_mem (i := 911) (by decide +kernel) rfl
set_option maxRecDepth 20000 in
theorem tw912 : (.code yX4_valueOf cX4_valueOf 2 (some .int) : Cond) ∈ TBG := List.mem_filter.mpr ⟨in_t4 _ (List.mem_of_getElem? (i := 82) rfl), rfl⟩
theorem tw913 : (.methodLink RX4 44 yX4_reckon : Cond) ∈ TBG := TBG_mem (i := 913) (by decide +kernel) rfl
theorem tw914 : (.static yX4_reckon : Cond) ∈ TBG := TBG_mem (i := 914) (by decide +kernel) rfl
set_option maxRecDepth 20000 in
theorem tw915 : (.code yX4_reckon cX4_reckon 3 (some .int) : Cond) ∈ TBG := List.mem_filter.mpr ⟨in_t4 _ (List.mem_of_getElem? (i := 85) rfl), rfl⟩
theorem tw916 : (.methodLink RX1 72 yX3_join : Cond) ∈ TBG := TBG_mem (i := 916) (by decide +kernel) rfl
theorem tw917 : (.methodLink RX1 75 yX2_wearOf : Cond) ∈ TBG := TBG_mem (i := 917) (by decide +kernel) rfl
theorem tw918 : (.instanceMethod yX2_wearOf : Cond) ∈ TBG := TBG_mem (i := 918) (by decide +kernel) rfl
theorem tw919 : (.selects RX2 yX2_wearOf yX2_wearOf : Cond) ∈ TBG := TBG_mem (i := 919) (by decide +kernel) rfl
set_option maxRecDepth 20000 in
theorem tw920 : (.code yX2_wearOf cX2_wearOf 6 (some .int) : Cond) ∈ TBG := List.mem_filter.mpr ⟨in_t4 _ (List.mem_of_getElem? (i := 90) rfl), rfl⟩
theorem tw921 : (.methodLink RX1 78 yX3_wearDown : Cond) ∈ TBG := TBG_mem (i := 921) (by decide +kernel) rfl
theorem tw922 : (.instanceMethod yX3_wearDown : Cond) ∈ TBG := TBG_mem (i := 922) (by decide +kernel) rfl
theorem tw923 : (.selects RX3 yX3_wearDown yX3_wearDown : Cond) ∈ TBG := TBG_mem (i := 923) (by decide +kernel) rfl
set_option maxRecDepth 20000 in
theorem tw924 : (.code yX3_wearDown cX3_wearDown 4 (none) : Cond) ∈ TBG := List.mem_filter.mpr ⟨in_t4 _ (List.mem_of_getElem? (i := 94) rfl), rfl⟩
theorem tw925 : (.methodLink RX3 68 yJ9_min_7cf53 : Cond) ∈ TBG := TBG_mem (i := 925) (by decide +kernel) rfl
theorem tw926 : (.methodLink RX1 37 yX1_strain : Cond) ∈ TBG := TBG_mem (i := 926) (by decide +kernel) rfl
theorem tw928 : (.instanceMethod yX1_strain : Cond) ∈ TBG := TBG_mem (i := 928) (by decide +kernel) rfl
set_option maxRecDepth 20000 in
theorem tw929 : (.code yX1_strain cX1_strain 5 (none) : Cond) ∈ TBG := List.mem_filter.mpr ⟨in_t4 _ (List.mem_of_getElem? (i := 99) rfl), rfl⟩
theorem tw931 : (.methodLink RX1 94 yX2_slackOf : Cond) ∈ TBG := TBG_mem (i := 931) (by decide +kernel) rfl
theorem tw932 : (.methodLink RX1 97 yX3_draw : Cond) ∈ TBG := TBG_mem (i := 932) (by decide +kernel) rfl
theorem tw933 : (.instanceMethod yX3_draw : Cond) ∈ TBG := TBG_mem (i := 933) (by decide +kernel) rfl
theorem tw934 : (.selects RX3 yX3_draw yX3_draw : Cond) ∈ TBG := TBG_mem (i := 934) (by decide +kernel) rfl
set_option maxRecDepth 20000 in
theorem tw935 : (.code yX3_draw cX3_draw 1 (some .int) : Cond) ∈ TBG := List.mem_filter.mpr ⟨in_t4 _ (List.mem_of_getElem? (i := 105) rfl), rfl⟩
theorem tw936 : (.constant RX3 74 (65535) : Cond) ∈ TBG := TBG_mem (i := 936) (by decide +kernel) rfl
theorem tw937 : (.methodLink RX1 101 yX2_rule : Cond) ∈ TBG := TBG_mem (i := 937) (by decide +kernel) rfl
theorem tw938 : (.methodLink RX1 108 yJ9_min_7cf53 : Cond) ∈ TBG := TBG_mem (i := 938) (by decide +kernel) rfl
theorem tw939 : (.methodLink RX1 114 yX3_separate : Cond) ∈ TBG := TBG_mem (i := 939) (by decide +kernel) rfl
theorem tw940 : (.methodLink RL 55 yX11_tried : Cond) ∈ TBG := TBG_mem (i := 940) (by decide +kernel) rfl
theorem tw941 : (.instanceMethod yX11_tried : Cond) ∈ TBG := TBG_mem (i := 941) (by decide +kernel) rfl
theorem tw942 : (.selects RX11 yX11_tried yX11_tried : Cond) ∈ TBG := TBG_mem (i := 942) (by decide +kernel) rfl
set_option maxRecDepth 20000 in
theorem tw943 : (.code yX11_tried cX11_tried 6 (some .int) : Cond) ∈ TBG := List.mem_filter.mpr ⟨in_t4 _ (List.mem_of_getElem? (i := 113) rfl), rfl⟩
theorem tw944 : (.methodLink RX11 204 yX3_copyFrom : Cond) ∈ TBG := TBG_mem (i := 944) (by decide +kernel) rfl
theorem tw945 : (.instanceMethod yX3_copyFrom : Cond) ∈ TBG := TBG_mem (i := 945) (by decide +kernel) rfl
theorem tw946 : (.selects RX3 yX3_copyFrom yX3_copyFrom : Cond) ∈ TBG := TBG_mem (i := 946) (by decide +kernel) rfl
set_option maxRecDepth 20000 in
theorem tw947 : (.code yX3_copyFrom cX3_copyFrom 3 (none) : Cond) ∈ TBG := List.mem_filter.mpr ⟨in_t4 _ (List.mem_of_getElem? (i := 117) rfl), rfl⟩
theorem tw948 : (.methodLink RX3 78 ⟨"java/lang/System", "arraycopy", "(Ljava/lang/Object;ILjava/lang/Object;II)V"⟩ : Cond) ∈ TBG := TBG_mem (i := 948) (by decide +kernel) rfl
theorem tw949 : (.methodLink RX11 216 yX3_countTwos : Cond) ∈ TBG := TBG_mem (i := 949) (by decide +kernel) rfl
theorem tw950 : (.instanceMethod yX3_countTwos : Cond) ∈ TBG := TBG_mem (i := 950) (by decide +kernel) rfl
theorem tw951 : (.selects RX3 yX3_countTwos yX3_countTwos : Cond) ∈ TBG := TBG_mem (i := 951) (by decide +kernel) rfl
set_option maxRecDepth 20000 in
theorem tw952 : (.code yX3_countTwos cX3_countTwos 3 (some .int) : Cond) ∈ TBG := List.mem_filter.mpr ⟨in_t4 _ (List.mem_of_getElem? (i := 122) rfl), rfl⟩
theorem tw953 : (.methodLink RL 59 yX11_personIs : Cond) ∈ TBG := TBG_mem (i := 953) (by decide +kernel) rfl
theorem tw954 : (.instanceMethod yX11_personIs : Cond) ∈ TBG := TBG_mem (i := 954) (by decide +kernel) rfl
theorem tw955 : (.selects RX11 yX11_personIs yX11_personIs : Cond) ∈ TBG := TBG_mem (i := 955) (by decide +kernel) rfl
set_option maxRecDepth 20000 in
theorem tw956 : (.code yX11_personIs cX11_personIs 3 (some .int) : Cond) ∈ TBG := List.mem_filter.mpr ⟨in_t4 _ (List.mem_of_getElem? (i := 126) rfl), rfl⟩
theorem tw957 : (.methodLink RX11 223 yX3_piecesOf : Cond) ∈ TBG := TBG_mem (i := 957) (by decide +kernel) rfl
theorem tw958 : (.methodLink RX11 226 yX11_whomItFits : Cond) ∈ TBG := TBG_mem (i := 958) (by decide +kernel) rfl
theorem tw960 : (.instanceMethod yX11_whomItFits : Cond) ∈ TBG := TBG_mem (i := 960) (by decide +kernel) rfl
set_option maxRecDepth 20000 in
theorem tw961 : (.code yX11_whomItFits cX11_whomItFits 4 (some .int) : Cond) ∈ TBG := List.mem_filter.mpr ⟨in_t4 _ (List.mem_of_getElem? (i := 131) rfl), rfl⟩
theorem tw962 : (.methodLink RX11 232 yX2_fit : Cond) ∈ TBG := TBG_mem (i := 962) (by decide +kernel) rfl
theorem tw963 : (.methodLink RL 63 yX11_piece : Cond) ∈ TBG := TBG_mem (i := 963) (by decide +kernel) rfl
theorem tw964 : (.instanceMethod yX11_piece : Cond) ∈ TBG := TBG_mem (i := 964) (by decide +kernel) rfl
theorem tw965 : (.selects RX11 yX11_piece yX11_piece : Cond) ∈ TBG := TBG_mem (i := 965) (by decide +kernel) rfl
set_option maxRecDepth 20000 in
theorem tw966 : (.code yX11_piece cX11_piece 3 (some .int) : Cond) ∈ TBG := List.mem_filter.mpr ⟨in_t4 _ (List.mem_of_getElem? (i := 136) rfl), rfl⟩
theorem tw967 : (.methodLink RL 67 yX11_slack : Cond) ∈ TBG := TBG_mem (i := 967) (by decide +kernel) rfl
theorem tw968 : (.instanceMethod yX11_slack : Cond) ∈ TBG := TBG_mem (i := 968) (by decide +kernel) rfl
theorem tw969 : (.selects RX11 yX11_slack yX11_slack : Cond) ∈ TBG := TBG_mem (i := 969) (by decide +kernel) rfl
set_option maxRecDepth 20000 in
theorem tw970 : (.code yX11_slack cX11_slack 5 (some .int) : Cond) ∈ TBG := List.mem_filter.mpr ⟨in_t4 _ (List.mem_of_getElem? (i := 140) rfl), rfl⟩
theorem tw971 : (.methodLink RX11 239 yX2_slackOf : Cond) ∈ TBG := TBG_mem (i := 971) (by decide +kernel) rfl
theorem tw972 : (.methodLink RX11 243 yX2_liking : Cond) ∈ TBG := TBG_mem (i := 972) (by decide +kernel) rfl
theorem tw973 : (.instanceMethod yX2_liking : Cond) ∈ TBG := TBG_mem (i := 973) (by decide +kernel) rfl
theorem tw974 : (.selects RX2 yX2_liking yX2_liking : Cond) ∈ TBG := TBG_mem (i := 974) (by decide +kernel) rfl
set_option maxRecDepth 20000 in
theorem tw975 : (.code yX2_liking cX2_liking 4 (some .int) : Cond) ∈ TBG := List.mem_filter.mpr ⟨in_t4 _ (List.mem_of_getElem? (i := 145) rfl), rfl⟩
theorem tw976 : (.methodLink RL 72 yX11_locks : Cond) ∈ TBG := TBG_mem (i := 976) (by decide +kernel) rfl
theorem tw977 : (.instanceMethod yX11_locks : Cond) ∈ TBG := TBG_mem (i := 977) (by decide +kernel) rfl
theorem tw978 : (.selects RX11 yX11_locks yX11_locks : Cond) ∈ TBG := TBG_mem (i := 978) (by decide +kernel) rfl
set_option maxRecDepth 20000 in
theorem tw979 : (.code yX11_locks cX11_locks 8 (some .int) : Cond) ∈ TBG := List.mem_filter.mpr ⟨in_t4 _ (List.mem_of_getElem? (i := 149) rfl), rfl⟩
theorem tw980 : (.methodLink RX11 246 yX11_fitsAbove : Cond) ∈ TBG := TBG_mem (i := 980) (by decide +kernel) rfl
theorem tw982 : (.instanceMethod yX11_fitsAbove : Cond) ∈ TBG := TBG_mem (i := 982) (by decide +kernel) rfl
set_option maxRecDepth 20000 in
theorem tw983 : (.code yX11_fitsAbove cX11_fitsAbove 4 (some .int) : Cond) ∈ TBG := List.mem_filter.mpr ⟨in_t4 _ (List.mem_of_getElem? (i := 153) rfl), rfl⟩
theorem tw984 : (.methodLink RX11 249 yX11_lowestOf : Cond) ∈ TBG := TBG_mem (i := 984) (by decide +kernel) rfl
theorem tw985 : (.static yX11_lowestOf : Cond) ∈ TBG := TBG_mem (i := 985) (by decide +kernel) rfl
set_option maxRecDepth 20000 in
theorem tw986 : (.code yX11_lowestOf cX11_lowestOf 2 (some .int) : Cond) ∈ TBG := List.mem_filter.mpr ⟨in_t4 _ (List.mem_of_getElem? (i := 156) rfl), rfl⟩
theorem tw987 : (.methodLink RX11 252 yJ6_bitCount_0f7a4 : Cond) ∈ TBG := TBG_mem (i := 987) (by decide +kernel) rfl
theorem tw988 : (.methodLink RL 76 yX11_most : Cond) ∈ TBG := TBG_mem (i := 988) (by decide +kernel) rfl
theorem tw989 : (.instanceMethod yX11_most : Cond) ∈ TBG := TBG_mem (i := 989) (by decide +kernel) rfl
theorem tw990 : (.selects RX11 yX11_most yX11_most : Cond) ∈ TBG := TBG_mem (i := 990) (by decide +kernel) rfl
set_option maxRecDepth 20000 in
theorem tw991 : (.code yX11_most cX11_most 3 (some .int) : Cond) ∈ TBG := List.mem_filter.mpr ⟨in_t4 _ (List.mem_of_getElem? (i := 161) rfl), rfl⟩
theorem tw992 : (.methodLink RX11 257 yX0_findMost : Cond) ∈ TBG := TBG_mem (i := 992) (by decide +kernel) rfl
theorem tw993 : (.instanceMethod yX0_findMost : Cond) ∈ TBG := TBG_mem (i := 993) (by decide +kernel) rfl
theorem tw994 : (.selects RX0 yX0_findMost yX0_findMost : Cond) ∈ TBG := TBG_mem (i := 994) (by decide +kernel) rfl
set_option maxRecDepth 20000 in
theorem tw995 : (.code yX0_findMost cX0_findMost 5 (none) : Cond) ∈ TBG := List.mem_filter.mpr ⟨in_t4 _ (List.mem_of_getElem? (i := 165) rfl), rfl⟩
theorem tw996 : (.methodLink RX0 58 yX0_gather : Cond) ∈ TBG := TBG_mem (i := 996) (by decide +kernel) rfl
theorem tw998 : (.instanceMethod yX0_gather : Cond) ∈ TBG := TBG_mem (i := 998) (by decide +kernel) rfl
set_option maxRecDepth 20000 in
theorem tw999 : (.code yX0_gather cX0_gather 3 (none) : Cond) ∈ TBG := List.mem_filter.mpr ⟨in_t4 _ (List.mem_of_getElem? (i := 169) rfl), rfl⟩
theorem tw1000 : (.methodLink RX0 49 yX3_isAlive : Cond) ∈ TBG := TBG_mem (i := 1000) (by decide +kernel) rfl
theorem tw1001 : (.methodLink RX0 62 yX2_fit : Cond) ∈ TBG := TBG_mem (i := 1001) (by decide +kernel) rfl
theorem tw1002 : (.methodLink RX0 68 yX2_slackOf : Cond) ∈ TBG := TBG_mem (i := 1002) (by decide +kernel) rfl
theorem tw1003 : (.methodLink RX0 72 yX0_weighAll : Cond) ∈ TBG := TBG_mem (i := 1003) (by decide +kernel) rfl
theorem tw1005 : (.instanceMethod yX0_weighAll : Cond) ∈ TBG := TBG_mem (i := 1005) (by decide +kernel) rfl
set_option maxRecDepth 20000 in
theorem tw1006 : (.code yX0_weighAll cX0_weighAll 6 (none) : Cond) ∈ TBG := List.mem_filter.mpr ⟨in_t4 _ (List.mem_of_getElem? (i := 176) rfl), rfl⟩
theorem tw1007 : (.methodLink RX0 79 yX0_setBest : Cond) ∈ TBG := TBG_mem (i := 1007) (by decide +kernel) rfl
theorem tw1009 : (.instanceMethod yX0_setBest : Cond) ∈ TBG := TBG_mem (i := 1009) (by decide +kernel) rfl
set_option maxRecDepth 20000 in
theorem tw1010 : (.code yX0_setBest cX0_setBest 5 (none) : Cond) ∈ TBG := List.mem_filter.mpr ⟨in_t4 _ (List.mem_of_getElem? (i := 180) rfl), rfl⟩
theorem tw1011 : (.methodLink RX0 83 yX0_bestOf : Cond) ∈ TBG := TBG_mem (i := 1011) (by decide +kernel) rfl
theorem tw1013 : (.instanceMethod yX0_bestOf : Cond) ∈ TBG := TBG_mem (i := 1013) (by decide +kernel) rfl
set_option maxRecDepth 20000 in
theorem tw1014 : (.code yX0_bestOf cX0_bestOf 4 (some .int) : Cond) ∈ TBG := List.mem_filter.mpr ⟨in_t4 _ (List.mem_of_getElem? (i := 184) rfl), rfl⟩
theorem tw1015 : (.methodLink RX0 86 yX0_withBond : Cond) ∈ TBG := TBG_mem (i := 1015) (by decide +kernel) rfl
theorem tw1017 : (.instanceMethod yX0_withBond : Cond) ∈ TBG := TBG_mem (i := 1017) (by decide +kernel) rfl
set_option maxRecDepth 20000 in
theorem tw1018 : (.code yX0_withBond cX0_withBond 4 (some .int) : Cond) ∈ TBG := List.mem_filter.mpr ⟨in_t4 _ (List.mem_of_getElem? (i := 188) rfl), rfl⟩
theorem tw1019 : (.methodLink RX0 90 yJ9_max_7cf53 : Cond) ∈ TBG := TBG_mem (i := 1019) (by decide +kernel) rfl
theorem tw1020 : (.methodLink RX0 75 yX0_choose : Cond) ∈ TBG := TBG_mem (i := 1020) (by decide +kernel) rfl
theorem tw1022 : (.instanceMethod yX0_choose : Cond) ∈ TBG := TBG_mem (i := 1022) (by decide +kernel) rfl
set_option maxRecDepth 20000 in
theorem tw1023 : (.code yX0_choose cX0_choose 4 (some .int) : Cond) ∈ TBG := List.mem_filter.mpr ⟨in_t4 _ (List.mem_of_getElem? (i := 193) rfl), rfl⟩
theorem tw1024 : (.methodLink RL 80 yX11_stable : Cond) ∈ TBG := TBG_mem (i := 1024) (by decide +kernel) rfl
theorem tw1025 : (.instanceMethod yX11_stable : Cond) ∈ TBG := TBG_mem (i := 1025) (by decide +kernel) rfl
theorem tw1026 : (.selects RX11 yX11_stable yX11_stable : Cond) ∈ TBG := TBG_mem (i := 1026) (by decide +kernel) rfl
set_option maxRecDepth 20000 in
theorem tw1027 : (.code yX11_stable cX11_stable 3 (some .int) : Cond) ∈ TBG := List.mem_filter.mpr ⟨in_t4 _ (List.mem_of_getElem? (i := 197) rfl), rfl⟩
theorem tw1028 : (.methodLink RX11 269 yX0_findStable : Cond) ∈ TBG := TBG_mem (i := 1028) (by decide +kernel) rfl
theorem tw1029 : (.instanceMethod yX0_findStable : Cond) ∈ TBG := TBG_mem (i := 1029) (by decide +kernel) rfl
theorem tw1030 : (.selects RX0 yX0_findStable yX0_findStable : Cond) ∈ TBG := TBG_mem (i := 1030) (by decide +kernel) rfl
set_option maxRecDepth 20000 in
theorem tw1031 : (.code yX0_findStable cX0_findStable 7 (none) : Cond) ∈ TBG := List.mem_filter.mpr ⟨in_t4 _ (List.mem_of_getElem? (i := 201) rfl), rfl⟩
theorem tw1032 : (.methodLink RX0 95 yX2_liking : Cond) ∈ TBG := TBG_mem (i := 1032) (by decide +kernel) rfl
theorem tw1033 : (.methodLink RX0 98 yX0_askNext : Cond) ∈ TBG := TBG_mem (i := 1033) (by decide +kernel) rfl
theorem tw1035 : (.instanceMethod yX0_askNext : Cond) ∈ TBG := TBG_mem (i := 1035) (by decide +kernel) rfl
set_option maxRecDepth 20000 in
theorem tw1036 : (.code yX0_askNext cX0_askNext 6 (some .boolean) : Cond) ∈ TBG := List.mem_filter.mpr ⟨in_t4 _ (List.mem_of_getElem? (i := 206) rfl), rfl⟩
theorem tw1037 : (.methodLink RX0 101 yX0_prefers : Cond) ∈ TBG := TBG_mem (i := 1037) (by decide +kernel) rfl
theorem tw1039 : (.instanceMethod yX0_prefers : Cond) ∈ TBG := TBG_mem (i := 1039) (by decide +kernel) rfl
set_option maxRecDepth 20000 in
theorem tw1040 : (.code yX0_prefers cX0_prefers 4 (some .boolean) : Cond) ∈ TBG := List.mem_filter.mpr ⟨in_t4 _ (List.mem_of_getElem? (i := 210) rfl), rfl⟩
theorem tw1041 : (.methodLink RL 84 yX11_unrest : Cond) ∈ TBG := TBG_mem (i := 1041) (by decide +kernel) rfl
theorem tw1042 : (.instanceMethod yX11_unrest : Cond) ∈ TBG := TBG_mem (i := 1042) (by decide +kernel) rfl
theorem tw1043 : (.selects RX11 yX11_unrest yX11_unrest : Cond) ∈ TBG := TBG_mem (i := 1043) (by decide +kernel) rfl
set_option maxRecDepth 20000 in
theorem tw1044 : (.code yX11_unrest cX11_unrest 6 (some .int) : Cond) ∈ TBG := List.mem_filter.mpr ⟨in_t4 _ (List.mem_of_getElem? (i := 214) rfl), rfl⟩
theorem tw1045 : (.methodLink RX11 272 yX11_wouldLeave : Cond) ∈ TBG := TBG_mem (i := 1045) (by decide +kernel) rfl
theorem tw1047 : (.instanceMethod yX11_wouldLeave : Cond) ∈ TBG := TBG_mem (i := 1047) (by decide +kernel) rfl
set_option maxRecDepth 20000 in
theorem tw1048 : (.code yX11_wouldLeave cX11_wouldLeave 3 (some .boolean) : Cond) ∈ TBG := List.mem_filter.mpr ⟨in_t4 _ (List.mem_of_getElem? (i := 218) rfl), rfl⟩
theorem tw1049 : (.methodLink RX11 276 yX11_likingNow : Cond) ∈ TBG := TBG_mem (i := 1049) (by decide +kernel) rfl
theorem tw1051 : (.instanceMethod yX11_likingNow : Cond) ∈ TBG := TBG_mem (i := 1051) (by decide +kernel) rfl
set_option maxRecDepth 20000 in
theorem tw1052 : (.code yX11_likingNow cX11_likingNow 3 (some .int) : Cond) ∈ TBG := List.mem_filter.mpr ⟨in_t4 _ (List.mem_of_getElem? (i := 222) rfl), rfl⟩
theorem tw1053 : (.methodLink RL 88 yX11_search : Cond) ∈ TBG := TBG_mem (i := 1053) (by decide +kernel) rfl
theorem tw1054 : (.instanceMethod yX11_search : Cond) ∈ TBG := TBG_mem (i := 1054) (by decide +kernel) rfl
theorem tw1055 : (.selects RX11 yX11_search yX11_search : Cond) ∈ TBG := TBG_mem (i := 1055) (by decide +kernel) rfl
set_option maxRecDepth 20000 in
theorem tw1056 : (.code yX11_search cX11_search 5 (some .int) : Cond) ∈ TBG := List.mem_filter.mpr ⟨in_t4 _ (List.mem_of_getElem? (i := 226) rfl), rfl⟩
theorem tw1057 : (.methodLink RX11 279 yX9_accept : Cond) ∈ TBG := TBG_mem (i := 1057) (by decide +kernel) rfl
theorem tw1058 : (.instanceMethod yX9_accept : Cond) ∈ TBG := TBG_mem (i := 1058) (by decide +kernel) rfl
theorem tw1059 : (.selects RX9 yX9_accept yX9_accept : Cond) ∈ TBG := TBG_mem (i := 1059) (by decide +kernel) rfl
set_option maxRecDepth 20000 in
theorem tw1060 : (.code yX9_accept cX9_accept 5 (some .boolean) : Cond) ∈ TBG := List.mem_filter.mpr ⟨in_t4 _ (List.mem_of_getElem? (i := 230) rfl), rfl⟩
theorem tw1061 : (.methodLink RX9 30 yJ9_min_7cf53 : Cond) ∈ TBG := TBG_mem (i := 1061) (by decide +kernel) rfl
theorem tw1062 : (.methodLink RX9 36 yJ9_max_7cf53 : Cond) ∈ TBG := TBG_mem (i := 1062) (by decide +kernel) rfl
theorem tw1063 : (.methodLink RX11 282 yX9_find : Cond) ∈ TBG := TBG_mem (i := 1063) (by decide +kernel) rfl
theorem tw1064 : (.instanceMethod yX9_find : Cond) ∈ TBG := TBG_mem (i := 1064) (by decide +kernel) rfl
theorem tw1065 : (.selects RX9 yX9_find yX9_find : Cond) ∈ TBG := TBG_mem (i := 1065) (by decide +kernel) rfl
set_option maxRecDepth 20000 in
theorem tw1066 : (.code yX9_find cX9_find 3 (none) : Cond) ∈ TBG := List.mem_filter.mpr ⟨in_t4 _ (List.mem_of_getElem? (i := 236) rfl), rfl⟩
theorem tw1067 : (.methodLink RX9 54 yX9_weigh : Cond) ∈ TBG := TBG_mem (i := 1067) (by decide +kernel) rfl
theorem tw1069 : (.instanceMethod yX9_weigh : Cond) ∈ TBG := TBG_mem (i := 1069) (by decide +kernel) rfl
set_option maxRecDepth 20000 in
theorem tw1070 : (.code yX9_weigh cX9_weigh 4 (none) : Cond) ∈ TBG := List.mem_filter.mpr ⟨in_t5 _ (List.mem_of_getElem? (i := 0) rfl), rfl⟩
theorem tw1071 : (.methodLink RX9 61 ⟨"java/lang/System", "arraycopy", "(Ljava/lang/Object;ILjava/lang/Object;II)V"⟩ : Cond) ∈ TBG := TBG_mem (i := 1071) (by decide +kernel) rfl
theorem tw1072 : (.methodLink RX9 57 yX9_nextOrder : Cond) ∈ TBG := TBG_mem (i := 1072) (by decide +kernel) rfl
theorem tw1074 : (.instanceMethod yX9_nextOrder : Cond) ∈ TBG := TBG_mem (i := 1074) (by decide +kernel) rfl
set_option maxRecDepth 20000 in
theorem tw1075 : (.code yX9_nextOrder cX9_nextOrder 5 (some .boolean) : Cond) ∈ TBG := List.mem_filter.mpr ⟨in_t5 _ (List.mem_of_getElem? (i := 5) rfl), rfl⟩
theorem tw1076 : (.methodLink RX9 67 yX9_swap : Cond) ∈ TBG := TBG_mem (i := 1076) (by decide +kernel) rfl
theorem tw1078 : (.instanceMethod yX9_swap : Cond) ∈ TBG := TBG_mem (i := 1078) (by decide +kernel) rfl
set_option maxRecDepth 20000 in
theorem tw1079 : (.code yX9_swap cX9_swap 4 (none) : Cond) ∈ TBG := List.mem_filter.mpr ⟨in_t5 _ (List.mem_of_getElem? (i := 9) rfl), rfl⟩
theorem tw1080 : (.methodLink RX11 288 yX9_above : Cond) ∈ TBG := TBG_mem (i := 1080) (by decide +kernel) rfl
theorem tw1081 : (.instanceMethod yX9_above : Cond) ∈ TBG := TBG_mem (i := 1081) (by decide +kernel) rfl
theorem tw1082 : (.selects RX9 yX9_above yX9_above : Cond) ∈ TBG := TBG_mem (i := 1082) (by decide +kernel) rfl
set_option maxRecDepth 20000 in
theorem tw1083 : (.code yX9_above cX9_above 2 (some .int) : Cond) ∈ TBG := List.mem_filter.mpr ⟨in_t5 _ (List.mem_of_getElem? (i := 13) rfl), rfl⟩
theorem tw1084 : (.methodLink RX9 71 yX9_commonDivisor : Cond) ∈ TBG := TBG_mem (i := 1084) (by decide +kernel) rfl
theorem tw1086 : (.instanceMethod yX9_commonDivisor : Cond) ∈ TBG := TBG_mem (i := 1086) (by decide +kernel) rfl
set_option maxRecDepth 20000 in
theorem tw1087 : (.code yX9_commonDivisor cX9_commonDivisor 5 (some .int) : Cond) ∈ TBG := List.mem_filter.mpr ⟨in_t5 _ (List.mem_of_getElem? (i := 17) rfl), rfl⟩
theorem tw1088 : (.methodLink RX11 291 yX9_below : Cond) ∈ TBG := TBG_mem (i := 1088) (by decide +kernel) rfl
theorem tw1089 : (.instanceMethod yX9_below : Cond) ∈ TBG := TBG_mem (i := 1089) (by decide +kernel) rfl
theorem tw1090 : (.selects RX9 yX9_below yX9_below : Cond) ∈ TBG := TBG_mem (i := 1090) (by decide +kernel) rfl
set_option maxRecDepth 20000 in
theorem tw1091 : (.code yX9_below cX9_below 2 (some .int) : Cond) ∈ TBG := List.mem_filter.mpr ⟨in_t5 _ (List.mem_of_getElem? (i := 21) rfl), rfl⟩
theorem tw1092 : (.methodLink RL 92 yX11_sanding : Cond) ∈ TBG := TBG_mem (i := 1092) (by decide +kernel) rfl
theorem tw1093 : (.instanceMethod yX11_sanding : Cond) ∈ TBG := TBG_mem (i := 1093) (by decide +kernel) rfl
theorem tw1094 : (.selects RX11 yX11_sanding yX11_sanding : Cond) ∈ TBG := TBG_mem (i := 1094) (by decide +kernel) rfl
set_option maxRecDepth 20000 in
theorem tw1095 : (.code yX11_sanding cX11_sanding 11 (some .int) : Cond) ∈ TBG := List.mem_filter.mpr ⟨in_t5 _ (List.mem_of_getElem? (i := 25) rfl), rfl⟩
theorem tw1096 : (.methodLink RX11 294 yX11_canSand : Cond) ∈ TBG := TBG_mem (i := 1096) (by decide +kernel) rfl
theorem tw1098 : (.instanceMethod yX11_canSand : Cond) ∈ TBG := TBG_mem (i := 1098) (by decide +kernel) rfl
set_option maxRecDepth 20000 in
theorem tw1099 : (.code yX11_canSand cX11_canSand 4 (some .boolean) : Cond) ∈ TBG := List.mem_filter.mpr ⟨in_t5 _ (List.mem_of_getElem? (i := 29) rfl), rfl⟩
theorem tw1100 : (.methodLink RX11 298 yX8_sand : Cond) ∈ TBG := TBG_mem (i := 1100) (by decide +kernel) rfl
theorem tw1101 : (.instanceMethod yX8_sand : Cond) ∈ TBG := TBG_mem (i := 1101) (by decide +kernel) rfl
theorem tw1102 : (.selects RX8 yX8_sand yX8_sand : Cond) ∈ TBG := TBG_mem (i := 1102) (by decide +kernel) rfl
set_option maxRecDepth 20000 in
theorem tw1103 : (.code yX8_sand cX8_sand 14 (none) : Cond) ∈ TBG := List.mem_filter.mpr ⟨in_t5 _ (List.mem_of_getElem? (i := 33) rfl), rfl⟩
theorem tw1104 : (.methodLink RX8 28 yJ9_min_7cf53 : Cond) ∈ TBG := TBG_mem (i := 1104) (by decide +kernel) rfl
theorem tw1105 : (.methodLink RX8 34 yJ9_max_7cf53 : Cond) ∈ TBG := TBG_mem (i := 1105) (by decide +kernel) rfl
theorem tw1106 : (.methodLink RX8 37 yJ7_fill_d0a16 : Cond) ∈ TBG := TBG_mem (i := 1106) (by decide +kernel) rfl
theorem tw1107 : (.static yJ7_fill_d0a16 : Cond) ∈ TBG := TBG_mem (i := 1107) (by decide +kernel) rfl
set_option maxRecDepth 20000 in
theorem tw1108 : (.code yJ7_fill_d0a16 cJ7_fill_d0a16 5 (none) : Cond) ∈ TBG := List.mem_filter.mpr ⟨in_t5 _ (List.mem_of_getElem? (i := 38) rfl), rfl⟩
theorem tw1109 : (.methodLink RX8 43 yX8_weigh : Cond) ∈ TBG := TBG_mem (i := 1109) (by decide +kernel) rfl
theorem tw1111 : (.instanceMethod yX8_weigh : Cond) ∈ TBG := TBG_mem (i := 1111) (by decide +kernel) rfl
set_option maxRecDepth 20000 in
theorem tw1112 : (.code yX8_weigh cX8_weigh 8 (none) : Cond) ∈ TBG := List.mem_filter.mpr ⟨in_t5 _ (List.mem_of_getElem? (i := 42) rfl), rfl⟩
theorem tw1113 : (.methodLink RX8 70 yJ9_abs_0f7a4 : Cond) ∈ TBG := TBG_mem (i := 1113) (by decide +kernel) rfl
theorem tw1114 : (.constantLong RX8 74 (16983563041) : Cond) ∈ TBG := TBG_mem (i := 1114) (by decide +kernel) rfl
theorem tw1115 : (.methodLink RX8 47 yJ7_fill_53178 : Cond) ∈ TBG := TBG_mem (i := 1115) (by decide +kernel) rfl
theorem tw1116 : (.methodLink RX8 50 yX8_bestHere : Cond) ∈ TBG := TBG_mem (i := 1116) (by decide +kernel) rfl
theorem tw1118 : (.instanceMethod yX8_bestHere : Cond) ∈ TBG := TBG_mem (i := 1118) (by decide +kernel) rfl
set_option maxRecDepth 20000 in
theorem tw1119 : (.code yX8_bestHere cX8_bestHere 8 (some .long) : Cond) ∈ TBG := List.mem_filter.mpr ⟨in_t5 _ (List.mem_of_getElem? (i := 49) rfl), rfl⟩
theorem tw1120 : (.constantLong RX8 76 (4611686018427387904) : Cond) ∈ TBG := TBG_mem (i := 1120) (by decide +kernel) rfl
theorem tw1121 : (.methodLink RX8 56 yX8_leastOf : Cond) ∈ TBG := TBG_mem (i := 1121) (by decide +kernel) rfl
theorem tw1123 : (.instanceMethod yX8_leastOf : Cond) ∈ TBG := TBG_mem (i := 1123) (by decide +kernel) rfl
set_option maxRecDepth 20000 in
theorem tw1124 : (.code yX8_leastOf cX8_leastOf 3 (some .long) : Cond) ∈ TBG := List.mem_filter.mpr ⟨in_t5 _ (List.mem_of_getElem? (i := 54) rfl), rfl⟩
theorem tw1125 : (.methodLink RX8 78 yJ9_min_f86c9 : Cond) ∈ TBG := TBG_mem (i := 1125) (by decide +kernel) rfl
theorem tw1126 : (.static yJ9_min_f86c9 : Cond) ∈ TBG := TBG_mem (i := 1126) (by decide +kernel) rfl
set_option maxRecDepth 20000 in
theorem tw1127 : (.code yJ9_min_f86c9 cJ9_min_f86c9 4 (some .long) : Cond) ∈ TBG := List.mem_filter.mpr ⟨in_t5 _ (List.mem_of_getElem? (i := 57) rfl), rfl⟩
theorem tw1128 : (.constantLong RX8 54 (19) : Cond) ∈ TBG := TBG_mem (i := 1128) (by decide +kernel) rfl
theorem tw1129 : (.methodLink RX8 59 yX8_read : Cond) ∈ TBG := TBG_mem (i := 1129) (by decide +kernel) rfl
theorem tw1131 : (.instanceMethod yX8_read : Cond) ∈ TBG := TBG_mem (i := 1131) (by decide +kernel) rfl
set_option maxRecDepth 20000 in
theorem tw1132 : (.code yX8_read cX8_read 6 (none) : Cond) ∈ TBG := List.mem_filter.mpr ⟨in_t5 _ (List.mem_of_getElem? (i := 62) rfl), rfl⟩
theorem tw1133 : (.methodLink RX11 311 yX11_fitOthers : Cond) ∈ TBG := TBG_mem (i := 1133) (by decide +kernel) rfl
theorem tw1135 : (.instanceMethod yX11_fitOthers : Cond) ∈ TBG := TBG_mem (i := 1135) (by decide +kernel) rfl
set_option maxRecDepth 20000 in
theorem tw1136 : (.code yX11_fitOthers cX11_fitOthers 7 (some .int) : Cond) ∈ TBG := List.mem_filter.mpr ⟨in_t5 _ (List.mem_of_getElem? (i := 66) rfl), rfl⟩
theorem tw1137 : (.methodLink RX11 315 yX2_gap : Cond) ∈ TBG := TBG_mem (i := 1137) (by decide +kernel) rfl
theorem tw1138 : (.methodLink RL 97 yX11_steaming : Cond) ∈ TBG := TBG_mem (i := 1138) (by decide +kernel) rfl
theorem tw1139 : (.instanceMethod yX11_steaming : Cond) ∈ TBG := TBG_mem (i := 1139) (by decide +kernel) rfl
theorem tw1140 : (.selects RX11 yX11_steaming yX11_steaming : Cond) ∈ TBG := TBG_mem (i := 1140) (by decide +kernel) rfl
set_option maxRecDepth 20000 in
theorem tw1141 : (.code yX11_steaming cX11_steaming 5 (some .int) : Cond) ∈ TBG := List.mem_filter.mpr ⟨in_t5 _ (List.mem_of_getElem? (i := 71) rfl), rfl⟩
theorem tw1142 : (.methodLink RX11 319 yX8_steam : Cond) ∈ TBG := TBG_mem (i := 1142) (by decide +kernel) rfl
theorem tw1143 : (.instanceMethod yX8_steam : Cond) ∈ TBG := TBG_mem (i := 1143) (by decide +kernel) rfl
theorem tw1144 : (.selects RX8 yX8_steam yX8_steam : Cond) ∈ TBG := TBG_mem (i := 1144) (by decide +kernel) rfl
set_option maxRecDepth 20000 in
theorem tw1145 : (.code yX8_steam cX8_steam 9 (none) : Cond) ∈ TBG := List.mem_filter.mpr ⟨in_t5 _ (List.mem_of_getElem? (i := 75) rfl), rfl⟩
theorem tw1146 : (.methodLink RX8 88 yX2_gap : Cond) ∈ TBG := TBG_mem (i := 1146) (by decide +kernel) rfl
theorem tw1147 : (.methodLink RL 102 yX11_worn : Cond) ∈ TBG := TBG_mem (i := 1147) (by decide +kernel) rfl
theorem tw1148 : (.instanceMethod yX11_worn : Cond) ∈ TBG := TBG_mem (i := 1148) (by decide +kernel) rfl
theorem tw1149 : (.selects RX11 yX11_worn yX11_worn : Cond) ∈ TBG := TBG_mem (i := 1149) (by decide +kernel) rfl
set_option maxRecDepth 20000 in
theorem tw1150 : (.code yX11_worn cX11_worn 7 (some .int) : Cond) ∈ TBG := List.mem_filter.mpr ⟨in_t5 _ (List.mem_of_getElem? (i := 80) rfl), rfl⟩
theorem tw1151 : (.methodLink RX11 329 yX2_allowance : Cond) ∈ TBG := TBG_mem (i := 1151) (by decide +kernel) rfl
theorem tw1152 : (.methodLink RX11 332 yX2_wearOf : Cond) ∈ TBG := TBG_mem (i := 1152) (by decide +kernel) rfl
theorem tw1153 : (.methodLink RX11 335 yX3_wearDown : Cond) ∈ TBG := TBG_mem (i := 1153) (by decide +kernel) rfl
theorem tw1154 : (.methodLink RL 106 yX11_cutter : Cond) ∈ TBG := TBG_mem (i := 1154) (by decide +kernel) rfl
theorem tw1155 : (.instanceMethod yX11_cutter : Cond) ∈ TBG := TBG_mem (i := 1155) (by decide +kernel) rfl
theorem tw1156 : (.selects RX11 yX11_cutter yX11_cutter : Cond) ∈ TBG := TBG_mem (i := 1156) (by decide +kernel) rfl
set_option maxRecDepth 20000 in
theorem tw1157 : (.code yX11_cutter cX11_cutter 7 (some .int) : Cond) ∈ TBG := List.mem_filter.mpr ⟨in_t5 _ (List.mem_of_getElem? (i := 87) rfl), rfl⟩
theorem tw1158 : (.methodLink RX11 341 yX11_rulesAll : Cond) ∈ TBG := TBG_mem (i := 1158) (by decide +kernel) rfl
theorem tw1160 : (.instanceMethod yX11_rulesAll : Cond) ∈ TBG := TBG_mem (i := 1160) (by decide +kernel) rfl
set_option maxRecDepth 20000 in
theorem tw1161 : (.code yX11_rulesAll cX11_rulesAll 6 (some .boolean) : Cond) ∈ TBG := List.mem_filter.mpr ⟨in_t5 _ (List.mem_of_getElem? (i := 91) rfl), rfl⟩
theorem tw1162 : (.methodLink RX11 348 yX11_cut : Cond) ∈ TBG := TBG_mem (i := 1162) (by decide +kernel) rfl
theorem tw1164 : (.instanceMethod yX11_cut : Cond) ∈ TBG := TBG_mem (i := 1164) (by decide +kernel) rfl
set_option maxRecDepth 20000 in
theorem tw1165 : (.code yX11_cut cX11_cut 7 (none) : Cond) ∈ TBG := List.mem_filter.mpr ⟨in_t5 _ (List.mem_of_getElem? (i := 95) rfl), rfl⟩
theorem tw1166 : (.methodLink RX11 352 yX11_sameRow : Cond) ∈ TBG := TBG_mem (i := 1166) (by decide +kernel) rfl
theorem tw1167 : (.static yX11_sameRow : Cond) ∈ TBG := TBG_mem (i := 1167) (by decide +kernel) rfl
set_option maxRecDepth 20000 in
theorem tw1168 : (.code yX11_sameRow cX11_sameRow 3 (some .boolean) : Cond) ∈ TBG := List.mem_filter.mpr ⟨in_t5 _ (List.mem_of_getElem? (i := 98) rfl), rfl⟩
theorem tw1169 : (.methodLink RX11 344 yX11_madeBy : Cond) ∈ TBG := TBG_mem (i := 1169) (by decide +kernel) rfl
theorem tw1171 : (.instanceMethod yX11_madeBy : Cond) ∈ TBG := TBG_mem (i := 1171) (by decide +kernel) rfl
set_option maxRecDepth 20000 in
theorem tw1172 : (.code yX11_madeBy cX11_madeBy 4 (some .int) : Cond) ∈ TBG := List.mem_filter.mpr ⟨in_t5 _ (List.mem_of_getElem? (i := 102) rfl), rfl⟩
theorem tw1173 : (.methodLink RL 110 yX11_copies : Cond) ∈ TBG := TBG_mem (i := 1173) (by decide +kernel) rfl
theorem tw1174 : (.instanceMethod yX11_copies : Cond) ∈ TBG := TBG_mem (i := 1174) (by decide +kernel) rfl
theorem tw1175 : (.selects RX11 yX11_copies yX11_copies : Cond) ∈ TBG := TBG_mem (i := 1175) (by decide +kernel) rfl
set_option maxRecDepth 20000 in
theorem tw1176 : (.code yX11_copies cX11_copies 7 (some .int) : Cond) ∈ TBG := List.mem_filter.mpr ⟨in_t5 _ (List.mem_of_getElem? (i := 106) rfl), rfl⟩
theorem tw1177 : (.methodLink RL 114 yX11_mate : Cond) ∈ TBG := TBG_mem (i := 1177) (by decide +kernel) rfl
theorem tw1178 : (.instanceMethod yX11_mate : Cond) ∈ TBG := TBG_mem (i := 1178) (by decide +kernel) rfl
theorem tw1179 : (.selects RX11 yX11_mate yX11_mate : Cond) ∈ TBG := TBG_mem (i := 1179) (by decide +kernel) rfl
set_option maxRecDepth 20000 in
theorem tw1180 : (.code yX11_mate cX11_mate 3 (some .int) : Cond) ∈ TBG := List.mem_filter.mpr ⟨in_t5 _ (List.mem_of_getElem? (i := 110) rfl), rfl⟩
theorem tw1181 : (.methodLink RL 118 yX11_seed : Cond) ∈ TBG := TBG_mem (i := 1181) (by decide +kernel) rfl
theorem tw1182 : (.instanceMethod yX11_seed : Cond) ∈ TBG := TBG_mem (i := 1182) (by decide +kernel) rfl
theorem tw1183 : (.selects RX11 yX11_seed yX11_seed : Cond) ∈ TBG := TBG_mem (i := 1183) (by decide +kernel) rfl
set_option maxRecDepth 20000 in
theorem tw1184 : (.code yX11_seed cX11_seed 2 (some .boolean) : Cond) ∈ TBG := List.mem_filter.mpr ⟨in_t5 _ (List.mem_of_getElem? (i := 114) rfl), rfl⟩
theorem tw1185 : (.constant RX11 356 (65535) : Cond) ∈ TBG := TBG_mem (i := 1185) (by decide +kernel) rfl
theorem tw1186 : (.methodLink RL 122 yX11_keep : Cond) ∈ TBG := TBG_mem (i := 1186) (by decide +kernel) rfl
theorem tw1187 : (.instanceMethod yX11_keep : Cond) ∈ TBG := TBG_mem (i := 1187) (by decide +kernel) rfl
theorem tw1188 : (.selects RX11 yX11_keep yX11_keep : Cond) ∈ TBG := TBG_mem (i := 1188) (by decide +kernel) rfl
set_option maxRecDepth 20000 in
theorem tw1189 : (.code yX11_keep cX11_keep 1 (some .int) : Cond) ∈ TBG := List.mem_filter.mpr ⟨in_t5 _ (List.mem_of_getElem? (i := 119) rfl), rfl⟩
theorem tw1190 : (.methodLink RL 127 yX11_undo : Cond) ∈ TBG := TBG_mem (i := 1190) (by decide +kernel) rfl
theorem tw1191 : (.instanceMethod yX11_undo : Cond) ∈ TBG := TBG_mem (i := 1191) (by decide +kernel) rfl
theorem tw1192 : (.selects RX11 yX11_undo yX11_undo : Cond) ∈ TBG := TBG_mem (i := 1192) (by decide +kernel) rfl
set_option maxRecDepth 20000 in
theorem tw1193 : (.code yX11_undo cX11_undo 1 (some .boolean) : Cond) ∈ TBG := List.mem_filter.mpr ⟨in_t5 _ (List.mem_of_getElem? (i := 123) rfl), rfl⟩
theorem tw1194 : (.methodLink RL 132 yX11_check : Cond) ∈ TBG := TBG_mem (i := 1194) (by decide +kernel) rfl
theorem tw1195 : (.instanceMethod yX11_check : Cond) ∈ TBG := TBG_mem (i := 1195) (by decide +kernel) rfl
theorem tw1196 : (.selects RX11 yX11_check yX11_check : Cond) ∈ TBG := TBG_mem (i := 1196) (by decide +kernel) rfl
set_option maxRecDepth 20000 in
theorem tw1197 : (.code yX11_check cX11_check 4 (some .int) : Cond) ∈ TBG := List.mem_filter.mpr ⟨in_t5 _ (List.mem_of_getElem? (i := 127) rfl), rfl⟩
theorem tw1198 : (.methodLink RL 136 yX11_count : Cond) ∈ TBG := TBG_mem (i := 1198) (by decide +kernel) rfl
theorem tw1199 : (.instanceMethod yX11_count : Cond) ∈ TBG := TBG_mem (i := 1199) (by decide +kernel) rfl
theorem tw1200 : (.selects RX11 yX11_count yX11_count : Cond) ∈ TBG := TBG_mem (i := 1200) (by decide +kernel) rfl
set_option maxRecDepth 20000 in
theorem tw1201 : (.code yX11_count cX11_count 2 (some .int) : Cond) ∈ TBG := List.mem_filter.mpr ⟨in_t5 _ (List.mem_of_getElem? (i := 131) rfl), rfl⟩
theorem tw1202 : (.methodLink RX11 363 yX3_whoIsIn : Cond) ∈ TBG := TBG_mem (i := 1202) (by decide +kernel) rfl
theorem tw1203 : (.instanceMethod yX3_whoIsIn : Cond) ∈ TBG := TBG_mem (i := 1203) (by decide +kernel) rfl
theorem tw1204 : (.selects RX3 yX3_whoIsIn yX3_whoIsIn : Cond) ∈ TBG := TBG_mem (i := 1204) (by decide +kernel) rfl
set_option maxRecDepth 20000 in
theorem tw1205 : (.code yX3_whoIsIn cX3_whoIsIn 4 (some .int) : Cond) ∈ TBG := List.mem_filter.mpr ⟨in_t5 _ (List.mem_of_getElem? (i := 135) rfl), rfl⟩
theorem tw1209 : (.instanceMethod yX12_init : Cond) ∈ TBG := TBG_mem (i := 1209) (by decide +kernel) rfl
set_option maxRecDepth 20000 in
theorem tw1210 : (.code yX12_init cX12_init 2 (none) : Cond) ∈ TBG := List.mem_filter.mpr ⟨in_t5 _ (List.mem_of_getElem? (i := 140) rfl), rfl⟩
theorem tw1212 : (.constant RX12 77 (53248) : Cond) ∈ TBG := TBG_mem (i := 1212) (by decide +kernel) rfl
theorem tw1213 : (.constant RX12 90 (33489) : Cond) ∈ TBG := TBG_mem (i := 1213) (by decide +kernel) rfl
theorem tw1214 : (.fieldLink RX12 7 "PuzzleWedModel" "now" "[I" : Cond) ∈ TBG := TBG_mem (i := 1214) (by decide +kernel) rfl
theorem tw1215 : (.fieldLink RX12 13 "PuzzleWedModel" "aside" "[I" : Cond) ∈ TBG := TBG_mem (i := 1215) (by decide +kernel) rfl
theorem tw1216 : (.fieldLink RX12 16 "PuzzleWedModel" "kept" "[I" : Cond) ∈ TBG := TBG_mem (i := 1216) (by decide +kernel) rfl
theorem tw1217 : (.fieldLink RX12 19 "PuzzleWedModel" "tape" "[B" : Cond) ∈ TBG := TBG_mem (i := 1217) (by decide +kernel) rfl
theorem tw1218 : (.fieldLink RX12 126 "PuzzleWedModel" "taped" "I" : Cond) ∈ TBG := TBG_mem (i := 1218) (by decide +kernel) rfl
theorem tw1219 : (.fieldLink RX12 133 "PuzzleWedModel" "place0" "I" : Cond) ∈ TBG := TBG_mem (i := 1219) (by decide +kernel) rfl
theorem tw1220 : (.fieldLink RX12 136 "PuzzleWedModel" "length0" "I" : Cond) ∈ TBG := TBG_mem (i := 1220) (by decide +kernel) rfl
theorem tw1221 : (.fieldLink RX12 143 "PuzzleWedModel" "fault" "I" : Cond) ∈ TBG := TBG_mem (i := 1221) (by decide +kernel) rfl
theorem tw1222 : (.fieldLink RX12 149 "PuzzleWedModel" "number0" "I" : Cond) ∈ TBG := TBG_mem (i := 1222) (by decide +kernel) rfl
theorem tw1223 : (.fieldLink RX12 160 "PuzzleWedModel" "open" "I" : Cond) ∈ TBG := TBG_mem (i := 1223) (by decide +kernel) rfl
theorem tw1224 : (.fieldLink RX12 156 "PuzzleWedModel" "codeMany" "I" : Cond) ∈ TBG := TBG_mem (i := 1224) (by decide +kernel) rfl
theorem tw1225 : (.fieldLink RX12 163 "PuzzleWedModel" "waiting" "I" : Cond) ∈ TBG := TBG_mem (i := 1225) (by decide +kernel) rfl
theorem tw1226 : (.fieldLink RX12 213 "PuzzleWedModel" "saidMany" "I" : Cond) ∈ TBG := TBG_mem (i := 1226) (by decide +kernel) rfl
theorem tw1227 : (.fieldLink RX12 225 "PuzzleWedModel" "clauses" "I" : Cond) ∈ TBG := TBG_mem (i := 1227) (by decide +kernel) rfl
theorem tw1228 : (.fieldLink RX12 23 "PuzzleWedModel" "said" "[I" : Cond) ∈ TBG := TBG_mem (i := 1228) (by decide +kernel) rfl
theorem tw1229 : (.fieldLink RX12 26 "PuzzleWedModel" "waitsAt" "[I" : Cond) ∈ TBG := TBG_mem (i := 1229) (by decide +kernel) rfl
theorem tw1230 : (.fieldLink RX12 29 "PuzzleWedModel" "saidLetter" "[I" : Cond) ∈ TBG := TBG_mem (i := 1230) (by decide +kernel) rfl
theorem tw1231 : (.fieldLink RX12 32 "PuzzleWedModel" "saidFrom" "[I" : Cond) ∈ TBG := TBG_mem (i := 1231) (by decide +kernel) rfl
theorem tw1232 : (.fieldLink RX12 35 "PuzzleWedModel" "saidHalf" "[I" : Cond) ∈ TBG := TBG_mem (i := 1232) (by decide +kernel) rfl
theorem tw1233 : (.fieldLink RX12 38 "PuzzleWedModel" "saidTo" "[I" : Cond) ∈ TBG := TBG_mem (i := 1233) (by decide +kernel) rfl
theorem tw1234 : (.fieldLink RX12 41 "PuzzleWedModel" "codes" "[I" : Cond) ∈ TBG := TBG_mem (i := 1234) (by decide +kernel) rfl
theorem tw1235 : (.fieldLink RX12 44 "PuzzleWedModel" "clauseOf" "[I" : Cond) ∈ TBG := TBG_mem (i := 1235) (by decide +kernel) rfl
theorem tw1236 : (.fieldLink RX12 47 "PuzzleWedModel" "codeFrom" "[I" : Cond) ∈ TBG := TBG_mem (i := 1236) (by decide +kernel) rfl
theorem tw1237 : (.fieldLink RX12 50 "PuzzleWedModel" "codeHalf" "[I" : Cond) ∈ TBG := TBG_mem (i := 1237) (by decide +kernel) rfl
theorem tw1238 : (.fieldLink RX12 53 "PuzzleWedModel" "codeTo" "[I" : Cond) ∈ TBG := TBG_mem (i := 1238) (by decide +kernel) rfl
theorem tw1239 : (.fieldLink RX12 56 "PuzzleWedModel" "stack" "[I" : Cond) ∈ TBG := TBG_mem (i := 1239) (by decide +kernel) rfl
theorem tw1240 : (.fieldLink RX12 59 "PuzzleWedModel" "facts" "[I" : Cond) ∈ TBG := TBG_mem (i := 1240) (by decide +kernel) rfl
theorem tw1241 : (.fieldLink RX12 62 "PuzzleWedModel" "newHeight" "[I" : Cond) ∈ TBG := TBG_mem (i := 1241) (by decide +kernel) rfl
theorem tw1242 : (.fieldLink RX12 65 "PuzzleWedModel" "newStop" "[I" : Cond) ∈ TBG := TBG_mem (i := 1242) (by decide +kernel) rfl
theorem tw1243 : (.fieldLink RX12 268 "PuzzleWedModel" "newMany" "I" : Cond) ∈ TBG := TBG_mem (i := 1243) (by decide +kernel) rfl
theorem tw1244 : (.fieldLink RX12 274 "PuzzleWedModel" "stops" "I" : Cond) ∈ TBG := TBG_mem (i := 1244) (by decide +kernel) rfl
theorem tw1245 : (.fieldLink RX12 289 "PuzzleWedModel" "wedNow" "I" : Cond) ∈ TBG := TBG_mem (i := 1245) (by decide +kernel) rfl
theorem tw1246 : (.fieldLink RX12 280 "PuzzleWedModel" "triesNow" "I" : Cond) ∈ TBG := TBG_mem (i := 1246) (by decide +kernel) rfl
theorem tw1247 : (.fieldLink RX12 302 "PuzzleWedModel" "partsNow" "I" : Cond) ∈ TBG := TBG_mem (i := 1247) (by decide +kernel) rfl
theorem tw1248 : (.fieldLink RX12 68 "PuzzleWedModel" "fitOf" "[I" : Cond) ∈ TBG := TBG_mem (i := 1248) (by decide +kernel) rfl
theorem tw1249 : (.fieldLink RX12 71 "PuzzleWedModel" "slackNow" "[I" : Cond) ∈ TBG := TBG_mem (i := 1249) (by decide +kernel) rfl
theorem tw1250 : (.fieldLink RX12 74 "PuzzleWedModel" "likeOf" "[I" : Cond) ∈ TBG := TBG_mem (i := 1250) (by decide +kernel) rfl
theorem tw1251 : (.fieldLink RX12 78 "PuzzleWedModel" "bestOf" "[I" : Cond) ∈ TBG := TBG_mem (i := 1251) (by decide +kernel) rfl
theorem tw1252 : (.fieldLink RX12 81 "PuzzleWedModel" "askedBy" "[I" : Cond) ∈ TBG := TBG_mem (i := 1252) (by decide +kernel) rfl
theorem tw1253 : (.fieldLink RX12 84 "PuzzleWedModel" "getOf" "[I" : Cond) ∈ TBG := TBG_mem (i := 1253) (by decide +kernel) rfl
theorem tw1254 : (.fieldLink RX12 87 "PuzzleWedModel" "rowNow" "[I" : Cond) ∈ TBG := TBG_mem (i := 1254) (by decide +kernel) rfl
theorem tw1255 : (.fieldLink RX12 91 "PuzzleWedModel" "workOf" "[I" : Cond) ∈ TBG := TBG_mem (i := 1255) (by decide +kernel) rfl
theorem tw1256 : (.fieldLink RX12 94 "PuzzleWedModel" "sanded" "[I" : Cond) ∈ TBG := TBG_mem (i := 1256) (by decide +kernel) rfl
theorem tw1257 : (.fieldLink RX12 379 "PuzzleWedModel" "sandPiece" "I" : Cond) ∈ TBG := TBG_mem (i := 1257) (by decide +kernel) rfl
theorem tw1258 : (.fieldLink RX12 370 "PuzzleWedModel" "sandA" "I" : Cond) ∈ TBG := TBG_mem (i := 1258) (by decide +kernel) rfl
theorem tw1259 : (.fieldLink RX12 373 "PuzzleWedModel" "sandB" "I" : Cond) ∈ TBG := TBG_mem (i := 1259) (by decide +kernel) rfl
theorem tw1260 : (.fieldLink RX12 408 "PuzzleWedModel" "isKept" "Z" : Cond) ∈ TBG := TBG_mem (i := 1260) (by decide +kernel) rfl
theorem tw1356 : (.methodLink RL 17 yX12_person : Cond) ∈ TBG := TBG_mem (i := 1356) (by decide +kernel) rfl
theorem tw1357 : (.instanceMethod yX12_person : Cond) ∈ TBG := TBG_mem (i := 1357) (by decide +kernel) rfl
theorem tw1358 : (.selects RX12 yX12_person yX12_person : Cond) ∈ TBG := TBG_mem (i := 1358) (by decide +kernel) rfl
set_option maxRecDepth 20000 in
theorem tw1359 : (.code yX12_person cX12_person 4 (some .boolean) : Cond) ∈ TBG := List.mem_filter.mpr ⟨in_t6 _ (List.mem_of_getElem? (i := 49) rfl), rfl⟩
theorem tw1360 : (.methodLink RX12 97 yX12_isTwelve : Cond) ∈ TBG := TBG_mem (i := 1360) (by decide +kernel) rfl
theorem tw1361 : (.static yX12_isTwelve : Cond) ∈ TBG := TBG_mem (i := 1361) (by decide +kernel) rfl
set_option maxRecDepth 20000 in
theorem tw1362 : (.code yX12_isTwelve cX12_isTwelve 1 (some .boolean) : Cond) ∈ TBG := List.mem_filter.mpr ⟨in_t6 _ (List.mem_of_getElem? (i := 52) rfl), rfl⟩
theorem tw1363 : (.methodLink RX12 105 yX12_isPerson : Cond) ∈ TBG := TBG_mem (i := 1363) (by decide +kernel) rfl
theorem tw1365 : (.instanceMethod yX12_isPerson : Cond) ∈ TBG := TBG_mem (i := 1365) (by decide +kernel) rfl
set_option maxRecDepth 20000 in
theorem tw1366 : (.code yX12_isPerson cX12_isPerson 2 (some .boolean) : Cond) ∈ TBG := List.mem_filter.mpr ⟨in_t6 _ (List.mem_of_getElem? (i := 56) rfl), rfl⟩
theorem tw1367 : (.methodLink RX12 101 yX12_has : Cond) ∈ TBG := TBG_mem (i := 1367) (by decide +kernel) rfl
theorem tw1368 : (.static yX12_has : Cond) ∈ TBG := TBG_mem (i := 1368) (by decide +kernel) rfl
set_option maxRecDepth 20000 in
theorem tw1369 : (.code yX12_has cX12_has 2 (some .boolean) : Cond) ∈ TBG := List.mem_filter.mpr ⟨in_t6 _ (List.mem_of_getElem? (i := 59) rfl), rfl⟩
theorem tw1370 : (.methodLink RX12 111 yX12_in : Cond) ∈ TBG := TBG_mem (i := 1370) (by decide +kernel) rfl
theorem tw1371 : (.static yX12_in : Cond) ∈ TBG := TBG_mem (i := 1371) (by decide +kernel) rfl
set_option maxRecDepth 20000 in
theorem tw1372 : (.code yX12_in cX12_in 3 (some .boolean) : Cond) ∈ TBG := List.mem_filter.mpr ⟨in_t6 _ (List.mem_of_getElem? (i := 62) rfl), rfl⟩
theorem tw1373 : (.methodLink RL 22 yX12_wear : Cond) ∈ TBG := TBG_mem (i := 1373) (by decide +kernel) rfl
theorem tw1374 : (.instanceMethod yX12_wear : Cond) ∈ TBG := TBG_mem (i := 1374) (by decide +kernel) rfl
theorem tw1375 : (.selects RX12 yX12_wear yX12_wear : Cond) ∈ TBG := TBG_mem (i := 1375) (by decide +kernel) rfl
set_option maxRecDepth 20000 in
theorem tw1376 : (.code yX12_wear cX12_wear 3 (some .boolean) : Cond) ∈ TBG := List.mem_filter.mpr ⟨in_t6 _ (List.mem_of_getElem? (i := 66) rfl), rfl⟩
theorem tw1377 : (.methodLink RL 27 yX12_dies : Cond) ∈ TBG := TBG_mem (i := 1377) (by decide +kernel) rfl
theorem tw1378 : (.instanceMethod yX12_dies : Cond) ∈ TBG := TBG_mem (i := 1378) (by decide +kernel) rfl
theorem tw1379 : (.selects RX12 yX12_dies yX12_dies : Cond) ∈ TBG := TBG_mem (i := 1379) (by decide +kernel) rfl
set_option maxRecDepth 20000 in
theorem tw1380 : (.code yX12_dies cX12_dies 3 (some .boolean) : Cond) ∈ TBG := List.mem_filter.mpr ⟨in_t6 _ (List.mem_of_getElem? (i := 70) rfl), rfl⟩
theorem tw1381 : (.methodLink RX12 108 yX12_lives : Cond) ∈ TBG := TBG_mem (i := 1381) (by decide +kernel) rfl
theorem tw1383 : (.instanceMethod yX12_lives : Cond) ∈ TBG := TBG_mem (i := 1383) (by decide +kernel) rfl
set_option maxRecDepth 20000 in
theorem tw1384 : (.code yX12_lives cX12_lives 2 (some .boolean) : Cond) ∈ TBG := List.mem_filter.mpr ⟨in_t6 _ (List.mem_of_getElem? (i := 74) rfl), rfl⟩
theorem tw1385 : (.methodLink RX12 115 yX12_parts : Cond) ∈ TBG := TBG_mem (i := 1385) (by decide +kernel) rfl
theorem tw1387 : (.instanceMethod yX12_parts : Cond) ∈ TBG := TBG_mem (i := 1387) (by decide +kernel) rfl
set_option maxRecDepth 20000 in
theorem tw1388 : (.code yX12_parts cX12_parts 3 (none) : Cond) ∈ TBG := List.mem_filter.mpr ⟨in_t6 _ (List.mem_of_getElem? (i := 78) rfl), rfl⟩
theorem tw1389 : (.methodLink RL 31 yX12_weds : Cond) ∈ TBG := TBG_mem (i := 1389) (by decide +kernel) rfl
theorem tw1390 : (.instanceMethod yX12_weds : Cond) ∈ TBG := TBG_mem (i := 1390) (by decide +kernel) rfl
theorem tw1391 : (.selects RX12 yX12_weds yX12_weds : Cond) ∈ TBG := TBG_mem (i := 1391) (by decide +kernel) rfl
set_option maxRecDepth 20000 in
theorem tw1392 : (.code yX12_weds cX12_weds 3 (some .boolean) : Cond) ∈ TBG := List.mem_filter.mpr ⟨in_t6 _ (List.mem_of_getElem? (i := 82) rfl), rfl⟩
theorem tw1393 : (.methodLink RX12 119 yX12_isFree : Cond) ∈ TBG := TBG_mem (i := 1393) (by decide +kernel) rfl
theorem tw1395 : (.instanceMethod yX12_isFree : Cond) ∈ TBG := TBG_mem (i := 1395) (by decide +kernel) rfl
set_option maxRecDepth 20000 in
theorem tw1396 : (.code yX12_isFree cX12_isFree 2 (some .boolean) : Cond) ∈ TBG := List.mem_filter.mpr ⟨in_t6 _ (List.mem_of_getElem? (i := 86) rfl), rfl⟩
theorem tw1397 : (.methodLink RX12 122 yX12_wedsTwo : Cond) ∈ TBG := TBG_mem (i := 1397) (by decide +kernel) rfl
theorem tw1399 : (.instanceMethod yX12_wedsTwo : Cond) ∈ TBG := TBG_mem (i := 1399) (by decide +kernel) rfl
set_option maxRecDepth 20000 in
theorem tw1400 : (.code yX12_wedsTwo cX12_wedsTwo 3 (none) : Cond) ∈ TBG := List.mem_filter.mpr ⟨in_t6 _ (List.mem_of_getElem? (i := 90) rfl), rfl⟩
theorem tw1401 : (.methodLink RL 36 yX12_feed : Cond) ∈ TBG := TBG_mem (i := 1401) (by decide +kernel) rfl
theorem tw1402 : (.instanceMethod yX12_feed : Cond) ∈ TBG := TBG_mem (i := 1402) (by decide +kernel) rfl
theorem tw1403 : (.selects RX12 yX12_feed yX12_feed : Cond) ∈ TBG := TBG_mem (i := 1403) (by decide +kernel) rfl
set_option maxRecDepth 20000 in
theorem tw1404 : (.code yX12_feed cX12_feed 6 (some .int) : Cond) ∈ TBG := List.mem_filter.mpr ⟨in_t6 _ (List.mem_of_getElem? (i := 94) rfl), rfl⟩
theorem tw1405 : (.methodLink RX12 130 yX12_types : Cond) ∈ TBG := TBG_mem (i := 1405) (by decide +kernel) rfl
theorem tw1407 : (.instanceMethod yX12_types : Cond) ∈ TBG := TBG_mem (i := 1407) (by decide +kernel) rfl
set_option maxRecDepth 20000 in
theorem tw1408 : (.code yX12_types cX12_types 3 (none) : Cond) ∈ TBG := List.mem_filter.mpr ⟨in_t6 _ (List.mem_of_getElem? (i := 98) rfl), rfl⟩
theorem tw1409 : (.methodLink RL 41 yX12_law : Cond) ∈ TBG := TBG_mem (i := 1409) (by decide +kernel) rfl
theorem tw1410 : (.instanceMethod yX12_law : Cond) ∈ TBG := TBG_mem (i := 1410) (by decide +kernel) rfl
theorem tw1411 : (.selects RX12 yX12_law yX12_law : Cond) ∈ TBG := TBG_mem (i := 1411) (by decide +kernel) rfl
set_option maxRecDepth 20000 in
theorem tw1412 : (.code yX12_law cX12_law 4 (some .int) : Cond) ∈ TBG := List.mem_filter.mpr ⟨in_t6 _ (List.mem_of_getElem? (i := 102) rfl), rfl⟩
theorem tw1413 : (.methodLink RX12 219 yX12_readsClause : Cond) ∈ TBG := TBG_mem (i := 1413) (by decide +kernel) rfl
theorem tw1415 : (.instanceMethod yX12_readsClause : Cond) ∈ TBG := TBG_mem (i := 1415) (by decide +kernel) rfl
set_option maxRecDepth 20000 in
theorem tw1416 : (.code yX12_readsClause cX12_readsClause 2 (some .boolean) : Cond) ∈ TBG := List.mem_filter.mpr ⟨in_t6 _ (List.mem_of_getElem? (i := 106) rfl), rfl⟩
theorem tw1417 : (.methodLink RX12 139 yX12_here : Cond) ∈ TBG := TBG_mem (i := 1417) (by decide +kernel) rfl
theorem tw1419 : (.instanceMethod yX12_here : Cond) ∈ TBG := TBG_mem (i := 1419) (by decide +kernel) rfl
set_option maxRecDepth 20000 in
theorem tw1420 : (.code yX12_here cX12_here 1 (some .int) : Cond) ∈ TBG := List.mem_filter.mpr ⟨in_t6 _ (List.mem_of_getElem? (i := 110) rfl), rfl⟩
theorem tw1421 : (.methodLink RX12 210 yX12_isClause : Cond) ∈ TBG := TBG_mem (i := 1421) (by decide +kernel) rfl
theorem tw1422 : (.static yX12_isClause : Cond) ∈ TBG := TBG_mem (i := 1422) (by decide +kernel) rfl
set_option maxRecDepth 20000 in
theorem tw1423 : (.code yX12_isClause cX12_isClause 1 (some .boolean) : Cond) ∈ TBG := List.mem_filter.mpr ⟨in_t6 _ (List.mem_of_getElem? (i := 113) rfl), rfl⟩
theorem tw1424 : (.methodLink RX12 146 yX12_wrongAt : Cond) ∈ TBG := TBG_mem (i := 1424) (by decide +kernel) rfl
theorem tw1426 : (.instanceMethod yX12_wrongAt : Cond) ∈ TBG := TBG_mem (i := 1426) (by decide +kernel) rfl
set_option maxRecDepth 20000 in
theorem tw1427 : (.code yX12_wrongAt cX12_wrongAt 3 (some .boolean) : Cond) ∈ TBG := List.mem_filter.mpr ⟨in_t6 _ (List.mem_of_getElem? (i := 117) rfl), rfl⟩
theorem tw1428 : (.methodLink RX12 195 yX12_readsSum : Cond) ∈ TBG := TBG_mem (i := 1428) (by decide +kernel) rfl
theorem tw1430 : (.instanceMethod yX12_readsSum : Cond) ∈ TBG := TBG_mem (i := 1430) (by decide +kernel) rfl
set_option maxRecDepth 20000 in
theorem tw1431 : (.code yX12_readsSum cX12_readsSum 3 (some .boolean) : Cond) ∈ TBG := List.mem_filter.mpr ⟨in_t6 _ (List.mem_of_getElem? (i := 121) rfl), rfl⟩
theorem tw1432 : (.methodLink RX12 182 yX12_readsFactor : Cond) ∈ TBG := TBG_mem (i := 1432) (by decide +kernel) rfl
theorem tw1434 : (.instanceMethod yX12_readsFactor : Cond) ∈ TBG := TBG_mem (i := 1434) (by decide +kernel) rfl
set_option maxRecDepth 20000 in
theorem tw1435 : (.code yX12_readsFactor cX12_readsFactor 2 (some .boolean) : Cond) ∈ TBG := List.mem_filter.mpr ⟨in_t6 _ (List.mem_of_getElem? (i := 125) rfl), rfl⟩
theorem tw1436 : (.methodLink RX12 172 yX12_opens : Cond) ∈ TBG := TBG_mem (i := 1436) (by decide +kernel) rfl
theorem tw1438 : (.instanceMethod yX12_opens : Cond) ∈ TBG := TBG_mem (i := 1438) (by decide +kernel) rfl
set_option maxRecDepth 20000 in
theorem tw1439 : (.code yX12_opens cX12_opens 2 (some .boolean) : Cond) ∈ TBG := List.mem_filter.mpr ⟨in_t6 _ (List.mem_of_getElem? (i := 129) rfl), rfl⟩
theorem tw1440 : (.constant RX12 159 (1048576) : Cond) ∈ TBG := TBG_mem (i := 1440) (by decide +kernel) rfl
theorem tw1441 : (.methodLink RX12 152 yX12_isDigit : Cond) ∈ TBG := TBG_mem (i := 1441) (by decide +kernel) rfl
theorem tw1443 : (.instanceMethod yX12_isDigit : Cond) ∈ TBG := TBG_mem (i := 1443) (by decide +kernel) rfl
set_option maxRecDepth 20000 in
theorem tw1444 : (.code yX12_isDigit cX12_isDigit 1 (some .boolean) : Cond) ∈ TBG := List.mem_filter.mpr ⟨in_t6 _ (List.mem_of_getElem? (i := 134) rfl), rfl⟩
theorem tw1445 : (.methodLink RX12 175 yX12_readsNumber : Cond) ∈ TBG := TBG_mem (i := 1445) (by decide +kernel) rfl
theorem tw1447 : (.instanceMethod yX12_readsNumber : Cond) ∈ TBG := TBG_mem (i := 1447) (by decide +kernel) rfl
set_option maxRecDepth 20000 in
theorem tw1448 : (.code yX12_readsNumber cX12_readsNumber 2 (some .boolean) : Cond) ∈ TBG := List.mem_filter.mpr ⟨in_t6 _ (List.mem_of_getElem? (i := 138) rfl), rfl⟩
theorem tw1449 : (.methodLink RX12 169 yX12_notes : Cond) ∈ TBG := TBG_mem (i := 1449) (by decide +kernel) rfl
theorem tw1451 : (.instanceMethod yX12_notes : Cond) ∈ TBG := TBG_mem (i := 1451) (by decide +kernel) rfl
set_option maxRecDepth 20000 in
theorem tw1452 : (.code yX12_notes cX12_notes 3 (none) : Cond) ∈ TBG := List.mem_filter.mpr ⟨in_t6 _ (List.mem_of_getElem? (i := 142) rfl), rfl⟩
theorem tw1453 : (.methodLink RX12 178 yX12_factOf : Cond) ∈ TBG := TBG_mem (i := 1453) (by decide +kernel) rfl
theorem tw1454 : (.static yX12_factOf : Cond) ∈ TBG := TBG_mem (i := 1454) (by decide +kernel) rfl
set_option maxRecDepth 20000 in
theorem tw1455 : (.code yX12_factOf cX12_factOf 1 (some .int) : Cond) ∈ TBG := List.mem_filter.mpr ⟨in_t6 _ (List.mem_of_getElem? (i := 145) rfl), rfl⟩
theorem tw1456 : (.methodLink RX12 185 yX12_sumSign : Cond) ∈ TBG := TBG_mem (i := 1456) (by decide +kernel) rfl
theorem tw1457 : (.static yX12_sumSign : Cond) ∈ TBG := TBG_mem (i := 1457) (by decide +kernel) rfl
set_option maxRecDepth 20000 in
theorem tw1458 : (.code yX12_sumSign cX12_sumSign 1 (some .int) : Cond) ∈ TBG := List.mem_filter.mpr ⟨in_t6 _ (List.mem_of_getElem? (i := 148) rfl), rfl⟩
theorem tw1459 : (.methodLink RX12 188 yX12_closesSums : Cond) ∈ TBG := TBG_mem (i := 1459) (by decide +kernel) rfl
theorem tw1461 : (.instanceMethod yX12_closesSums : Cond) ∈ TBG := TBG_mem (i := 1461) (by decide +kernel) rfl
set_option maxRecDepth 20000 in
theorem tw1462 : (.code yX12_closesSums cX12_closesSums 2 (none) : Cond) ∈ TBG := List.mem_filter.mpr ⟨in_t6 _ (List.mem_of_getElem? (i := 152) rfl), rfl⟩
theorem tw1463 : (.methodLink RX12 166 yX12_waitTop : Cond) ∈ TBG := TBG_mem (i := 1463) (by decide +kernel) rfl
theorem tw1465 : (.instanceMethod yX12_waitTop : Cond) ∈ TBG := TBG_mem (i := 1465) (by decide +kernel) rfl
set_option maxRecDepth 20000 in
theorem tw1466 : (.code yX12_waitTop cX12_waitTop 1 (some .int) : Cond) ∈ TBG := List.mem_filter.mpr ⟨in_t6 _ (List.mem_of_getElem? (i := 156) rfl), rfl⟩
theorem tw1467 : (.methodLink RX12 192 yX12_hasOpenSum : Cond) ∈ TBG := TBG_mem (i := 1467) (by decide +kernel) rfl
theorem tw1469 : (.instanceMethod yX12_hasOpenSum : Cond) ∈ TBG := TBG_mem (i := 1469) (by decide +kernel) rfl
set_option maxRecDepth 20000 in
theorem tw1470 : (.code yX12_hasOpenSum cX12_hasOpenSum 3 (some .boolean) : Cond) ∈ TBG := List.mem_filter.mpr ⟨in_t6 _ (List.mem_of_getElem? (i := 160) rfl), rfl⟩
theorem tw1471 : (.methodLink RX12 216 yX12_readsCondition : Cond) ∈ TBG := TBG_mem (i := 1471) (by decide +kernel) rfl
theorem tw1473 : (.instanceMethod yX12_readsCondition : Cond) ∈ TBG := TBG_mem (i := 1473) (by decide +kernel) rfl
set_option maxRecDepth 20000 in
theorem tw1474 : (.code yX12_readsCondition cX12_readsCondition 1 (some .boolean) : Cond) ∈ TBG := List.mem_filter.mpr ⟨in_t6 _ (List.mem_of_getElem? (i := 164) rfl), rfl⟩
theorem tw1475 : (.methodLink RX12 201 yX12_readsCompared : Cond) ∈ TBG := TBG_mem (i := 1475) (by decide +kernel) rfl
theorem tw1477 : (.instanceMethod yX12_readsCompared : Cond) ∈ TBG := TBG_mem (i := 1477) (by decide +kernel) rfl
set_option maxRecDepth 20000 in
theorem tw1478 : (.code yX12_readsCompared cX12_readsCompared 2 (some .boolean) : Cond) ∈ TBG := List.mem_filter.mpr ⟨in_t6 _ (List.mem_of_getElem? (i := 168) rfl), rfl⟩
theorem tw1479 : (.methodLink RX12 198 yX12_endsPiece : Cond) ∈ TBG := TBG_mem (i := 1479) (by decide +kernel) rfl
theorem tw1481 : (.instanceMethod yX12_endsPiece : Cond) ∈ TBG := TBG_mem (i := 1481) (by decide +kernel) rfl
set_option maxRecDepth 20000 in
theorem tw1482 : (.code yX12_endsPiece cX12_endsPiece 1 (none) : Cond) ∈ TBG := List.mem_filter.mpr ⟨in_t6 _ (List.mem_of_getElem? (i := 172) rfl), rfl⟩
theorem tw1483 : (.methodLink RX12 204 yX12_lands : Cond) ∈ TBG := TBG_mem (i := 1483) (by decide +kernel) rfl
theorem tw1485 : (.instanceMethod yX12_lands : Cond) ∈ TBG := TBG_mem (i := 1485) (by decide +kernel) rfl
set_option maxRecDepth 20000 in
theorem tw1486 : (.code yX12_lands cX12_lands 3 (none) : Cond) ∈ TBG := List.mem_filter.mpr ⟨in_t6 _ (List.mem_of_getElem? (i := 176) rfl), rfl⟩
theorem tw1487 : (.methodLink RX12 207 yX12_jumps : Cond) ∈ TBG := TBG_mem (i := 1487) (by decide +kernel) rfl
theorem tw1489 : (.instanceMethod yX12_jumps : Cond) ∈ TBG := TBG_mem (i := 1489) (by decide +kernel) rfl
set_option maxRecDepth 20000 in
theorem tw1490 : (.code yX12_jumps cX12_jumps 2 (none) : Cond) ∈ TBG := List.mem_filter.mpr ⟨in_t6 _ (List.mem_of_getElem? (i := 180) rfl), rfl⟩
theorem tw1491 : (.methodLink RX12 222 yX12_takes : Cond) ∈ TBG := TBG_mem (i := 1491) (by decide +kernel) rfl
theorem tw1493 : (.instanceMethod yX12_takes : Cond) ∈ TBG := TBG_mem (i := 1493) (by decide +kernel) rfl
set_option maxRecDepth 20000 in
theorem tw1494 : (.code yX12_takes cX12_takes 2 (some .boolean) : Cond) ∈ TBG := List.mem_filter.mpr ⟨in_t6 _ (List.mem_of_getElem? (i := 184) rfl), rfl⟩
theorem tw1495 : (.methodLink RL 46 yX12_edge : Cond) ∈ TBG := TBG_mem (i := 1495) (by decide +kernel) rfl
theorem tw1496 : (.instanceMethod yX12_edge : Cond) ∈ TBG := TBG_mem (i := 1496) (by decide +kernel) rfl
theorem tw1497 : (.selects RX12 yX12_edge yX12_edge : Cond) ∈ TBG := TBG_mem (i := 1497) (by decide +kernel) rfl
set_option maxRecDepth 20000 in
theorem tw1498 : (.code yX12_edge cX12_edge 6 (some .int) : Cond) ∈ TBG := List.mem_filter.mpr ⟨in_t6 _ (List.mem_of_getElem? (i := 188) rfl), rfl⟩
theorem tw1499 : (.methodLink RX12 271 yX12_readsHeight : Cond) ∈ TBG := TBG_mem (i := 1499) (by decide +kernel) rfl
theorem tw1501 : (.instanceMethod yX12_readsHeight : Cond) ∈ TBG := TBG_mem (i := 1501) (by decide +kernel) rfl
set_option maxRecDepth 20000 in
theorem tw1502 : (.code yX12_readsHeight cX12_readsHeight 6 (some .boolean) : Cond) ∈ TBG := List.mem_filter.mpr ⟨in_t6 _ (List.mem_of_getElem? (i := 192) rfl), rfl⟩
theorem tw1503 : (.methodLink RX12 239 yX12_size : Cond) ∈ TBG := TBG_mem (i := 1503) (by decide +kernel) rfl
theorem tw1504 : (.static yX12_size : Cond) ∈ TBG := TBG_mem (i := 1504) (by decide +kernel) rfl
set_option maxRecDepth 20000 in
theorem tw1505 : (.code yX12_size cX12_size 1 (some .int) : Cond) ∈ TBG := List.mem_filter.mpr ⟨in_t6 _ (List.mem_of_getElem? (i := 195) rfl), rfl⟩
theorem tw1506 : (.methodLink RL 50 yX12_journey : Cond) ∈ TBG := TBG_mem (i := 1506) (by decide +kernel) rfl
theorem tw1507 : (.instanceMethod yX12_journey : Cond) ∈ TBG := TBG_mem (i := 1507) (by decide +kernel) rfl
theorem tw1508 : (.selects RX12 yX12_journey yX12_journey : Cond) ∈ TBG := TBG_mem (i := 1508) (by decide +kernel) rfl
set_option maxRecDepth 20000 in
theorem tw1509 : (.code yX12_journey cX12_journey 5 (some .int) : Cond) ∈ TBG := List.mem_filter.mpr ⟨in_t6 _ (List.mem_of_getElem? (i := 199) rfl), rfl⟩
theorem tw1510 : (.methodLink RX12 277 yX12_readsStop : Cond) ∈ TBG := TBG_mem (i := 1510) (by decide +kernel) rfl
theorem tw1512 : (.instanceMethod yX12_readsStop : Cond) ∈ TBG := TBG_mem (i := 1512) (by decide +kernel) rfl
set_option maxRecDepth 20000 in
theorem tw1513 : (.code yX12_readsStop cX12_readsStop 4 (some .boolean) : Cond) ∈ TBG := List.mem_filter.mpr ⟨in_t6 _ (List.mem_of_getElem? (i := 203) rfl), rfl⟩
theorem tw1514 : (.methodLink RL 54 yX12_days : Cond) ∈ TBG := TBG_mem (i := 1514) (by decide +kernel) rfl
theorem tw1515 : (.instanceMethod yX12_days : Cond) ∈ TBG := TBG_mem (i := 1515) (by decide +kernel) rfl
theorem tw1516 : (.selects RX12 yX12_days yX12_days : Cond) ∈ TBG := TBG_mem (i := 1516) (by decide +kernel) rfl
set_option maxRecDepth 20000 in
theorem tw1517 : (.code yX12_days cX12_days 2 (some .int) : Cond) ∈ TBG := List.mem_filter.mpr ⟨in_t6 _ (List.mem_of_getElem? (i := 207) rfl), rfl⟩
theorem tw1518 : (.methodLink RX12 314 yX12_daysGo : Cond) ∈ TBG := TBG_mem (i := 1518) (by decide +kernel) rfl
theorem tw1520 : (.instanceMethod yX12_daysGo : Cond) ∈ TBG := TBG_mem (i := 1520) (by decide +kernel) rfl
set_option maxRecDepth 20000 in
theorem tw1521 : (.code yX12_daysGo cX12_daysGo 5 (none) : Cond) ∈ TBG := List.mem_filter.mpr ⟨in_t6 _ (List.mem_of_getElem? (i := 211) rfl), rfl⟩
theorem tw1522 : (.methodLink RX12 305 yX12_travels : Cond) ∈ TBG := TBG_mem (i := 1522) (by decide +kernel) rfl
theorem tw1524 : (.instanceMethod yX12_travels : Cond) ∈ TBG := TBG_mem (i := 1524) (by decide +kernel) rfl
set_option maxRecDepth 20000 in
theorem tw1525 : (.code yX12_travels cX12_travels 2 (none) : Cond) ∈ TBG := List.mem_filter.mpr ⟨in_t6 _ (List.mem_of_getElem? (i := 215) rfl), rfl⟩
theorem tw1526 : (.methodLink RX12 308 yX12_triesIn : Cond) ∈ TBG := TBG_mem (i := 1526) (by decide +kernel) rfl
theorem tw1528 : (.instanceMethod yX12_triesIn : Cond) ∈ TBG := TBG_mem (i := 1528) (by decide +kernel) rfl
set_option maxRecDepth 20000 in
theorem tw1529 : (.code yX12_triesIn cX12_triesIn 5 (none) : Cond) ∈ TBG := List.mem_filter.mpr ⟨in_t6 _ (List.mem_of_getElem? (i := 219) rfl), rfl⟩
theorem tw1530 : (.methodLink RX12 283 yX12_haveTried : Cond) ∈ TBG := TBG_mem (i := 1530) (by decide +kernel) rfl
theorem tw1532 : (.instanceMethod yX12_haveTried : Cond) ∈ TBG := TBG_mem (i := 1532) (by decide +kernel) rfl
set_option maxRecDepth 20000 in
theorem tw1533 : (.code yX12_haveTried cX12_haveTried 3 (none) : Cond) ∈ TBG := List.mem_filter.mpr ⟨in_t6 _ (List.mem_of_getElem? (i := 223) rfl), rfl⟩
theorem tw1534 : (.methodLink RX12 286 yX12_fit : Cond) ∈ TBG := TBG_mem (i := 1534) (by decide +kernel) rfl
theorem tw1536 : (.instanceMethod yX12_fit : Cond) ∈ TBG := TBG_mem (i := 1536) (by decide +kernel) rfl
set_option maxRecDepth 20000 in
theorem tw1537 : (.code yX12_fit cX12_fit 4 (some .boolean) : Cond) ∈ TBG := List.mem_filter.mpr ⟨in_t6 _ (List.mem_of_getElem? (i := 227) rfl), rfl⟩
theorem tw1538 : (.methodLink RX12 262 yX12_slackBy : Cond) ∈ TBG := TBG_mem (i := 1538) (by decide +kernel) rfl
theorem tw1540 : (.instanceMethod yX12_slackBy : Cond) ∈ TBG := TBG_mem (i := 1540) (by decide +kernel) rfl
set_option maxRecDepth 20000 in
theorem tw1541 : (.code yX12_slackBy cX12_slackBy 6 (some .int) : Cond) ∈ TBG := List.mem_filter.mpr ⟨in_t6 _ (List.mem_of_getElem? (i := 231) rfl), rfl⟩
theorem tw1542 : (.constant RX12 245 (1000000000) : Cond) ∈ TBG := TBG_mem (i := 1542) (by decide +kernel) rfl
theorem tw1543 : (.methodLink RX12 246 yX12_slackOf : Cond) ∈ TBG := TBG_mem (i := 1543) (by decide +kernel) rfl
theorem tw1545 : (.instanceMethod yX12_slackOf : Cond) ∈ TBG := TBG_mem (i := 1545) (by decide +kernel) rfl
set_option maxRecDepth 20000 in
theorem tw1546 : (.code yX12_slackOf cX12_slackOf 5 (some .int) : Cond) ∈ TBG := List.mem_filter.mpr ⟨in_t6 _ (List.mem_of_getElem? (i := 236) rfl), rfl⟩
theorem tw1547 : (.methodLink RX12 236 yX12_heightOf : Cond) ∈ TBG := TBG_mem (i := 1547) (by decide +kernel) rfl
theorem tw1549 : (.instanceMethod yX12_heightOf : Cond) ∈ TBG := TBG_mem (i := 1549) (by decide +kernel) rfl
set_option maxRecDepth 20000 in
theorem tw1550 : (.code yX12_heightOf cX12_heightOf 3 (some .int) : Cond) ∈ TBG := List.mem_filter.mpr ⟨in_t7 _ (List.mem_of_getElem? (i := 0) rfl), rfl⟩
theorem tw1551 : (.methodLink RX12 242 yX12_max : Cond) ∈ TBG := TBG_mem (i := 1551) (by decide +kernel) rfl
theorem tw1552 : (.static yX12_max : Cond) ∈ TBG := TBG_mem (i := 1552) (by decide +kernel) rfl
set_option maxRecDepth 20000 in
theorem tw1553 : (.code yX12_max cX12_max 2 (some .int) : Cond) ∈ TBG := List.mem_filter.mpr ⟨in_t7 _ (List.mem_of_getElem? (i := 3) rfl), rfl⟩
theorem tw1554 : (.methodLink RX12 249 yX12_min : Cond) ∈ TBG := TBG_mem (i := 1554) (by decide +kernel) rfl
theorem tw1555 : (.static yX12_min : Cond) ∈ TBG := TBG_mem (i := 1555) (by decide +kernel) rfl
set_option maxRecDepth 20000 in
theorem tw1556 : (.code yX12_min cX12_min 2 (some .int) : Cond) ∈ TBG := List.mem_filter.mpr ⟨in_t7 _ (List.mem_of_getElem? (i := 6) rfl), rfl⟩
theorem tw1557 : (.methodLink RX12 265 yX12_allowed : Cond) ∈ TBG := TBG_mem (i := 1557) (by decide +kernel) rfl
theorem tw1559 : (.instanceMethod yX12_allowed : Cond) ∈ TBG := TBG_mem (i := 1559) (by decide +kernel) rfl
set_option maxRecDepth 20000 in
theorem tw1560 : (.code yX12_allowed cX12_allowed 4 (some .int) : Cond) ∈ TBG := List.mem_filter.mpr ⟨in_t7 _ (List.mem_of_getElem? (i := 10) rfl), rfl⟩
theorem tw1561 : (.methodLink RX12 255 yX12_feels : Cond) ∈ TBG := TBG_mem (i := 1561) (by decide +kernel) rfl
theorem tw1563 : (.instanceMethod yX12_feels : Cond) ∈ TBG := TBG_mem (i := 1563) (by decide +kernel) rfl
set_option maxRecDepth 20000 in
theorem tw1564 : (.code yX12_feels cX12_feels 4 (none) : Cond) ∈ TBG := List.mem_filter.mpr ⟨in_t7 _ (List.mem_of_getElem? (i := 14) rfl), rfl⟩
theorem tw1565 : (.methodLink RX12 252 yX12_bits : Cond) ∈ TBG := TBG_mem (i := 1565) (by decide +kernel) rfl
theorem tw1566 : (.static yX12_bits : Cond) ∈ TBG := TBG_mem (i := 1566) (by decide +kernel) rfl
set_option maxRecDepth 20000 in
theorem tw1567 : (.code yX12_bits cX12_bits 3 (some .int) : Cond) ∈ TBG := List.mem_filter.mpr ⟨in_t7 _ (List.mem_of_getElem? (i := 17) rfl), rfl⟩
theorem tw1568 : (.methodLink RX12 259 yX12_byLaw : Cond) ∈ TBG := TBG_mem (i := 1568) (by decide +kernel) rfl
theorem tw1570 : (.instanceMethod yX12_byLaw : Cond) ∈ TBG := TBG_mem (i := 1570) (by decide +kernel) rfl
set_option maxRecDepth 20000 in
theorem tw1571 : (.code yX12_byLaw cX12_byLaw 5 (some .int) : Cond) ∈ TBG := List.mem_filter.mpr ⟨in_t7 _ (List.mem_of_getElem? (i := 21) rfl), rfl⟩
theorem tw1572 : (.methodLink RX12 232 yX12_comesTo : Cond) ∈ TBG := TBG_mem (i := 1572) (by decide +kernel) rfl
theorem tw1574 : (.instanceMethod yX12_comesTo : Cond) ∈ TBG := TBG_mem (i := 1574) (by decide +kernel) rfl
set_option maxRecDepth 20000 in
theorem tw1575 : (.code yX12_comesTo cX12_comesTo 8 (some .int) : Cond) ∈ TBG := List.mem_filter.mpr ⟨in_t7 _ (List.mem_of_getElem? (i := 25) rfl), rfl⟩
theorem tw1576 : (.methodLink RX12 228 yX12_reckon : Cond) ∈ TBG := TBG_mem (i := 1576) (by decide +kernel) rfl
theorem tw1577 : (.static yX12_reckon : Cond) ∈ TBG := TBG_mem (i := 1577) (by decide +kernel) rfl
set_option maxRecDepth 20000 in
theorem tw1578 : (.code yX12_reckon cX12_reckon 3 (some .int) : Cond) ∈ TBG := List.mem_filter.mpr ⟨in_t7 _ (List.mem_of_getElem? (i := 28) rfl), rfl⟩
theorem tw1579 : (.methodLink RX12 292 yX12_wearsBy : Cond) ∈ TBG := TBG_mem (i := 1579) (by decide +kernel) rfl
theorem tw1581 : (.instanceMethod yX12_wearsBy : Cond) ∈ TBG := TBG_mem (i := 1581) (by decide +kernel) rfl
set_option maxRecDepth 20000 in
theorem tw1582 : (.code yX12_wearsBy cX12_wearsBy 3 (some .int) : Cond) ∈ TBG := List.mem_filter.mpr ⟨in_t7 _ (List.mem_of_getElem? (i := 32) rfl), rfl⟩
theorem tw1583 : (.methodLink RX12 295 yX12_wearsAll : Cond) ∈ TBG := TBG_mem (i := 1583) (by decide +kernel) rfl
theorem tw1585 : (.instanceMethod yX12_wearsAll : Cond) ∈ TBG := TBG_mem (i := 1585) (by decide +kernel) rfl
set_option maxRecDepth 20000 in
theorem tw1586 : (.code yX12_wearsAll cX12_wearsAll 4 (none) : Cond) ∈ TBG := List.mem_filter.mpr ⟨in_t7 _ (List.mem_of_getElem? (i := 36) rfl), rfl⟩
theorem tw1587 : (.methodLink RX12 311 yX12_creak : Cond) ∈ TBG := TBG_mem (i := 1587) (by decide +kernel) rfl
theorem tw1589 : (.instanceMethod yX12_creak : Cond) ∈ TBG := TBG_mem (i := 1589) (by decide +kernel) rfl
set_option maxRecDepth 20000 in
theorem tw1590 : (.code yX12_creak cX12_creak 4 (none) : Cond) ∈ TBG := List.mem_filter.mpr ⟨in_t7 _ (List.mem_of_getElem? (i := 40) rfl), rfl⟩
theorem tw1591 : (.methodLink RX12 299 yX12_draws : Cond) ∈ TBG := TBG_mem (i := 1591) (by decide +kernel) rfl
theorem tw1593 : (.instanceMethod yX12_draws : Cond) ∈ TBG := TBG_mem (i := 1593) (by decide +kernel) rfl
set_option maxRecDepth 20000 in
theorem tw1594 : (.code yX12_draws cX12_draws 1 (some .int) : Cond) ∈ TBG := List.mem_filter.mpr ⟨in_t7 _ (List.mem_of_getElem? (i := 44) rfl), rfl⟩
theorem tw1595 : (.constant RX12 298 (65536) : Cond) ∈ TBG := TBG_mem (i := 1595) (by decide +kernel) rfl
theorem tw1596 : (.methodLink RL 58 yX12_tried : Cond) ∈ TBG := TBG_mem (i := 1596) (by decide +kernel) rfl
theorem tw1597 : (.instanceMethod yX12_tried : Cond) ∈ TBG := TBG_mem (i := 1597) (by decide +kernel) rfl
theorem tw1598 : (.selects RX12 yX12_tried yX12_tried : Cond) ∈ TBG := TBG_mem (i := 1598) (by decide +kernel) rfl
set_option maxRecDepth 20000 in
theorem tw1599 : (.code yX12_tried cX12_tried 5 (some .int) : Cond) ∈ TBG := List.mem_filter.mpr ⟨in_t7 _ (List.mem_of_getElem? (i := 49) rfl), rfl⟩
theorem tw1600 : (.methodLink RX12 317 yX12_copiesRow : Cond) ∈ TBG := TBG_mem (i := 1600) (by decide +kernel) rfl
theorem tw1601 : (.static yX12_copiesRow : Cond) ∈ TBG := TBG_mem (i := 1601) (by decide +kernel) rfl
set_option maxRecDepth 20000 in
theorem tw1602 : (.code yX12_copiesRow cX12_copiesRow 3 (none) : Cond) ∈ TBG := List.mem_filter.mpr ⟨in_t7 _ (List.mem_of_getElem? (i := 52) rfl), rfl⟩
theorem tw1603 : (.methodLink RX12 321 yX12_wedTwos : Cond) ∈ TBG := TBG_mem (i := 1603) (by decide +kernel) rfl
theorem tw1605 : (.instanceMethod yX12_wedTwos : Cond) ∈ TBG := TBG_mem (i := 1605) (by decide +kernel) rfl
set_option maxRecDepth 20000 in
theorem tw1606 : (.code yX12_wedTwos cX12_wedTwos 3 (some .int) : Cond) ∈ TBG := List.mem_filter.mpr ⟨in_t7 _ (List.mem_of_getElem? (i := 56) rfl), rfl⟩
theorem tw1607 : (.methodLink RL 62 yX12_personIs : Cond) ∈ TBG := TBG_mem (i := 1607) (by decide +kernel) rfl
theorem tw1608 : (.instanceMethod yX12_personIs : Cond) ∈ TBG := TBG_mem (i := 1608) (by decide +kernel) rfl
theorem tw1609 : (.selects RX12 yX12_personIs yX12_personIs : Cond) ∈ TBG := TBG_mem (i := 1609) (by decide +kernel) rfl
set_option maxRecDepth 20000 in
theorem tw1610 : (.code yX12_personIs cX12_personIs 3 (some .int) : Cond) ∈ TBG := List.mem_filter.mpr ⟨in_t7 _ (List.mem_of_getElem? (i := 60) rfl), rfl⟩
theorem tw1611 : (.methodLink RX12 324 yX12_fitting : Cond) ∈ TBG := TBG_mem (i := 1611) (by decide +kernel) rfl
theorem tw1613 : (.instanceMethod yX12_fitting : Cond) ∈ TBG := TBG_mem (i := 1613) (by decide +kernel) rfl
set_option maxRecDepth 20000 in
theorem tw1614 : (.code yX12_fitting cX12_fitting 4 (some .int) : Cond) ∈ TBG := List.mem_filter.mpr ⟨in_t7 _ (List.mem_of_getElem? (i := 64) rfl), rfl⟩
theorem tw1615 : (.methodLink RL 66 yX12_piece : Cond) ∈ TBG := TBG_mem (i := 1615) (by decide +kernel) rfl
theorem tw1616 : (.instanceMethod yX12_piece : Cond) ∈ TBG := TBG_mem (i := 1616) (by decide +kernel) rfl
theorem tw1617 : (.selects RX12 yX12_piece yX12_piece : Cond) ∈ TBG := TBG_mem (i := 1617) (by decide +kernel) rfl
set_option maxRecDepth 20000 in
theorem tw1618 : (.code yX12_piece cX12_piece 4 (some .int) : Cond) ∈ TBG := List.mem_filter.mpr ⟨in_t7 _ (List.mem_of_getElem? (i := 68) rfl), rfl⟩
theorem tw1619 : (.methodLink RL 71 yX12_slack : Cond) ∈ TBG := TBG_mem (i := 1619) (by decide +kernel) rfl
theorem tw1620 : (.instanceMethod yX12_slack : Cond) ∈ TBG := TBG_mem (i := 1620) (by decide +kernel) rfl
theorem tw1621 : (.selects RX12 yX12_slack yX12_slack : Cond) ∈ TBG := TBG_mem (i := 1621) (by decide +kernel) rfl
set_option maxRecDepth 20000 in
theorem tw1622 : (.code yX12_slack cX12_slack 5 (some .int) : Cond) ∈ TBG := List.mem_filter.mpr ⟨in_t7 _ (List.mem_of_getElem? (i := 72) rfl), rfl⟩
theorem tw1623 : (.methodLink RX12 327 yX12_likes : Cond) ∈ TBG := TBG_mem (i := 1623) (by decide +kernel) rfl
theorem tw1625 : (.instanceMethod yX12_likes : Cond) ∈ TBG := TBG_mem (i := 1625) (by decide +kernel) rfl
set_option maxRecDepth 20000 in
theorem tw1626 : (.code yX12_likes cX12_likes 3 (some .int) : Cond) ∈ TBG := List.mem_filter.mpr ⟨in_t7 _ (List.mem_of_getElem? (i := 76) rfl), rfl⟩
theorem tw1627 : (.methodLink RL 75 yX12_locks : Cond) ∈ TBG := TBG_mem (i := 1627) (by decide +kernel) rfl
theorem tw1628 : (.instanceMethod yX12_locks : Cond) ∈ TBG := TBG_mem (i := 1628) (by decide +kernel) rfl
theorem tw1629 : (.selects RX12 yX12_locks yX12_locks : Cond) ∈ TBG := TBG_mem (i := 1629) (by decide +kernel) rfl
set_option maxRecDepth 20000 in
theorem tw1630 : (.code yX12_locks cX12_locks 7 (some .int) : Cond) ∈ TBG := List.mem_filter.mpr ⟨in_t7 _ (List.mem_of_getElem? (i := 80) rfl), rfl⟩
theorem tw1631 : (.methodLink RX12 330 yX12_laysFits : Cond) ∈ TBG := TBG_mem (i := 1631) (by decide +kernel) rfl
theorem tw1633 : (.instanceMethod yX12_laysFits : Cond) ∈ TBG := TBG_mem (i := 1633) (by decide +kernel) rfl
set_option maxRecDepth 20000 in
theorem tw1634 : (.code yX12_laysFits cX12_laysFits 4 (none) : Cond) ∈ TBG := List.mem_filter.mpr ⟨in_t7 _ (List.mem_of_getElem? (i := 84) rfl), rfl⟩
theorem tw1635 : (.methodLink RL 79 yX12_most : Cond) ∈ TBG := TBG_mem (i := 1635) (by decide +kernel) rfl
theorem tw1636 : (.instanceMethod yX12_most : Cond) ∈ TBG := TBG_mem (i := 1636) (by decide +kernel) rfl
theorem tw1637 : (.selects RX12 yX12_most yX12_most : Cond) ∈ TBG := TBG_mem (i := 1637) (by decide +kernel) rfl
set_option maxRecDepth 20000 in
theorem tw1638 : (.code yX12_most cX12_most 3 (some .int) : Cond) ∈ TBG := List.mem_filter.mpr ⟨in_t7 _ (List.mem_of_getElem? (i := 88) rfl), rfl⟩
theorem tw1639 : (.methodLink RX12 334 yX12_isOne : Cond) ∈ TBG := TBG_mem (i := 1639) (by decide +kernel) rfl
theorem tw1641 : (.instanceMethod yX12_isOne : Cond) ∈ TBG := TBG_mem (i := 1641) (by decide +kernel) rfl
set_option maxRecDepth 20000 in
theorem tw1642 : (.code yX12_isOne cX12_isOne 3 (some .boolean) : Cond) ∈ TBG := List.mem_filter.mpr ⟨in_t7 _ (List.mem_of_getElem? (i := 92) rfl), rfl⟩
theorem tw1643 : (.methodLink RX12 340 yX12_laysMost : Cond) ∈ TBG := TBG_mem (i := 1643) (by decide +kernel) rfl
theorem tw1645 : (.instanceMethod yX12_laysMost : Cond) ∈ TBG := TBG_mem (i := 1645) (by decide +kernel) rfl
set_option maxRecDepth 20000 in
theorem tw1646 : (.code yX12_laysMost cX12_laysMost 5 (none) : Cond) ∈ TBG := List.mem_filter.mpr ⟨in_t7 _ (List.mem_of_getElem? (i := 96) rfl), rfl⟩
theorem tw1647 : (.constant RX12 333 (49152) : Cond) ∈ TBG := TBG_mem (i := 1647) (by decide +kernel) rfl
theorem tw1648 : (.methodLink RX12 337 yX12_mayGet : Cond) ∈ TBG := TBG_mem (i := 1648) (by decide +kernel) rfl
theorem tw1650 : (.instanceMethod yX12_mayGet : Cond) ∈ TBG := TBG_mem (i := 1650) (by decide +kernel) rfl
set_option maxRecDepth 20000 in
theorem tw1651 : (.code yX12_mayGet cX12_mayGet 4 (some .boolean) : Cond) ∈ TBG := List.mem_filter.mpr ⟨in_t7 _ (List.mem_of_getElem? (i := 101) rfl), rfl⟩
theorem tw1652 : (.methodLink RX12 343 yX12_getsBy : Cond) ∈ TBG := TBG_mem (i := 1652) (by decide +kernel) rfl
theorem tw1654 : (.instanceMethod yX12_getsBy : Cond) ∈ TBG := TBG_mem (i := 1654) (by decide +kernel) rfl
set_option maxRecDepth 20000 in
theorem tw1655 : (.code yX12_getsBy cX12_getsBy 6 (some .int) : Cond) ∈ TBG := List.mem_filter.mpr ⟨in_t7 _ (List.mem_of_getElem? (i := 105) rfl), rfl⟩
theorem tw1656 : (.methodLink RL 83 yX12_stable : Cond) ∈ TBG := TBG_mem (i := 1656) (by decide +kernel) rfl
theorem tw1657 : (.instanceMethod yX12_stable : Cond) ∈ TBG := TBG_mem (i := 1657) (by decide +kernel) rfl
theorem tw1658 : (.selects RX12 yX12_stable yX12_stable : Cond) ∈ TBG := TBG_mem (i := 1658) (by decide +kernel) rfl
set_option maxRecDepth 20000 in
theorem tw1659 : (.code yX12_stable cX12_stable 4 (some .int) : Cond) ∈ TBG := List.mem_filter.mpr ⟨in_t7 _ (List.mem_of_getElem? (i := 109) rfl), rfl⟩
theorem tw1660 : (.methodLink RX12 352 yX12_laysStable : Cond) ∈ TBG := TBG_mem (i := 1660) (by decide +kernel) rfl
theorem tw1662 : (.instanceMethod yX12_laysStable : Cond) ∈ TBG := TBG_mem (i := 1662) (by decide +kernel) rfl
set_option maxRecDepth 20000 in
theorem tw1663 : (.code yX12_laysStable cX12_laysStable 4 (none) : Cond) ∈ TBG := List.mem_filter.mpr ⟨in_t7 _ (List.mem_of_getElem? (i := 113) rfl), rfl⟩
theorem tw1664 : (.methodLink RX12 346 yX12_nextAsked : Cond) ∈ TBG := TBG_mem (i := 1664) (by decide +kernel) rfl
theorem tw1666 : (.instanceMethod yX12_nextAsked : Cond) ∈ TBG := TBG_mem (i := 1666) (by decide +kernel) rfl
set_option maxRecDepth 20000 in
theorem tw1667 : (.code yX12_nextAsked cX12_nextAsked 4 (some .int) : Cond) ∈ TBG := List.mem_filter.mpr ⟨in_t7 _ (List.mem_of_getElem? (i := 117) rfl), rfl⟩
theorem tw1668 : (.methodLink RX12 349 yX12_keeps : Cond) ∈ TBG := TBG_mem (i := 1668) (by decide +kernel) rfl
theorem tw1670 : (.instanceMethod yX12_keeps : Cond) ∈ TBG := TBG_mem (i := 1670) (by decide +kernel) rfl
set_option maxRecDepth 20000 in
theorem tw1671 : (.code yX12_keeps cX12_keeps 5 (some .boolean) : Cond) ∈ TBG := List.mem_filter.mpr ⟨in_t7 _ (List.mem_of_getElem? (i := 121) rfl), rfl⟩
theorem tw1672 : (.methodLink RL 87 yX12_unrest : Cond) ∈ TBG := TBG_mem (i := 1672) (by decide +kernel) rfl
theorem tw1673 : (.instanceMethod yX12_unrest : Cond) ∈ TBG := TBG_mem (i := 1673) (by decide +kernel) rfl
theorem tw1674 : (.selects RX12 yX12_unrest yX12_unrest : Cond) ∈ TBG := TBG_mem (i := 1674) (by decide +kernel) rfl
set_option maxRecDepth 20000 in
theorem tw1675 : (.code yX12_unrest cX12_unrest 6 (some .int) : Cond) ∈ TBG := List.mem_filter.mpr ⟨in_t7 _ (List.mem_of_getElem? (i := 125) rfl), rfl⟩
theorem tw1676 : (.methodLink RX12 355 yX12_likesWed : Cond) ∈ TBG := TBG_mem (i := 1676) (by decide +kernel) rfl
theorem tw1678 : (.instanceMethod yX12_likesWed : Cond) ∈ TBG := TBG_mem (i := 1678) (by decide +kernel) rfl
set_option maxRecDepth 20000 in
theorem tw1679 : (.code yX12_likesWed cX12_likesWed 2 (some .int) : Cond) ∈ TBG := List.mem_filter.mpr ⟨in_t7 _ (List.mem_of_getElem? (i := 129) rfl), rfl⟩
theorem tw1680 : (.methodLink RL 91 yX12_search : Cond) ∈ TBG := TBG_mem (i := 1680) (by decide +kernel) rfl
theorem tw1681 : (.instanceMethod yX12_search : Cond) ∈ TBG := TBG_mem (i := 1681) (by decide +kernel) rfl
theorem tw1682 : (.selects RX12 yX12_search yX12_search : Cond) ∈ TBG := TBG_mem (i := 1682) (by decide +kernel) rfl
set_option maxRecDepth 20000 in
theorem tw1683 : (.code yX12_search cX12_search 8 (some .int) : Cond) ∈ TBG := List.mem_filter.mpr ⟨in_t7 _ (List.mem_of_getElem? (i := 133) rfl), rfl⟩
theorem tw1684 : (.methodLink RX12 358 yX12_areBounds : Cond) ∈ TBG := TBG_mem (i := 1684) (by decide +kernel) rfl
theorem tw1686 : (.instanceMethod yX12_areBounds : Cond) ∈ TBG := TBG_mem (i := 1686) (by decide +kernel) rfl
set_option maxRecDepth 20000 in
theorem tw1687 : (.code yX12_areBounds cX12_areBounds 5 (some .boolean) : Cond) ∈ TBG := List.mem_filter.mpr ⟨in_t7 _ (List.mem_of_getElem? (i := 137) rfl), rfl⟩
theorem tw1688 : (.methodLink RX12 361 yX12_readsRow : Cond) ∈ TBG := TBG_mem (i := 1688) (by decide +kernel) rfl
theorem tw1690 : (.instanceMethod yX12_readsRow : Cond) ∈ TBG := TBG_mem (i := 1690) (by decide +kernel) rfl
set_option maxRecDepth 20000 in
theorem tw1691 : (.code yX12_readsRow cX12_readsRow 6 (some .boolean) : Cond) ∈ TBG := List.mem_filter.mpr ⟨in_t7 _ (List.mem_of_getElem? (i := 141) rfl), rfl⟩
theorem tw1692 : (.methodLink RX12 364 yX12_sumBy : Cond) ∈ TBG := TBG_mem (i := 1692) (by decide +kernel) rfl
theorem tw1694 : (.instanceMethod yX12_sumBy : Cond) ∈ TBG := TBG_mem (i := 1694) (by decide +kernel) rfl
set_option maxRecDepth 20000 in
theorem tw1695 : (.code yX12_sumBy cX12_sumBy 5 (some .int) : Cond) ∈ TBG := List.mem_filter.mpr ⟨in_t7 _ (List.mem_of_getElem? (i := 145) rfl), rfl⟩
theorem tw1696 : (.methodLink RX12 367 yX12_gcd : Cond) ∈ TBG := TBG_mem (i := 1696) (by decide +kernel) rfl
theorem tw1697 : (.static yX12_gcd : Cond) ∈ TBG := TBG_mem (i := 1697) (by decide +kernel) rfl
set_option maxRecDepth 20000 in
theorem tw1698 : (.code yX12_gcd cX12_gcd 5 (some .int) : Cond) ∈ TBG := List.mem_filter.mpr ⟨in_t7 _ (List.mem_of_getElem? (i := 148) rfl), rfl⟩
theorem tw1699 : (.methodLink RL 96 yX12_sanding : Cond) ∈ TBG := TBG_mem (i := 1699) (by decide +kernel) rfl
theorem tw1700 : (.instanceMethod yX12_sanding : Cond) ∈ TBG := TBG_mem (i := 1700) (by decide +kernel) rfl
theorem tw1701 : (.selects RX12 yX12_sanding yX12_sanding : Cond) ∈ TBG := TBG_mem (i := 1701) (by decide +kernel) rfl
set_option maxRecDepth 20000 in
theorem tw1702 : (.code yX12_sanding cX12_sanding 13 (some .int) : Cond) ∈ TBG := List.mem_filter.mpr ⟨in_t7 _ (List.mem_of_getElem? (i := 152) rfl), rfl⟩
theorem tw1703 : (.methodLink RX12 386 yX12_laysWork : Cond) ∈ TBG := TBG_mem (i := 1703) (by decide +kernel) rfl
theorem tw1705 : (.instanceMethod yX12_laysWork : Cond) ∈ TBG := TBG_mem (i := 1705) (by decide +kernel) rfl
set_option maxRecDepth 20000 in
theorem tw1706 : (.code yX12_laysWork cX12_laysWork 7 (none) : Cond) ∈ TBG := List.mem_filter.mpr ⟨in_t7 _ (List.mem_of_getElem? (i := 156) rfl), rfl⟩
theorem tw1707 : (.methodLink RX12 382 yX12_workBy : Cond) ∈ TBG := TBG_mem (i := 1707) (by decide +kernel) rfl
theorem tw1709 : (.instanceMethod yX12_workBy : Cond) ∈ TBG := TBG_mem (i := 1709) (by decide +kernel) rfl
set_option maxRecDepth 20000 in
theorem tw1710 : (.code yX12_workBy cX12_workBy 8 (some .int) : Cond) ∈ TBG := List.mem_filter.mpr ⟨in_t7 _ (List.mem_of_getElem? (i := 160) rfl), rfl⟩
theorem tw1711 : (.methodLink RX12 376 yX12_workAt : Cond) ∈ TBG := TBG_mem (i := 1711) (by decide +kernel) rfl
theorem tw1713 : (.instanceMethod yX12_workAt : Cond) ∈ TBG := TBG_mem (i := 1713) (by decide +kernel) rfl
set_option maxRecDepth 20000 in
theorem tw1714 : (.code yX12_workAt cX12_workAt 4 (some .int) : Cond) ∈ TBG := List.mem_filter.mpr ⟨in_t7 _ (List.mem_of_getElem? (i := 164) rfl), rfl⟩
theorem tw1715 : (.methodLink RX12 389 yX12_laysSanded : Cond) ∈ TBG := TBG_mem (i := 1715) (by decide +kernel) rfl
theorem tw1717 : (.instanceMethod yX12_laysSanded : Cond) ∈ TBG := TBG_mem (i := 1717) (by decide +kernel) rfl
set_option maxRecDepth 20000 in
theorem tw1718 : (.code yX12_laysSanded cX12_laysSanded 7 (none) : Cond) ∈ TBG := List.mem_filter.mpr ⟨in_t7 _ (List.mem_of_getElem? (i := 168) rfl), rfl⟩
theorem tw1719 : (.methodLink RX12 392 yX12_slackOfSanded : Cond) ∈ TBG := TBG_mem (i := 1719) (by decide +kernel) rfl
theorem tw1721 : (.instanceMethod yX12_slackOfSanded : Cond) ∈ TBG := TBG_mem (i := 1721) (by decide +kernel) rfl
set_option maxRecDepth 20000 in
theorem tw1722 : (.code yX12_slackOfSanded cX12_slackOfSanded 4 (some .int) : Cond) ∈ TBG := List.mem_filter.mpr ⟨in_t7 _ (List.mem_of_getElem? (i := 172) rfl), rfl⟩
theorem tw1723 : (.methodLink RL 101 yX12_steaming : Cond) ∈ TBG := TBG_mem (i := 1723) (by decide +kernel) rfl
theorem tw1724 : (.instanceMethod yX12_steaming : Cond) ∈ TBG := TBG_mem (i := 1724) (by decide +kernel) rfl
theorem tw1725 : (.selects RX12 yX12_steaming yX12_steaming : Cond) ∈ TBG := TBG_mem (i := 1725) (by decide +kernel) rfl
set_option maxRecDepth 20000 in
theorem tw1726 : (.code yX12_steaming cX12_steaming 9 (some .int) : Cond) ∈ TBG := List.mem_filter.mpr ⟨in_t7 _ (List.mem_of_getElem? (i := 176) rfl), rfl⟩
theorem tw1727 : (.methodLink RX12 395 yX12_slackSteamed : Cond) ∈ TBG := TBG_mem (i := 1727) (by decide +kernel) rfl
theorem tw1729 : (.instanceMethod yX12_slackSteamed : Cond) ∈ TBG := TBG_mem (i := 1729) (by decide +kernel) rfl
set_option maxRecDepth 20000 in
theorem tw1730 : (.code yX12_slackSteamed cX12_slackSteamed 8 (some .int) : Cond) ∈ TBG := List.mem_filter.mpr ⟨in_t7 _ (List.mem_of_getElem? (i := 180) rfl), rfl⟩
theorem tw1731 : (.methodLink RL 105 yX12_worn : Cond) ∈ TBG := TBG_mem (i := 1731) (by decide +kernel) rfl
theorem tw1732 : (.instanceMethod yX12_worn : Cond) ∈ TBG := TBG_mem (i := 1732) (by decide +kernel) rfl
theorem tw1733 : (.selects RX12 yX12_worn yX12_worn : Cond) ∈ TBG := TBG_mem (i := 1733) (by decide +kernel) rfl
set_option maxRecDepth 20000 in
theorem tw1734 : (.code yX12_worn cX12_worn 8 (some .int) : Cond) ∈ TBG := List.mem_filter.mpr ⟨in_t7 _ (List.mem_of_getElem? (i := 184) rfl), rfl⟩
theorem tw1735 : (.methodLink RL 109 yX12_cutter : Cond) ∈ TBG := TBG_mem (i := 1735) (by decide +kernel) rfl
theorem tw1736 : (.instanceMethod yX12_cutter : Cond) ∈ TBG := TBG_mem (i := 1736) (by decide +kernel) rfl
theorem tw1737 : (.selects RX12 yX12_cutter yX12_cutter : Cond) ∈ TBG := TBG_mem (i := 1737) (by decide +kernel) rfl
set_option maxRecDepth 20000 in
theorem tw1738 : (.code yX12_cutter cX12_cutter 6 (some .int) : Cond) ∈ TBG := List.mem_filter.mpr ⟨in_t7 _ (List.mem_of_getElem? (i := 188) rfl), rfl⟩
theorem tw1739 : (.methodLink RX12 401 yX12_makesAll : Cond) ∈ TBG := TBG_mem (i := 1739) (by decide +kernel) rfl
theorem tw1741 : (.instanceMethod yX12_makesAll : Cond) ∈ TBG := TBG_mem (i := 1741) (by decide +kernel) rfl
set_option maxRecDepth 20000 in
theorem tw1742 : (.code yX12_makesAll cX12_makesAll 4 (some .boolean) : Cond) ∈ TBG := List.mem_filter.mpr ⟨in_t7 _ (List.mem_of_getElem? (i := 192) rfl), rfl⟩
theorem tw1743 : (.methodLink RX12 398 yX12_makes : Cond) ∈ TBG := TBG_mem (i := 1743) (by decide +kernel) rfl
theorem tw1745 : (.instanceMethod yX12_makes : Cond) ∈ TBG := TBG_mem (i := 1745) (by decide +kernel) rfl
set_option maxRecDepth 20000 in
theorem tw1746 : (.code yX12_makes cX12_makes 8 (some .boolean) : Cond) ∈ TBG := List.mem_filter.mpr ⟨in_t7 _ (List.mem_of_getElem? (i := 196) rfl), rfl⟩
theorem tw1747 : (.methodLink RL 113 yX12_copies : Cond) ∈ TBG := TBG_mem (i := 1747) (by decide +kernel) rfl
theorem tw1748 : (.instanceMethod yX12_copies : Cond) ∈ TBG := TBG_mem (i := 1748) (by decide +kernel) rfl
theorem tw1749 : (.selects RX12 yX12_copies yX12_copies : Cond) ∈ TBG := TBG_mem (i := 1749) (by decide +kernel) rfl
set_option maxRecDepth 20000 in
theorem tw1750 : (.code yX12_copies cX12_copies 6 (some .int) : Cond) ∈ TBG := List.mem_filter.mpr ⟨in_t7 _ (List.mem_of_getElem? (i := 200) rfl), rfl⟩
theorem tw1751 : (.methodLink RX12 404 yX12_areSame : Cond) ∈ TBG := TBG_mem (i := 1751) (by decide +kernel) rfl
theorem tw1753 : (.instanceMethod yX12_areSame : Cond) ∈ TBG := TBG_mem (i := 1753) (by decide +kernel) rfl
set_option maxRecDepth 20000 in
theorem tw1754 : (.code yX12_areSame cX12_areSame 4 (some .boolean) : Cond) ∈ TBG := List.mem_filter.mpr ⟨in_t7 _ (List.mem_of_getElem? (i := 204) rfl), rfl⟩
theorem tw1755 : (.methodLink RL 117 yX12_mate : Cond) ∈ TBG := TBG_mem (i := 1755) (by decide +kernel) rfl
theorem tw1756 : (.instanceMethod yX12_mate : Cond) ∈ TBG := TBG_mem (i := 1756) (by decide +kernel) rfl
theorem tw1757 : (.selects RX12 yX12_mate yX12_mate : Cond) ∈ TBG := TBG_mem (i := 1757) (by decide +kernel) rfl
set_option maxRecDepth 20000 in
theorem tw1758 : (.code yX12_mate cX12_mate 3 (some .int) : Cond) ∈ TBG := List.mem_filter.mpr ⟨in_t7 _ (List.mem_of_getElem? (i := 208) rfl), rfl⟩
theorem tw1759 : (.methodLink RL 121 yX12_seed : Cond) ∈ TBG := TBG_mem (i := 1759) (by decide +kernel) rfl
theorem tw1760 : (.instanceMethod yX12_seed : Cond) ∈ TBG := TBG_mem (i := 1760) (by decide +kernel) rfl
theorem tw1761 : (.selects RX12 yX12_seed yX12_seed : Cond) ∈ TBG := TBG_mem (i := 1761) (by decide +kernel) rfl
set_option maxRecDepth 20000 in
theorem tw1762 : (.code yX12_seed cX12_seed 2 (some .boolean) : Cond) ∈ TBG := List.mem_filter.mpr ⟨in_t7 _ (List.mem_of_getElem? (i := 212) rfl), rfl⟩
theorem tw1763 : (.constant RX12 407 (65535) : Cond) ∈ TBG := TBG_mem (i := 1763) (by decide +kernel) rfl
theorem tw1764 : (.methodLink RL 126 yX12_keep : Cond) ∈ TBG := TBG_mem (i := 1764) (by decide +kernel) rfl
theorem tw1765 : (.instanceMethod yX12_keep : Cond) ∈ TBG := TBG_mem (i := 1765) (by decide +kernel) rfl
theorem tw1766 : (.selects RX12 yX12_keep yX12_keep : Cond) ∈ TBG := TBG_mem (i := 1766) (by decide +kernel) rfl
set_option maxRecDepth 20000 in
theorem tw1767 : (.code yX12_keep cX12_keep 1 (some .int) : Cond) ∈ TBG := List.mem_filter.mpr ⟨in_t7 _ (List.mem_of_getElem? (i := 217) rfl), rfl⟩
theorem tw1768 : (.methodLink RL 131 yX12_undo : Cond) ∈ TBG := TBG_mem (i := 1768) (by decide +kernel) rfl
theorem tw1769 : (.instanceMethod yX12_undo : Cond) ∈ TBG := TBG_mem (i := 1769) (by decide +kernel) rfl
theorem tw1770 : (.selects RX12 yX12_undo yX12_undo : Cond) ∈ TBG := TBG_mem (i := 1770) (by decide +kernel) rfl
set_option maxRecDepth 20000 in
theorem tw1771 : (.code yX12_undo cX12_undo 1 (some .boolean) : Cond) ∈ TBG := List.mem_filter.mpr ⟨in_t7 _ (List.mem_of_getElem? (i := 221) rfl), rfl⟩
theorem tw1772 : (.methodLink RL 135 yX12_check : Cond) ∈ TBG := TBG_mem (i := 1772) (by decide +kernel) rfl
theorem tw1773 : (.instanceMethod yX12_check : Cond) ∈ TBG := TBG_mem (i := 1773) (by decide +kernel) rfl
theorem tw1774 : (.selects RX12 yX12_check yX12_check : Cond) ∈ TBG := TBG_mem (i := 1774) (by decide +kernel) rfl
set_option maxRecDepth 20000 in
theorem tw1775 : (.code yX12_check cX12_check 4 (some .int) : Cond) ∈ TBG := List.mem_filter.mpr ⟨in_t7 _ (List.mem_of_getElem? (i := 225) rfl), rfl⟩
theorem tw1776 : (.methodLink RL 139 yX12_count : Cond) ∈ TBG := TBG_mem (i := 1776) (by decide +kernel) rfl
theorem tw1777 : (.instanceMethod yX12_count : Cond) ∈ TBG := TBG_mem (i := 1777) (by decide +kernel) rfl
theorem tw1778 : (.selects RX12 yX12_count yX12_count : Cond) ∈ TBG := TBG_mem (i := 1778) (by decide +kernel) rfl
set_option maxRecDepth 20000 in
theorem tw1779 : (.code yX12_count cX12_count 4 (some .int) : Cond) ∈ TBG := List.mem_filter.mpr ⟨in_t7 _ (List.mem_of_getElem? (i := 229) rfl), rfl⟩
theorem tw1780 : (.fieldLink RJ0 15 "java/lang/String" "coder" "B" : Cond) ∈ TBG := TBG_mem (i := 1780) (by decide +kernel) rfl
theorem tw1781 : (.fieldLink RJ0 9 "java/lang/String" "value" "[B" : Cond) ∈ TBG := TBG_mem (i := 1781) (by decide +kernel) rfl
theorem sh_X0 : ∀ a, shk a = 0 → shn a = 11 := fun a h => (show ∀ a, a < shN → shk a = 0 → shn a = 11 by decide +kernel) a (shk_lt h (by decide)) h
theorem in_X0 : ∀ w ∈ u_ws RX0 TX0 11, w ∈ TBG := by
  intro w hw
  have h := List.all_eq_true.mp (show (u_ws RX0 TX0 11).all (fun w => decide (w ∈ lw_tbl) && goodWord w) = true by decide +kernel) w hw
  simp only [Bool.and_eq_true, decide_eq_true_eq] at h
  exact List.mem_filter.mpr ⟨h.1, h.2⟩
theorem sh_X1 : ∀ a, shk a = 1 → shn a = 4 := fun a h => (show ∀ a, a < shN → shk a = 1 → shn a = 4 by decide +kernel) a (shk_lt h (by decide)) h
theorem in_X1 : ∀ w ∈ u_ws RX1 TX1 4, w ∈ TBG := by
  intro w hw
  have h := List.all_eq_true.mp (show (u_ws RX1 TX1 4).all (fun w => decide (w ∈ lw_tbl) && goodWord w) = true by decide +kernel) w hw
  simp only [Bool.and_eq_true, decide_eq_true_eq] at h
  exact List.mem_filter.mpr ⟨h.1, h.2⟩
theorem sh_X2 : ∀ a, shk a = 2 → shn a = 2 := fun a h => (show ∀ a, a < shN → shk a = 2 → shn a = 2 by decide +kernel) a (shk_lt h (by decide)) h
theorem in_X2 : ∀ w ∈ u_ws RX2 TX2 2, w ∈ TBG := by
  intro w hw
  have h := List.all_eq_true.mp (show (u_ws RX2 TX2 2).all (fun w => decide (w ∈ lw_tbl) && goodWord w) = true by decide +kernel) w hw
  simp only [Bool.and_eq_true, decide_eq_true_eq] at h
  exact List.mem_filter.mpr ⟨h.1, h.2⟩
theorem sh_X3 : ∀ a, shk a = 3 → shn a = 15 := fun a h => (show ∀ a, a < shN → shk a = 3 → shn a = 15 by decide +kernel) a (shk_lt h (by decide)) h
theorem in_X3 : ∀ w ∈ u_ws RX3 TX3 15, w ∈ TBG := by
  intro w hw
  have h := List.all_eq_true.mp (show (u_ws RX3 TX3 15).all (fun w => decide (w ∈ lw_tbl) && goodWord w) = true by decide +kernel) w hw
  simp only [Bool.and_eq_true, decide_eq_true_eq] at h
  exact List.mem_filter.mpr ⟨h.1, h.2⟩
theorem sh_X4 : ∀ a, shk a = 4 → shn a = 7 := fun a h => (show ∀ a, a < shN → shk a = 4 → shn a = 7 by decide +kernel) a (shk_lt h (by decide)) h
theorem in_X4 : ∀ w ∈ u_ws RX4 TX4 7, w ∈ TBG := by
  intro w hw
  have h := List.all_eq_true.mp (show (u_ws RX4 TX4 7).all (fun w => decide (w ∈ lw_tbl) && goodWord w) = true by decide +kernel) w hw
  simp only [Bool.and_eq_true, decide_eq_true_eq] at h
  exact List.mem_filter.mpr ⟨h.1, h.2⟩
theorem sh_X5 : ∀ a, shk a = 5 → shn a = 5 := fun a h => (show ∀ a, a < shN → shk a = 5 → shn a = 5 by decide +kernel) a (shk_lt h (by decide)) h
theorem in_X5 : ∀ w ∈ u_ws RX5 TX5 5, w ∈ TBG := by
  intro w hw
  have h := List.all_eq_true.mp (show (u_ws RX5 TX5 5).all (fun w => decide (w ∈ lw_tbl) && goodWord w) = true by decide +kernel) w hw
  simp only [Bool.and_eq_true, decide_eq_true_eq] at h
  exact List.mem_filter.mpr ⟨h.1, h.2⟩
theorem sh_X6 : ∀ a, shk a = 6 → shn a = 8 := fun a h => (show ∀ a, a < shN → shk a = 6 → shn a = 8 by decide +kernel) a (shk_lt h (by decide)) h
theorem in_X6 : ∀ w ∈ u_ws RX6 TX6 8, w ∈ TBG := by
  intro w hw
  have h := List.all_eq_true.mp (show (u_ws RX6 TX6 8).all (fun w => decide (w ∈ lw_tbl) && goodWord w) = true by decide +kernel) w hw
  simp only [Bool.and_eq_true, decide_eq_true_eq] at h
  exact List.mem_filter.mpr ⟨h.1, h.2⟩
theorem sh_X8 : ∀ a, shk a = 7 → shn a = 11 := fun a h => (show ∀ a, a < shN → shk a = 7 → shn a = 11 by decide +kernel) a (shk_lt h (by decide)) h
theorem in_X8 : ∀ w ∈ u_ws RX8 TX8 11, w ∈ TBG := by
  intro w hw
  have h := List.all_eq_true.mp (show (u_ws RX8 TX8 11).all (fun w => decide (w ∈ lw_tbl) && goodWord w) = true by decide +kernel) w hw
  simp only [Bool.and_eq_true, decide_eq_true_eq] at h
  exact List.mem_filter.mpr ⟨h.1, h.2⟩
theorem sh_X9 : ∀ a, shk a = 8 → shn a = 8 := fun a h => (show ∀ a, a < shN → shk a = 8 → shn a = 8 by decide +kernel) a (shk_lt h (by decide)) h
theorem in_X9 : ∀ w ∈ u_ws RX9 TX9 8, w ∈ TBG := by
  intro w hw
  have h := List.all_eq_true.mp (show (u_ws RX9 TX9 8).all (fun w => decide (w ∈ lw_tbl) && goodWord w) = true by decide +kernel) w hw
  simp only [Bool.and_eq_true, decide_eq_true_eq] at h
  exact List.mem_filter.mpr ⟨h.1, h.2⟩
theorem sh_X10 : ∀ a, shk a = 9 → shn a = 2 := fun a h => (show ∀ a, a < shN → shk a = 9 → shn a = 2 by decide +kernel) a (shk_lt h (by decide)) h
theorem in_X10 : ∀ w ∈ u_ws RX10 TX10 2, w ∈ TBG := by
  intro w hw
  have h := List.all_eq_true.mp (show (u_ws RX10 TX10 2).all (fun w => decide (w ∈ lw_tbl) && goodWord w) = true by decide +kernel) w hw
  simp only [Bool.and_eq_true, decide_eq_true_eq] at h
  exact List.mem_filter.mpr ⟨h.1, h.2⟩
theorem sh_X11 : ∀ a, shk a = 10 → shn a = 15 := fun a h => (show ∀ a, a < shN → shk a = 10 → shn a = 15 by decide +kernel) a (shk_lt h (by decide)) h
theorem in_X11 : ∀ w ∈ u_ws RX11 TX11 15, w ∈ TBG := by
  intro w hw
  have h := List.all_eq_true.mp (show (u_ws RX11 TX11 15).all (fun w => decide (w ∈ lw_tbl) && goodWord w) = true by decide +kernel) w hw
  simp only [Bool.and_eq_true, decide_eq_true_eq] at h
  exact List.mem_filter.mpr ⟨h.1, h.2⟩
theorem sh_X12 : ∀ a, shk a = 11 → shn a = 47 := fun a h => (show ∀ a, a < shN → shk a = 11 → shn a = 47 by decide +kernel) a (shk_lt h (by decide)) h
theorem in_X12 : ∀ w ∈ u_ws RX12 TX12 47, w ∈ TBG := by
  intro w hw
  have h := List.all_eq_true.mp (show (u_ws RX12 TX12 47).all (fun w => decide (w ∈ lw_tbl) && goodWord w) = true by decide +kernel) w hw
  simp only [Bool.and_eq_true, decide_eq_true_eq] at h
  exact List.mem_filter.mpr ⟨h.1, h.2⟩
def pl_X0 : PL := ([(55, 194), (9, 0), (15, 1), (43, 2), (46, 3), (19, 4), (22, 5), (36, 6), (40, 7), (27, 8), (30, 9), (33, 10)], [], [], [])
theorem fo_X0_55_194 : FOK RX0 55 194 := ⟨RX3, TX3, 15, "PuzzleWed$Land", rfl, by decide, by decide, sh_X3, in_X3, tw154, Or.inl rfl, rfl, fun h => by first | rfl | decide +kernel | exact absurd h (by decide), ⟨tyX3, tyX3_ok⟩, nmX3⟩
theorem fo_X0_9_0 : FOK RX0 9 0 := ⟨RX0, TX0, 11, "PuzzleWed$Couples", rfl, by decide, by decide, sh_X0, in_X0, tw386, Or.inl rfl, rfl, fun h => by first | rfl | decide +kernel | exact absurd h (by decide), ⟨tyX0, tyX0_ok⟩, nmX0⟩
theorem fo_X0_15_1 : FOK RX0 15 1 := ⟨RX0, TX0, 11, "PuzzleWed$Couples", rfl, by decide, by decide, sh_X0, in_X0, tw387, Or.inl rfl, rfl, fun h => by first | rfl | decide +kernel | exact absurd h (by decide), ⟨tyX0, tyX0_ok⟩, nmX0⟩
theorem fo_X0_43_2 : FOK RX0 43 2 := ⟨RX0, TX0, 11, "PuzzleWed$Couples", rfl, by decide, by decide, sh_X0, in_X0, tw389, Or.inl rfl, rfl, fun h => by first | rfl | decide +kernel | exact absurd h (by decide), ⟨tyX0, tyX0_ok⟩, nmX0⟩
theorem fo_X0_46_3 : FOK RX0 46 3 := ⟨RX0, TX0, 11, "PuzzleWed$Couples", rfl, by decide, by decide, sh_X0, in_X0, tw391, Or.inl rfl, rfl, fun h => by first | rfl | decide +kernel | exact absurd h (by decide), ⟨tyX0, tyX0_ok⟩, nmX0⟩
theorem fo_X0_19_4 : FOK RX0 19 4 := ⟨RX0, TX0, 11, "PuzzleWed$Couples", rfl, by decide, by decide, sh_X0, in_X0, tw393, Or.inl rfl, rfl, fun h => by first | rfl | decide +kernel | exact absurd h (by decide), ⟨tyX0, tyX0_ok⟩, nmX0⟩
theorem fo_X0_22_5 : FOK RX0 22 5 := ⟨RX0, TX0, 11, "PuzzleWed$Couples", rfl, by decide, by decide, sh_X0, in_X0, tw394, Or.inl rfl, rfl, fun h => by first | rfl | decide +kernel | exact absurd h (by decide), ⟨tyX0, tyX0_ok⟩, nmX0⟩
theorem fo_X0_36_6 : FOK RX0 36 6 := ⟨RX0, TX0, 11, "PuzzleWed$Couples", rfl, by decide, by decide, sh_X0, in_X0, tw395, Or.inl rfl, rfl, fun h => by first | rfl | decide +kernel | exact absurd h (by decide), ⟨tyX0, tyX0_ok⟩, nmX0⟩
theorem fo_X0_40_7 : FOK RX0 40 7 := ⟨RX0, TX0, 11, "PuzzleWed$Couples", rfl, by decide, by decide, sh_X0, in_X0, tw396, Or.inl rfl, rfl, fun h => by first | rfl | decide +kernel | exact absurd h (by decide), ⟨tyX0, tyX0_ok⟩, nmX0⟩
theorem fo_X0_27_8 : FOK RX0 27 8 := ⟨RX0, TX0, 11, "PuzzleWed$Couples", rfl, by decide, by decide, sh_X0, in_X0, tw397, Or.inl rfl, rfl, fun h => by first | rfl | decide +kernel | exact absurd h (by decide), ⟨tyX0, tyX0_ok⟩, nmX0⟩
theorem fo_X0_30_9 : FOK RX0 30 9 := ⟨RX0, TX0, 11, "PuzzleWed$Couples", rfl, by decide, by decide, sh_X0, in_X0, tw398, Or.inl rfl, rfl, fun h => by first | rfl | decide +kernel | exact absurd h (by decide), ⟨tyX0, tyX0_ok⟩, nmX0⟩
theorem fo_X0_33_10 : FOK RX0 33 10 := ⟨RX0, TX0, 11, "PuzzleWed$Couples", rfl, by decide, by decide, sh_X0, in_X0, tw399, Or.inl rfl, rfl, fun h => by first | rfl | decide +kernel | exact absurd h (by decide), ⟨tyX0, tyX0_ok⟩, nmX0⟩
theorem pk_X0 : PLOK RX0 pl_X0 := ⟨List.forall_mem_cons.mpr ⟨fo_X0_55_194, List.forall_mem_cons.mpr ⟨fo_X0_9_0, List.forall_mem_cons.mpr ⟨fo_X0_15_1, List.forall_mem_cons.mpr ⟨fo_X0_43_2, List.forall_mem_cons.mpr ⟨fo_X0_46_3, List.forall_mem_cons.mpr ⟨fo_X0_19_4, List.forall_mem_cons.mpr ⟨fo_X0_22_5, List.forall_mem_cons.mpr ⟨fo_X0_36_6, List.forall_mem_cons.mpr ⟨fo_X0_40_7, List.forall_mem_cons.mpr ⟨fo_X0_27_8, List.forall_mem_cons.mpr ⟨fo_X0_30_9, List.forall_mem_cons.mpr ⟨fo_X0_33_10, List.forall_mem_nil _⟩⟩⟩⟩⟩⟩⟩⟩⟩⟩⟩⟩, List.forall_mem_nil _, List.forall_mem_nil _, List.forall_mem_nil _⟩
def pl_X1 : PL := ([(81, 194), (51, 195), (88, 196), (105, 197), (54, 202), (48, 203), (40, 204), (25, 205), (9, 64), (15, 65), (19, 66), (22, 67)], [], [], [])
theorem fo_X1_81_194 : FOK RX1 81 194 := ⟨RX3, TX3, 15, "PuzzleWed$Land", rfl, by decide, by decide, sh_X3, in_X3, tw156, Or.inl rfl, rfl, fun h => by first | rfl | decide +kernel | exact absurd h (by decide), ⟨tyX3, tyX3_ok⟩, nmX3⟩
theorem fo_X1_51_195 : FOK RX1 51 195 := ⟨RX3, TX3, 15, "PuzzleWed$Land", rfl, by decide, by decide, sh_X3, in_X3, tw160, Or.inl rfl, rfl, fun h => by first | rfl | decide +kernel | exact absurd h (by decide), ⟨tyX3, tyX3_ok⟩, nmX3⟩
theorem fo_X1_88_196 : FOK RX1 88 196 := ⟨RX3, TX3, 15, "PuzzleWed$Land", rfl, by decide, by decide, sh_X3, in_X3, tw163, Or.inl rfl, rfl, fun h => by first | rfl | decide +kernel | exact absurd h (by decide), ⟨tyX3, tyX3_ok⟩, nmX3⟩
theorem fo_X1_105_197 : FOK RX1 105 197 := ⟨RX3, TX3, 15, "PuzzleWed$Land", rfl, by decide, by decide, sh_X3, in_X3, tw167, Or.inl rfl, rfl, fun h => by first | rfl | decide +kernel | exact absurd h (by decide), ⟨tyX3, tyX3_ok⟩, nmX3⟩
theorem fo_X1_54_202 : FOK RX1 54 202 := ⟨RX3, TX3, 15, "PuzzleWed$Land", rfl, by decide, by decide, sh_X3, in_X3, tw182, Or.inl rfl, rfl, fun h => by first | rfl | decide +kernel | exact absurd h (by decide), ⟨tyX3, tyX3_ok⟩, nmX3⟩
theorem fo_X1_48_203 : FOK RX1 48 203 := ⟨RX3, TX3, 15, "PuzzleWed$Land", rfl, by decide, by decide, sh_X3, in_X3, tw185, Or.inl rfl, rfl, fun h => by first | rfl | decide +kernel | exact absurd h (by decide), ⟨tyX3, tyX3_ok⟩, nmX3⟩
theorem fo_X1_40_204 : FOK RX1 40 204 := ⟨RX3, TX3, 15, "PuzzleWed$Land", rfl, by decide, by decide, sh_X3, in_X3, tw188, Or.inl rfl, rfl, fun h => by first | rfl | decide +kernel | exact absurd h (by decide), ⟨tyX3, tyX3_ok⟩, nmX3⟩
theorem fo_X1_25_205 : FOK RX1 25 205 := ⟨RX3, TX3, 15, "PuzzleWed$Land", rfl, by decide, by decide, sh_X3, in_X3, tw190, Or.inl rfl, rfl, fun h => by first | rfl | decide +kernel | exact absurd h (by decide), ⟨tyX3, tyX3_ok⟩, nmX3⟩
theorem fo_X1_9_64 : FOK RX1 9 64 := ⟨RX1, TX1, 4, "PuzzleWed$Course", rfl, by decide, by decide, sh_X1, in_X1, tw363, Or.inl rfl, rfl, fun h => by first | rfl | decide +kernel | exact absurd h (by decide), ⟨tyX1, tyX1_ok⟩, nmX1⟩
theorem fo_X1_15_65 : FOK RX1 15 65 := ⟨RX1, TX1, 4, "PuzzleWed$Course", rfl, by decide, by decide, sh_X1, in_X1, tw364, Or.inl rfl, rfl, fun h => by first | rfl | decide +kernel | exact absurd h (by decide), ⟨tyX1, tyX1_ok⟩, nmX1⟩
theorem fo_X1_19_66 : FOK RX1 19 66 := ⟨RX1, TX1, 4, "PuzzleWed$Course", rfl, by decide, by decide, sh_X1, in_X1, tw366, Or.inl rfl, rfl, fun h => by first | rfl | decide +kernel | exact absurd h (by decide), ⟨tyX1, tyX1_ok⟩, nmX1⟩
theorem fo_X1_22_67 : FOK RX1 22 67 := ⟨RX1, TX1, 4, "PuzzleWed$Course", rfl, by decide, by decide, sh_X1, in_X1, tw368, Or.inl rfl, rfl, fun h => by first | rfl | decide +kernel | exact absurd h (by decide), ⟨tyX1, tyX1_ok⟩, nmX1⟩
theorem pk_X1 : PLOK RX1 pl_X1 := ⟨List.forall_mem_cons.mpr ⟨fo_X1_81_194, List.forall_mem_cons.mpr ⟨fo_X1_51_195, List.forall_mem_cons.mpr ⟨fo_X1_88_196, List.forall_mem_cons.mpr ⟨fo_X1_105_197, List.forall_mem_cons.mpr ⟨fo_X1_54_202, List.forall_mem_cons.mpr ⟨fo_X1_48_203, List.forall_mem_cons.mpr ⟨fo_X1_40_204, List.forall_mem_cons.mpr ⟨fo_X1_25_205, List.forall_mem_cons.mpr ⟨fo_X1_9_64, List.forall_mem_cons.mpr ⟨fo_X1_15_65, List.forall_mem_cons.mpr ⟨fo_X1_19_66, List.forall_mem_cons.mpr ⟨fo_X1_22_67, List.forall_mem_nil _⟩⟩⟩⟩⟩⟩⟩⟩⟩⟩⟩⟩, List.forall_mem_nil _, List.forall_mem_nil _, List.forall_mem_nil _⟩
def pl_X2 : PL := ([(70, 194), (109, 195), (67, 196), (115, 197), (25, 199), (38, 200), (30, 201), (112, 205), (83, 257), (93, 258), (86, 259), (77, 262), (9, 128), (15, 129)], [], [], [])
theorem fo_X2_70_194 : FOK RX2 70 194 := ⟨RX3, TX3, 15, "PuzzleWed$Land", rfl, by decide, by decide, sh_X3, in_X3, tw157, Or.inl rfl, rfl, fun h => by first | rfl | decide +kernel | exact absurd h (by decide), ⟨tyX3, tyX3_ok⟩, nmX3⟩
theorem fo_X2_109_195 : FOK RX2 109 195 := ⟨RX3, TX3, 15, "PuzzleWed$Land", rfl, by decide, by decide, sh_X3, in_X3, tw161, Or.inl rfl, rfl, fun h => by first | rfl | decide +kernel | exact absurd h (by decide), ⟨tyX3, tyX3_ok⟩, nmX3⟩
theorem fo_X2_67_196 : FOK RX2 67 196 := ⟨RX3, TX3, 15, "PuzzleWed$Land", rfl, by decide, by decide, sh_X3, in_X3, tw164, Or.inl rfl, rfl, fun h => by first | rfl | decide +kernel | exact absurd h (by decide), ⟨tyX3, tyX3_ok⟩, nmX3⟩
theorem fo_X2_115_197 : FOK RX2 115 197 := ⟨RX3, TX3, 15, "PuzzleWed$Land", rfl, by decide, by decide, sh_X3, in_X3, tw168, Or.inl rfl, rfl, fun h => by first | rfl | decide +kernel | exact absurd h (by decide), ⟨tyX3, tyX3_ok⟩, nmX3⟩
theorem fo_X2_25_199 : FOK RX2 25 199 := ⟨RX3, TX3, 15, "PuzzleWed$Land", rfl, by decide, by decide, sh_X3, in_X3, tw173, Or.inl rfl, rfl, fun h => by first | rfl | decide +kernel | exact absurd h (by decide), ⟨tyX3, tyX3_ok⟩, nmX3⟩
theorem fo_X2_38_200 : FOK RX2 38 200 := ⟨RX3, TX3, 15, "PuzzleWed$Land", rfl, by decide, by decide, sh_X3, in_X3, tw177, Or.inl rfl, rfl, fun h => by first | rfl | decide +kernel | exact absurd h (by decide), ⟨tyX3, tyX3_ok⟩, nmX3⟩
theorem fo_X2_30_201 : FOK RX2 30 201 := ⟨RX3, TX3, 15, "PuzzleWed$Land", rfl, by decide, by decide, sh_X3, in_X3, tw179, Or.inl rfl, rfl, fun h => by first | rfl | decide +kernel | exact absurd h (by decide), ⟨tyX3, tyX3_ok⟩, nmX3⟩
theorem fo_X2_112_205 : FOK RX2 112 205 := ⟨RX3, TX3, 15, "PuzzleWed$Land", rfl, by decide, by decide, sh_X3, in_X3, tw191, Or.inl rfl, rfl, fun h => by first | rfl | decide +kernel | exact absurd h (by decide), ⟨tyX3, tyX3_ok⟩, nmX3⟩
theorem fo_X2_83_257 : FOK RX2 83 257 := ⟨RX4, TX4, 7, "PuzzleWed$Law", rfl, by decide, by decide, sh_X4, in_X4, tw255, Or.inl rfl, rfl, fun h => by first | rfl | decide +kernel | exact absurd h (by decide), ⟨tyX4, tyX4_ok⟩, nmX4⟩
theorem fo_X2_93_258 : FOK RX2 93 258 := ⟨RX4, TX4, 7, "PuzzleWed$Law", rfl, by decide, by decide, sh_X4, in_X4, tw258, Or.inl rfl, rfl, fun h => by first | rfl | decide +kernel | exact absurd h (by decide), ⟨tyX4, tyX4_ok⟩, nmX4⟩
theorem fo_X2_86_259 : FOK RX2 86 259 := ⟨RX4, TX4, 7, "PuzzleWed$Law", rfl, by decide, by decide, sh_X4, in_X4, tw261, Or.inl rfl, rfl, fun h => by first | rfl | decide +kernel | exact absurd h (by decide), ⟨tyX4, tyX4_ok⟩, nmX4⟩
theorem fo_X2_77_262 : FOK RX2 77 262 := ⟨RX4, TX4, 7, "PuzzleWed$Law", rfl, by decide, by decide, sh_X4, in_X4, tw268, Or.inl rfl, rfl, fun h => by first | rfl | decide +kernel | exact absurd h (by decide), ⟨tyX4, tyX4_ok⟩, nmX4⟩
theorem fo_X2_9_128 : FOK RX2 9 128 := ⟨RX2, TX2, 2, "PuzzleWed$Judge", rfl, by decide, by decide, sh_X2, in_X2, tw350, Or.inl rfl, rfl, fun h => by first | rfl | decide +kernel | exact absurd h (by decide), ⟨tyX2, tyX2_ok⟩, nmX2⟩
theorem fo_X2_15_129 : FOK RX2 15 129 := ⟨RX2, TX2, 2, "PuzzleWed$Judge", rfl, by decide, by decide, sh_X2, in_X2, tw351, Or.inl rfl, rfl, fun h => by first | rfl | decide +kernel | exact absurd h (by decide), ⟨tyX2, tyX2_ok⟩, nmX2⟩
theorem pk_X2 : PLOK RX2 pl_X2 := ⟨List.forall_mem_cons.mpr ⟨fo_X2_70_194, List.forall_mem_cons.mpr ⟨fo_X2_109_195, List.forall_mem_cons.mpr ⟨fo_X2_67_196, List.forall_mem_cons.mpr ⟨fo_X2_115_197, List.forall_mem_cons.mpr ⟨fo_X2_25_199, List.forall_mem_cons.mpr ⟨fo_X2_38_200, List.forall_mem_cons.mpr ⟨fo_X2_30_201, List.forall_mem_cons.mpr ⟨fo_X2_112_205, List.forall_mem_cons.mpr ⟨fo_X2_83_257, List.forall_mem_cons.mpr ⟨fo_X2_93_258, List.forall_mem_cons.mpr ⟨fo_X2_86_259, List.forall_mem_cons.mpr ⟨fo_X2_77_262, List.forall_mem_cons.mpr ⟨fo_X2_9_128, List.forall_mem_cons.mpr ⟨fo_X2_15_129, List.forall_mem_nil _⟩⟩⟩⟩⟩⟩⟩⟩⟩⟩⟩⟩⟩⟩, List.forall_mem_nil _, List.forall_mem_nil _, List.forall_mem_nil _⟩
def pl_X3 : PL := ([(55, 192), (58, 193), (9, 194), (15, 195), (18, 196), (21, 197), (24, 198), (27, 199), (30, 200), (35, 201), (38, 202), (41, 203), (44, 204), (75, 205), (47, 206)], [(74, 65535)], [], [])
theorem fo_X3_55_192 : FOK RX3 55 192 := ⟨RX3, TX3, 15, "PuzzleWed$Land", rfl, by decide, by decide, sh_X3, in_X3, tw149, Or.inl rfl, rfl, fun h => by first | rfl | decide +kernel | exact absurd h (by decide), ⟨tyX3, tyX3_ok⟩, nmX3⟩
theorem fo_X3_58_193 : FOK RX3 58 193 := ⟨RX3, TX3, 15, "PuzzleWed$Land", rfl, by decide, by decide, sh_X3, in_X3, tw152, Or.inl rfl, rfl, fun h => by first | rfl | decide +kernel | exact absurd h (by decide), ⟨tyX3, tyX3_ok⟩, nmX3⟩
theorem fo_X3_9_194 : FOK RX3 9 194 := ⟨RX3, TX3, 15, "PuzzleWed$Land", rfl, by decide, by decide, sh_X3, in_X3, tw153, Or.inl rfl, rfl, fun h => by first | rfl | decide +kernel | exact absurd h (by decide), ⟨tyX3, tyX3_ok⟩, nmX3⟩
theorem fo_X3_15_195 : FOK RX3 15 195 := ⟨RX3, TX3, 15, "PuzzleWed$Land", rfl, by decide, by decide, sh_X3, in_X3, tw158, Or.inl rfl, rfl, fun h => by first | rfl | decide +kernel | exact absurd h (by decide), ⟨tyX3, tyX3_ok⟩, nmX3⟩
theorem fo_X3_18_196 : FOK RX3 18 196 := ⟨RX3, TX3, 15, "PuzzleWed$Land", rfl, by decide, by decide, sh_X3, in_X3, tw162, Or.inl rfl, rfl, fun h => by first | rfl | decide +kernel | exact absurd h (by decide), ⟨tyX3, tyX3_ok⟩, nmX3⟩
theorem fo_X3_21_197 : FOK RX3 21 197 := ⟨RX3, TX3, 15, "PuzzleWed$Land", rfl, by decide, by decide, sh_X3, in_X3, tw166, Or.inl rfl, rfl, fun h => by first | rfl | decide +kernel | exact absurd h (by decide), ⟨tyX3, tyX3_ok⟩, nmX3⟩
theorem fo_X3_24_198 : FOK RX3 24 198 := ⟨RX3, TX3, 15, "PuzzleWed$Land", rfl, by decide, by decide, sh_X3, in_X3, tw170, Or.inl rfl, rfl, fun h => by first | rfl | decide +kernel | exact absurd h (by decide), ⟨tyX3, tyX3_ok⟩, nmX3⟩
theorem fo_X3_27_199 : FOK RX3 27 199 := ⟨RX3, TX3, 15, "PuzzleWed$Land", rfl, by decide, by decide, sh_X3, in_X3, tw172, Or.inl rfl, rfl, fun h => by first | rfl | decide +kernel | exact absurd h (by decide), ⟨tyX3, tyX3_ok⟩, nmX3⟩
theorem fo_X3_30_200 : FOK RX3 30 200 := ⟨RX3, TX3, 15, "PuzzleWed$Land", rfl, by decide, by decide, sh_X3, in_X3, tw175, Or.inl rfl, rfl, fun h => by first | rfl | decide +kernel | exact absurd h (by decide), ⟨tyX3, tyX3_ok⟩, nmX3⟩
theorem fo_X3_35_201 : FOK RX3 35 201 := ⟨RX3, TX3, 15, "PuzzleWed$Land", rfl, by decide, by decide, sh_X3, in_X3, tw178, Or.inl rfl, rfl, fun h => by first | rfl | decide +kernel | exact absurd h (by decide), ⟨tyX3, tyX3_ok⟩, nmX3⟩
theorem fo_X3_38_202 : FOK RX3 38 202 := ⟨RX3, TX3, 15, "PuzzleWed$Land", rfl, by decide, by decide, sh_X3, in_X3, tw181, Or.inl rfl, rfl, fun h => by first | rfl | decide +kernel | exact absurd h (by decide), ⟨tyX3, tyX3_ok⟩, nmX3⟩
theorem fo_X3_41_203 : FOK RX3 41 203 := ⟨RX3, TX3, 15, "PuzzleWed$Land", rfl, by decide, by decide, sh_X3, in_X3, tw184, Or.inl rfl, rfl, fun h => by first | rfl | decide +kernel | exact absurd h (by decide), ⟨tyX3, tyX3_ok⟩, nmX3⟩
theorem fo_X3_44_204 : FOK RX3 44 204 := ⟨RX3, TX3, 15, "PuzzleWed$Land", rfl, by decide, by decide, sh_X3, in_X3, tw187, Or.inl rfl, rfl, fun h => by first | rfl | decide +kernel | exact absurd h (by decide), ⟨tyX3, tyX3_ok⟩, nmX3⟩
theorem fo_X3_75_205 : FOK RX3 75 205 := ⟨RX3, TX3, 15, "PuzzleWed$Land", rfl, by decide, by decide, sh_X3, in_X3, tw192, Or.inl rfl, rfl, fun h => by first | rfl | decide +kernel | exact absurd h (by decide), ⟨tyX3, tyX3_ok⟩, nmX3⟩
theorem fo_X3_47_206 : FOK RX3 47 206 := ⟨RX3, TX3, 15, "PuzzleWed$Land", rfl, by decide, by decide, sh_X3, in_X3, tw194, Or.inl rfl, rfl, fun h => by first | rfl | decide +kernel | exact absurd h (by decide), ⟨tyX3, tyX3_ok⟩, nmX3⟩
theorem pk_X3 : PLOK RX3 pl_X3 := ⟨List.forall_mem_cons.mpr ⟨fo_X3_55_192, List.forall_mem_cons.mpr ⟨fo_X3_58_193, List.forall_mem_cons.mpr ⟨fo_X3_9_194, List.forall_mem_cons.mpr ⟨fo_X3_15_195, List.forall_mem_cons.mpr ⟨fo_X3_18_196, List.forall_mem_cons.mpr ⟨fo_X3_21_197, List.forall_mem_cons.mpr ⟨fo_X3_24_198, List.forall_mem_cons.mpr ⟨fo_X3_27_199, List.forall_mem_cons.mpr ⟨fo_X3_30_200, List.forall_mem_cons.mpr ⟨fo_X3_35_201, List.forall_mem_cons.mpr ⟨fo_X3_38_202, List.forall_mem_cons.mpr ⟨fo_X3_41_203, List.forall_mem_cons.mpr ⟨fo_X3_44_204, List.forall_mem_cons.mpr ⟨fo_X3_75_205, List.forall_mem_cons.mpr ⟨fo_X3_47_206, List.forall_mem_nil _⟩⟩⟩⟩⟩⟩⟩⟩⟩⟩⟩⟩⟩⟩⟩, List.forall_mem_cons.mpr ⟨tw936, List.forall_mem_nil _⟩, List.forall_mem_nil _, List.forall_mem_nil _⟩
def pl_X4 : PL := ([(11, 256), (15, 257), (18, 258), (21, 259), (24, 260), (27, 261), (37, 262)], [], [], [])
theorem fo_X4_11_256 : FOK RX4 11 256 := ⟨RX4, TX4, 7, "PuzzleWed$Law", rfl, by decide, by decide, sh_X4, in_X4, tw251, Or.inl rfl, rfl, fun h => by first | rfl | decide +kernel | exact absurd h (by decide), ⟨tyX4, tyX4_ok⟩, nmX4⟩
theorem fo_X4_15_257 : FOK RX4 15 257 := ⟨RX4, TX4, 7, "PuzzleWed$Law", rfl, by decide, by decide, sh_X4, in_X4, tw253, Or.inl rfl, rfl, fun h => by first | rfl | decide +kernel | exact absurd h (by decide), ⟨tyX4, tyX4_ok⟩, nmX4⟩
theorem fo_X4_18_258 : FOK RX4 18 258 := ⟨RX4, TX4, 7, "PuzzleWed$Law", rfl, by decide, by decide, sh_X4, in_X4, tw256, Or.inl rfl, rfl, fun h => by first | rfl | decide +kernel | exact absurd h (by decide), ⟨tyX4, tyX4_ok⟩, nmX4⟩
theorem fo_X4_21_259 : FOK RX4 21 259 := ⟨RX4, TX4, 7, "PuzzleWed$Law", rfl, by decide, by decide, sh_X4, in_X4, tw259, Or.inl rfl, rfl, fun h => by first | rfl | decide +kernel | exact absurd h (by decide), ⟨tyX4, tyX4_ok⟩, nmX4⟩
theorem fo_X4_24_260 : FOK RX4 24 260 := ⟨RX4, TX4, 7, "PuzzleWed$Law", rfl, by decide, by decide, sh_X4, in_X4, tw262, Or.inl rfl, rfl, fun h => by first | rfl | decide +kernel | exact absurd h (by decide), ⟨tyX4, tyX4_ok⟩, nmX4⟩
theorem fo_X4_27_261 : FOK RX4 27 261 := ⟨RX4, TX4, 7, "PuzzleWed$Law", rfl, by decide, by decide, sh_X4, in_X4, tw263, Or.inl rfl, rfl, fun h => by first | rfl | decide +kernel | exact absurd h (by decide), ⟨tyX4, tyX4_ok⟩, nmX4⟩
theorem fo_X4_37_262 : FOK RX4 37 262 := ⟨RX4, TX4, 7, "PuzzleWed$Law", rfl, by decide, by decide, sh_X4, in_X4, tw266, Or.inl rfl, rfl, fun h => by first | rfl | decide +kernel | exact absurd h (by decide), ⟨tyX4, tyX4_ok⟩, nmX4⟩
theorem pk_X4 : PLOK RX4 pl_X4 := ⟨List.forall_mem_cons.mpr ⟨fo_X4_11_256, List.forall_mem_cons.mpr ⟨fo_X4_15_257, List.forall_mem_cons.mpr ⟨fo_X4_18_258, List.forall_mem_cons.mpr ⟨fo_X4_21_259, List.forall_mem_cons.mpr ⟨fo_X4_24_260, List.forall_mem_cons.mpr ⟨fo_X4_27_261, List.forall_mem_cons.mpr ⟨fo_X4_37_262, List.forall_mem_nil _⟩⟩⟩⟩⟩⟩⟩, List.forall_mem_nil _, List.forall_mem_nil _, List.forall_mem_nil _⟩
def pl_X5 : PL := ([(92, 256), (54, 257), (58, 258), (67, 259), (19, 261), (25, 262), (9, 324), (76, 321), (43, 322)], [], [], [(46, 0), (108, 1)])
theorem fo_X5_92_256 : FOK RX5 92 256 := ⟨RX4, TX4, 7, "PuzzleWed$Law", rfl, by decide, by decide, sh_X4, in_X4, tw252, Or.inl rfl, rfl, fun h => by first | rfl | decide +kernel | exact absurd h (by decide), ⟨tyX4, tyX4_ok⟩, nmX4⟩
theorem fo_X5_54_257 : FOK RX5 54 257 := ⟨RX4, TX4, 7, "PuzzleWed$Law", rfl, by decide, by decide, sh_X4, in_X4, tw254, Or.inl rfl, rfl, fun h => by first | rfl | decide +kernel | exact absurd h (by decide), ⟨tyX4, tyX4_ok⟩, nmX4⟩
theorem fo_X5_58_258 : FOK RX5 58 258 := ⟨RX4, TX4, 7, "PuzzleWed$Law", rfl, by decide, by decide, sh_X4, in_X4, tw257, Or.inl rfl, rfl, fun h => by first | rfl | decide +kernel | exact absurd h (by decide), ⟨tyX4, tyX4_ok⟩, nmX4⟩
theorem fo_X5_67_259 : FOK RX5 67 259 := ⟨RX4, TX4, 7, "PuzzleWed$Law", rfl, by decide, by decide, sh_X4, in_X4, tw260, Or.inl rfl, rfl, fun h => by first | rfl | decide +kernel | exact absurd h (by decide), ⟨tyX4, tyX4_ok⟩, nmX4⟩
theorem fo_X5_19_261 : FOK RX5 19 261 := ⟨RX4, TX4, 7, "PuzzleWed$Law", rfl, by decide, by decide, sh_X4, in_X4, tw264, Or.inl rfl, rfl, fun h => by first | rfl | decide +kernel | exact absurd h (by decide), ⟨tyX4, tyX4_ok⟩, nmX4⟩
theorem fo_X5_25_262 : FOK RX5 25 262 := ⟨RX4, TX4, 7, "PuzzleWed$Law", rfl, by decide, by decide, sh_X4, in_X4, tw265, Or.inl rfl, rfl, fun h => by first | rfl | decide +kernel | exact absurd h (by decide), ⟨tyX4, tyX4_ok⟩, nmX4⟩
theorem fo_X5_9_324 : FOK RX5 9 324 := ⟨RX5, TX5, 5, "PuzzleWed$LawReader", rfl, by decide, by decide, sh_X5, in_X5, tw293, Or.inl rfl, rfl, fun h => by first | rfl | decide +kernel | exact absurd h (by decide), ⟨tyX5, tyX5_ok⟩, nmX5⟩
theorem fo_X5_76_321 : FOK RX5 76 321 := ⟨RX5, TX5, 5, "PuzzleWed$LawReader", rfl, by decide, by decide, sh_X5, in_X5, tw296, Or.inr tw297, rfl, fun h => by first | rfl | decide +kernel | exact absurd h (by decide), ⟨tyX5, tyX5_ok⟩, nmX5⟩
theorem fo_X5_43_322 : FOK RX5 43 322 := ⟨RX5, TX5, 5, "PuzzleWed$LawReader", rfl, by decide, by decide, sh_X5, in_X5, tw301, Or.inr tw302, rfl, fun h => by first | rfl | decide +kernel | exact absurd h (by decide), ⟨tyX5, tyX5_ok⟩, nmX5⟩
theorem pk_X5 : PLOK RX5 pl_X5 := ⟨List.forall_mem_cons.mpr ⟨fo_X5_92_256, List.forall_mem_cons.mpr ⟨fo_X5_54_257, List.forall_mem_cons.mpr ⟨fo_X5_58_258, List.forall_mem_cons.mpr ⟨fo_X5_67_259, List.forall_mem_cons.mpr ⟨fo_X5_19_261, List.forall_mem_cons.mpr ⟨fo_X5_25_262, List.forall_mem_cons.mpr ⟨fo_X5_9_324, List.forall_mem_cons.mpr ⟨fo_X5_76_321, List.forall_mem_cons.mpr ⟨fo_X5_43_322, List.forall_mem_nil _⟩⟩⟩⟩⟩⟩⟩⟩⟩, List.forall_mem_nil _, List.forall_mem_nil _, List.forall_mem_cons.mpr ⟨⟨"flwcb", rfl⟩, List.forall_mem_cons.mpr ⟨⟨"ijsxyuvdapq", rfl⟩, List.forall_mem_nil _⟩⟩⟩
def pl_X6 : PL := ([(23, 386), (9, 388), (19, 389), (55, 390), (34, 391)], [], [], [])
theorem fo_X6_23_386 : FOK RX6 23 386 := ⟨RX6, TX6, 8, "PuzzleWed$ListReader", rfl, by decide, by decide, sh_X6, in_X6, tw299, Or.inr tw300, rfl, fun h => by first | rfl | decide +kernel | exact absurd h (by decide), ⟨tyX6, tyX6_ok⟩, nmX6⟩
theorem fo_X6_9_388 : FOK RX6 9 388 := ⟨RX6, TX6, 8, "PuzzleWed$ListReader", rfl, by decide, by decide, sh_X6, in_X6, tw325, Or.inl rfl, rfl, fun h => by first | rfl | decide +kernel | exact absurd h (by decide), ⟨tyX6, tyX6_ok⟩, nmX6⟩
theorem fo_X6_19_389 : FOK RX6 19 389 := ⟨RX6, TX6, 8, "PuzzleWed$ListReader", rfl, by decide, by decide, sh_X6, in_X6, tw327, Or.inl rfl, rfl, fun h => by first | rfl | decide +kernel | exact absurd h (by decide), ⟨tyX6, tyX6_ok⟩, nmX6⟩
theorem fo_X6_55_390 : FOK RX6 55 390 := ⟨RX6, TX6, 8, "PuzzleWed$ListReader", rfl, by decide, by decide, sh_X6, in_X6, tw329, Or.inl rfl, rfl, fun h => by first | rfl | decide +kernel | exact absurd h (by decide), ⟨tyX6, tyX6_ok⟩, nmX6⟩
theorem fo_X6_34_391 : FOK RX6 34 391 := ⟨RX6, TX6, 8, "PuzzleWed$ListReader", rfl, by decide, by decide, sh_X6, in_X6, tw330, Or.inl rfl, rfl, fun h => by first | rfl | decide +kernel | exact absurd h (by decide), ⟨tyX6, tyX6_ok⟩, nmX6⟩
theorem pk_X6 : PLOK RX6 pl_X6 := ⟨List.forall_mem_cons.mpr ⟨fo_X6_23_386, List.forall_mem_cons.mpr ⟨fo_X6_9_388, List.forall_mem_cons.mpr ⟨fo_X6_19_389, List.forall_mem_cons.mpr ⟨fo_X6_55_390, List.forall_mem_cons.mpr ⟨fo_X6_34_391, List.forall_mem_nil _⟩⟩⟩⟩⟩, List.forall_mem_nil _, List.forall_mem_nil _, List.forall_mem_nil _⟩
def pl_X7 : PL := ([(25, 576), (9, 320), (9, 384), (15, 321), (15, 385), (19, 322), (19, 386), (22, 323), (22, 387)], [], [], [])
theorem fo_X7_25_576 : FOK RX7 25 576 := ⟨RX10, TX10, 2, "PuzzleWed$Tape", rfl, by decide, by decide, sh_X10, in_X10, tw236, Or.inl rfl, rfl, fun h => by first | rfl | decide +kernel | exact absurd h (by decide), ⟨tyX10, tyX10_ok⟩, nmX10⟩
theorem fo_X7_9_320 : FOK RX7 9 320 := ⟨RX5, TX5, 5, "PuzzleWed$Reader", rfl, by decide, by decide, sh_X5, in_X5, tw294, Or.inl rfl, rfl, fun h => by first | rfl | decide +kernel | exact absurd h (by decide), ⟨tyX5, tyX5_ok⟩, nmX5⟩
theorem fo_X7_9_384 : FOK RX7 9 384 := ⟨RX6, TX6, 8, "PuzzleWed$Reader", rfl, by decide, by decide, sh_X6, in_X6, tw294, Or.inl rfl, rfl, fun h => by first | rfl | decide +kernel | exact absurd h (by decide), ⟨tyX6, tyX6_ok⟩, nmX6⟩
theorem fo_X7_15_321 : FOK RX7 15 321 := ⟨RX5, TX5, 5, "PuzzleWed$Reader", rfl, by decide, by decide, sh_X5, in_X5, tw295, Or.inl rfl, rfl, fun h => by first | rfl | decide +kernel | exact absurd h (by decide), ⟨tyX5, tyX5_ok⟩, nmX5⟩
theorem fo_X7_15_385 : FOK RX7 15 385 := ⟨RX6, TX6, 8, "PuzzleWed$Reader", rfl, by decide, by decide, sh_X6, in_X6, tw295, Or.inl rfl, rfl, fun h => by first | rfl | decide +kernel | exact absurd h (by decide), ⟨tyX6, tyX6_ok⟩, nmX6⟩
theorem fo_X7_19_322 : FOK RX7 19 322 := ⟨RX5, TX5, 5, "PuzzleWed$Reader", rfl, by decide, by decide, sh_X5, in_X5, tw298, Or.inl rfl, rfl, fun h => by first | rfl | decide +kernel | exact absurd h (by decide), ⟨tyX5, tyX5_ok⟩, nmX5⟩
theorem fo_X7_19_386 : FOK RX7 19 386 := ⟨RX6, TX6, 8, "PuzzleWed$Reader", rfl, by decide, by decide, sh_X6, in_X6, tw298, Or.inl rfl, rfl, fun h => by first | rfl | decide +kernel | exact absurd h (by decide), ⟨tyX6, tyX6_ok⟩, nmX6⟩
theorem fo_X7_22_323 : FOK RX7 22 323 := ⟨RX5, TX5, 5, "PuzzleWed$Reader", rfl, by decide, by decide, sh_X5, in_X5, tw303, Or.inl rfl, rfl, fun h => by first | rfl | decide +kernel | exact absurd h (by decide), ⟨tyX5, tyX5_ok⟩, nmX5⟩
theorem fo_X7_22_387 : FOK RX7 22 387 := ⟨RX6, TX6, 8, "PuzzleWed$Reader", rfl, by decide, by decide, sh_X6, in_X6, tw303, Or.inl rfl, rfl, fun h => by first | rfl | decide +kernel | exact absurd h (by decide), ⟨tyX6, tyX6_ok⟩, nmX6⟩
theorem pk_X7 : PLOK RX7 pl_X7 := ⟨List.forall_mem_cons.mpr ⟨fo_X7_25_576, List.forall_mem_cons.mpr ⟨fo_X7_9_320, List.forall_mem_cons.mpr ⟨fo_X7_9_384, List.forall_mem_cons.mpr ⟨fo_X7_15_321, List.forall_mem_cons.mpr ⟨fo_X7_15_385, List.forall_mem_cons.mpr ⟨fo_X7_19_322, List.forall_mem_cons.mpr ⟨fo_X7_19_386, List.forall_mem_cons.mpr ⟨fo_X7_22_323, List.forall_mem_cons.mpr ⟨fo_X7_22_387, List.forall_mem_nil _⟩⟩⟩⟩⟩⟩⟩⟩⟩, List.forall_mem_nil _, List.forall_mem_nil _, List.forall_mem_nil _⟩
def pl_X8 : PL := ([(9, 448), (81, 449), (85, 450), (94, 451), (97, 452), (25, 453), (15, 454), (19, 455), (22, 456), (63, 457), (67, 458)], [], [(74, 16983563041), (76, 4611686018427387904), (54, 19)], [])
theorem fo_X8_9_448 : FOK RX8 9 448 := ⟨RX8, TX8, 11, "PuzzleWed$Sander", rfl, by decide, by decide, sh_X8, in_X8, tw462, Or.inl rfl, rfl, fun h => by first | rfl | decide +kernel | exact absurd h (by decide), ⟨tyX8, tyX8_ok⟩, nmX8⟩
theorem fo_X8_81_449 : FOK RX8 81 449 := ⟨RX8, TX8, 11, "PuzzleWed$Sander", rfl, by decide, by decide, sh_X8, in_X8, tw464, Or.inl rfl, rfl, fun h => by first | rfl | decide +kernel | exact absurd h (by decide), ⟨tyX8, tyX8_ok⟩, nmX8⟩
theorem fo_X8_85_450 : FOK RX8 85 450 := ⟨RX8, TX8, 11, "PuzzleWed$Sander", rfl, by decide, by decide, sh_X8, in_X8, tw466, Or.inl rfl, rfl, fun h => by first | rfl | decide +kernel | exact absurd h (by decide), ⟨tyX8, tyX8_ok⟩, nmX8⟩
theorem fo_X8_94_451 : FOK RX8 94 451 := ⟨RX8, TX8, 11, "PuzzleWed$Sander", rfl, by decide, by decide, sh_X8, in_X8, tw468, Or.inl rfl, rfl, fun h => by first | rfl | decide +kernel | exact absurd h (by decide), ⟨tyX8, tyX8_ok⟩, nmX8⟩
theorem fo_X8_97_452 : FOK RX8 97 452 := ⟨RX8, TX8, 11, "PuzzleWed$Sander", rfl, by decide, by decide, sh_X8, in_X8, tw470, Or.inl rfl, rfl, fun h => by first | rfl | decide +kernel | exact absurd h (by decide), ⟨tyX8, tyX8_ok⟩, nmX8⟩
theorem fo_X8_25_453 : FOK RX8 25 453 := ⟨RX8, TX8, 11, "PuzzleWed$Sander", rfl, by decide, by decide, sh_X8, in_X8, tw472, Or.inl rfl, rfl, fun h => by first | rfl | decide +kernel | exact absurd h (by decide), ⟨tyX8, tyX8_ok⟩, nmX8⟩
theorem fo_X8_15_454 : FOK RX8 15 454 := ⟨RX8, TX8, 11, "PuzzleWed$Sander", rfl, by decide, by decide, sh_X8, in_X8, tw473, Or.inl rfl, rfl, fun h => by first | rfl | decide +kernel | exact absurd h (by decide), ⟨tyX8, tyX8_ok⟩, nmX8⟩
theorem fo_X8_19_455 : FOK RX8 19 455 := ⟨RX8, TX8, 11, "PuzzleWed$Sander", rfl, by decide, by decide, sh_X8, in_X8, tw474, Or.inl rfl, rfl, fun h => by first | rfl | decide +kernel | exact absurd h (by decide), ⟨tyX8, tyX8_ok⟩, nmX8⟩
theorem fo_X8_22_456 : FOK RX8 22 456 := ⟨RX8, TX8, 11, "PuzzleWed$Sander", rfl, by decide, by decide, sh_X8, in_X8, tw475, Or.inl rfl, rfl, fun h => by first | rfl | decide +kernel | exact absurd h (by decide), ⟨tyX8, tyX8_ok⟩, nmX8⟩
theorem fo_X8_63_457 : FOK RX8 63 457 := ⟨RX8, TX8, 11, "PuzzleWed$Sander", rfl, by decide, by decide, sh_X8, in_X8, tw476, Or.inl rfl, rfl, fun h => by first | rfl | decide +kernel | exact absurd h (by decide), ⟨tyX8, tyX8_ok⟩, nmX8⟩
theorem fo_X8_67_458 : FOK RX8 67 458 := ⟨RX8, TX8, 11, "PuzzleWed$Sander", rfl, by decide, by decide, sh_X8, in_X8, tw477, Or.inl rfl, rfl, fun h => by first | rfl | decide +kernel | exact absurd h (by decide), ⟨tyX8, tyX8_ok⟩, nmX8⟩
theorem pk_X8 : PLOK RX8 pl_X8 := ⟨List.forall_mem_cons.mpr ⟨fo_X8_9_448, List.forall_mem_cons.mpr ⟨fo_X8_81_449, List.forall_mem_cons.mpr ⟨fo_X8_85_450, List.forall_mem_cons.mpr ⟨fo_X8_94_451, List.forall_mem_cons.mpr ⟨fo_X8_97_452, List.forall_mem_cons.mpr ⟨fo_X8_25_453, List.forall_mem_cons.mpr ⟨fo_X8_15_454, List.forall_mem_cons.mpr ⟨fo_X8_19_455, List.forall_mem_cons.mpr ⟨fo_X8_22_456, List.forall_mem_cons.mpr ⟨fo_X8_63_457, List.forall_mem_cons.mpr ⟨fo_X8_67_458, List.forall_mem_nil _⟩⟩⟩⟩⟩⟩⟩⟩⟩⟩⟩, List.forall_mem_nil _, List.forall_mem_cons.mpr ⟨tw1114, List.forall_mem_cons.mpr ⟨tw1120, List.forall_mem_cons.mpr ⟨tw1128, List.forall_mem_nil _⟩⟩⟩, List.forall_mem_nil _⟩
def pl_X9 : PL := ([(46, 576), (9, 512), (39, 513), (15, 514), (21, 515), (24, 516), (27, 517), (51, 518), (43, 519)], [], [], [])
theorem fo_X9_46_576 : FOK RX9 46 576 := ⟨RX10, TX10, 2, "PuzzleWed$Tape", rfl, by decide, by decide, sh_X10, in_X10, tw235, Or.inl rfl, rfl, fun h => by first | rfl | decide +kernel | exact absurd h (by decide), ⟨tyX10, tyX10_ok⟩, nmX10⟩
theorem fo_X9_9_512 : FOK RX9 9 512 := ⟨RX9, TX9, 8, "PuzzleWed$Search", rfl, by decide, by decide, sh_X9, in_X9, tw430, Or.inl rfl, rfl, fun h => by first | rfl | decide +kernel | exact absurd h (by decide), ⟨tyX9, tyX9_ok⟩, nmX9⟩
theorem fo_X9_39_513 : FOK RX9 39 513 := ⟨RX9, TX9, 8, "PuzzleWed$Search", rfl, by decide, by decide, sh_X9, in_X9, tw431, Or.inl rfl, rfl, fun h => by first | rfl | decide +kernel | exact absurd h (by decide), ⟨tyX9, tyX9_ok⟩, nmX9⟩
theorem fo_X9_15_514 : FOK RX9 15 514 := ⟨RX9, TX9, 8, "PuzzleWed$Search", rfl, by decide, by decide, sh_X9, in_X9, tw432, Or.inl rfl, rfl, fun h => by first | rfl | decide +kernel | exact absurd h (by decide), ⟨tyX9, tyX9_ok⟩, nmX9⟩
theorem fo_X9_21_515 : FOK RX9 21 515 := ⟨RX9, TX9, 8, "PuzzleWed$Search", rfl, by decide, by decide, sh_X9, in_X9, tw433, Or.inl rfl, rfl, fun h => by first | rfl | decide +kernel | exact absurd h (by decide), ⟨tyX9, tyX9_ok⟩, nmX9⟩
theorem fo_X9_24_516 : FOK RX9 24 516 := ⟨RX9, TX9, 8, "PuzzleWed$Search", rfl, by decide, by decide, sh_X9, in_X9, tw434, Or.inl rfl, rfl, fun h => by first | rfl | decide +kernel | exact absurd h (by decide), ⟨tyX9, tyX9_ok⟩, nmX9⟩
theorem fo_X9_27_517 : FOK RX9 27 517 := ⟨RX9, TX9, 8, "PuzzleWed$Search", rfl, by decide, by decide, sh_X9, in_X9, tw435, Or.inl rfl, rfl, fun h => by first | rfl | decide +kernel | exact absurd h (by decide), ⟨tyX9, tyX9_ok⟩, nmX9⟩
theorem fo_X9_51_518 : FOK RX9 51 518 := ⟨RX9, TX9, 8, "PuzzleWed$Search", rfl, by decide, by decide, sh_X9, in_X9, tw437, Or.inl rfl, rfl, fun h => by first | rfl | decide +kernel | exact absurd h (by decide), ⟨tyX9, tyX9_ok⟩, nmX9⟩
theorem fo_X9_43_519 : FOK RX9 43 519 := ⟨RX9, TX9, 8, "PuzzleWed$Search", rfl, by decide, by decide, sh_X9, in_X9, tw438, Or.inl rfl, rfl, fun h => by first | rfl | decide +kernel | exact absurd h (by decide), ⟨tyX9, tyX9_ok⟩, nmX9⟩
theorem pk_X9 : PLOK RX9 pl_X9 := ⟨List.forall_mem_cons.mpr ⟨fo_X9_46_576, List.forall_mem_cons.mpr ⟨fo_X9_9_512, List.forall_mem_cons.mpr ⟨fo_X9_39_513, List.forall_mem_cons.mpr ⟨fo_X9_15_514, List.forall_mem_cons.mpr ⟨fo_X9_21_515, List.forall_mem_cons.mpr ⟨fo_X9_24_516, List.forall_mem_cons.mpr ⟨fo_X9_27_517, List.forall_mem_cons.mpr ⟨fo_X9_51_518, List.forall_mem_cons.mpr ⟨fo_X9_43_519, List.forall_mem_nil _⟩⟩⟩⟩⟩⟩⟩⟩⟩, List.forall_mem_nil _, List.forall_mem_nil _, List.forall_mem_nil _⟩
def pl_X10 : PL := ([(9, 576), (15, 577)], [], [], [])
theorem fo_X10_9_576 : FOK RX10 9 576 := ⟨RX10, TX10, 2, "PuzzleWed$Tape", rfl, by decide, by decide, sh_X10, in_X10, tw234, Or.inl rfl, rfl, fun h => by first | rfl | decide +kernel | exact absurd h (by decide), ⟨tyX10, tyX10_ok⟩, nmX10⟩
theorem fo_X10_15_577 : FOK RX10 15 577 := ⟨RX10, TX10, 2, "PuzzleWed$Tape", rfl, by decide, by decide, sh_X10, in_X10, tw238, Or.inl rfl, rfl, fun h => by first | rfl | decide +kernel | exact absurd h (by decide), ⟨tyX10, tyX10_ok⟩, nmX10⟩
theorem pk_X10 : PLOK RX10 pl_X10 := ⟨List.forall_mem_cons.mpr ⟨fo_X10_9_576, List.forall_mem_cons.mpr ⟨fo_X10_15_577, List.forall_mem_nil _⟩⟩, List.forall_mem_nil _, List.forall_mem_nil _, List.forall_mem_nil _⟩
def pl_X11 : PL := ([(111, 192), (115, 193), (118, 194), (121, 195), (207, 196), (220, 197), (229, 198), (236, 199), (124, 200), (163, 201), (179, 202), (188, 203), (194, 204), (360, 205), (357, 206), (338, 576), (141, 577), (156, 262), (150, 323), (162, 387), (167, 388), (191, 389), (201, 65), (210, 66), (213, 67), (266, 1), (260, 2), (263, 3), (285, 517), (308, 448), (302, 449), (305, 450), (323, 451), (326, 452), (12, 640), (16, 641), (19, 642), (22, 643), (29, 644), (36, 645), (40, 646), (48, 647), (57, 648), (66, 649), (75, 650), (82, 651), (89, 652), (96, 653), (100, 654)], [(356, 65535)], [], [])
theorem fo_X11_111_192 : FOK RX11 111 192 := ⟨RX3, TX3, 15, "PuzzleWed$Land", rfl, by decide, by decide, sh_X3, in_X3, tw150, Or.inl rfl, rfl, fun h => by first | rfl | decide +kernel | exact absurd h (by decide), ⟨tyX3, tyX3_ok⟩, nmX3⟩
theorem fo_X11_115_193 : FOK RX11 115 193 := ⟨RX3, TX3, 15, "PuzzleWed$Land", rfl, by decide, by decide, sh_X3, in_X3, tw151, Or.inl rfl, rfl, fun h => by first | rfl | decide +kernel | exact absurd h (by decide), ⟨tyX3, tyX3_ok⟩, nmX3⟩
theorem fo_X11_118_194 : FOK RX11 118 194 := ⟨RX3, TX3, 15, "PuzzleWed$Land", rfl, by decide, by decide, sh_X3, in_X3, tw155, Or.inl rfl, rfl, fun h => by first | rfl | decide +kernel | exact absurd h (by decide), ⟨tyX3, tyX3_ok⟩, nmX3⟩
theorem fo_X11_121_195 : FOK RX11 121 195 := ⟨RX3, TX3, 15, "PuzzleWed$Land", rfl, by decide, by decide, sh_X3, in_X3, tw159, Or.inl rfl, rfl, fun h => by first | rfl | decide +kernel | exact absurd h (by decide), ⟨tyX3, tyX3_ok⟩, nmX3⟩
theorem fo_X11_207_196 : FOK RX11 207 196 := ⟨RX3, TX3, 15, "PuzzleWed$Land", rfl, by decide, by decide, sh_X3, in_X3, tw165, Or.inl rfl, rfl, fun h => by first | rfl | decide +kernel | exact absurd h (by decide), ⟨tyX3, tyX3_ok⟩, nmX3⟩
theorem fo_X11_220_197 : FOK RX11 220 197 := ⟨RX3, TX3, 15, "PuzzleWed$Land", rfl, by decide, by decide, sh_X3, in_X3, tw169, Or.inl rfl, rfl, fun h => by first | rfl | decide +kernel | exact absurd h (by decide), ⟨tyX3, tyX3_ok⟩, nmX3⟩
theorem fo_X11_229_198 : FOK RX11 229 198 := ⟨RX3, TX3, 15, "PuzzleWed$Land", rfl, by decide, by decide, sh_X3, in_X3, tw171, Or.inl rfl, rfl, fun h => by first | rfl | decide +kernel | exact absurd h (by decide), ⟨tyX3, tyX3_ok⟩, nmX3⟩
theorem fo_X11_236_199 : FOK RX11 236 199 := ⟨RX3, TX3, 15, "PuzzleWed$Land", rfl, by decide, by decide, sh_X3, in_X3, tw174, Or.inl rfl, rfl, fun h => by first | rfl | decide +kernel | exact absurd h (by decide), ⟨tyX3, tyX3_ok⟩, nmX3⟩
theorem fo_X11_124_200 : FOK RX11 124 200 := ⟨RX3, TX3, 15, "PuzzleWed$Land", rfl, by decide, by decide, sh_X3, in_X3, tw176, Or.inl rfl, rfl, fun h => by first | rfl | decide +kernel | exact absurd h (by decide), ⟨tyX3, tyX3_ok⟩, nmX3⟩
theorem fo_X11_163_201 : FOK RX11 163 201 := ⟨RX3, TX3, 15, "PuzzleWed$Land", rfl, by decide, by decide, sh_X3, in_X3, tw180, Or.inl rfl, rfl, fun h => by first | rfl | decide +kernel | exact absurd h (by decide), ⟨tyX3, tyX3_ok⟩, nmX3⟩
theorem fo_X11_179_202 : FOK RX11 179 202 := ⟨RX3, TX3, 15, "PuzzleWed$Land", rfl, by decide, by decide, sh_X3, in_X3, tw183, Or.inl rfl, rfl, fun h => by first | rfl | decide +kernel | exact absurd h (by decide), ⟨tyX3, tyX3_ok⟩, nmX3⟩
theorem fo_X11_188_203 : FOK RX11 188 203 := ⟨RX3, TX3, 15, "PuzzleWed$Land", rfl, by decide, by decide, sh_X3, in_X3, tw186, Or.inl rfl, rfl, fun h => by first | rfl | decide +kernel | exact absurd h (by decide), ⟨tyX3, tyX3_ok⟩, nmX3⟩
theorem fo_X11_194_204 : FOK RX11 194 204 := ⟨RX3, TX3, 15, "PuzzleWed$Land", rfl, by decide, by decide, sh_X3, in_X3, tw189, Or.inl rfl, rfl, fun h => by first | rfl | decide +kernel | exact absurd h (by decide), ⟨tyX3, tyX3_ok⟩, nmX3⟩
theorem fo_X11_360_205 : FOK RX11 360 205 := ⟨RX3, TX3, 15, "PuzzleWed$Land", rfl, by decide, by decide, sh_X3, in_X3, tw193, Or.inl rfl, rfl, fun h => by first | rfl | decide +kernel | exact absurd h (by decide), ⟨tyX3, tyX3_ok⟩, nmX3⟩
theorem fo_X11_357_206 : FOK RX11 357 206 := ⟨RX3, TX3, 15, "PuzzleWed$Land", rfl, by decide, by decide, sh_X3, in_X3, tw195, Or.inl rfl, rfl, fun h => by first | rfl | decide +kernel | exact absurd h (by decide), ⟨tyX3, tyX3_ok⟩, nmX3⟩
theorem fo_X11_338_576 : FOK RX11 338 576 := ⟨RX10, TX10, 2, "PuzzleWed$Tape", rfl, by decide, by decide, sh_X10, in_X10, tw237, Or.inl rfl, rfl, fun h => by first | rfl | decide +kernel | exact absurd h (by decide), ⟨tyX10, tyX10_ok⟩, nmX10⟩
theorem fo_X11_141_577 : FOK RX11 141 577 := ⟨RX10, TX10, 2, "PuzzleWed$Tape", rfl, by decide, by decide, sh_X10, in_X10, tw239, Or.inl rfl, rfl, fun h => by first | rfl | decide +kernel | exact absurd h (by decide), ⟨tyX10, tyX10_ok⟩, nmX10⟩
theorem fo_X11_156_262 : FOK RX11 156 262 := ⟨RX4, TX4, 7, "PuzzleWed$Law", rfl, by decide, by decide, sh_X4, in_X4, tw267, Or.inl rfl, rfl, fun h => by first | rfl | decide +kernel | exact absurd h (by decide), ⟨tyX4, tyX4_ok⟩, nmX4⟩
theorem fo_X11_150_323 : FOK RX11 150 323 := ⟨RX5, TX5, 5, "PuzzleWed$LawReader", rfl, by decide, by decide, sh_X5, in_X5, tw304, Or.inr tw305, rfl, fun h => by first | rfl | decide +kernel | exact absurd h (by decide), ⟨tyX5, tyX5_ok⟩, nmX5⟩
theorem fo_X11_162_387 : FOK RX11 162 387 := ⟨RX6, TX6, 8, "PuzzleWed$ListReader", rfl, by decide, by decide, sh_X6, in_X6, tw306, Or.inr tw307, rfl, fun h => by first | rfl | decide +kernel | exact absurd h (by decide), ⟨tyX6, tyX6_ok⟩, nmX6⟩
theorem fo_X11_167_388 : FOK RX11 167 388 := ⟨RX6, TX6, 8, "PuzzleWed$ListReader", rfl, by decide, by decide, sh_X6, in_X6, tw326, Or.inl rfl, rfl, fun h => by first | rfl | decide +kernel | exact absurd h (by decide), ⟨tyX6, tyX6_ok⟩, nmX6⟩
theorem fo_X11_191_389 : FOK RX11 191 389 := ⟨RX6, TX6, 8, "PuzzleWed$ListReader", rfl, by decide, by decide, sh_X6, in_X6, tw328, Or.inl rfl, rfl, fun h => by first | rfl | decide +kernel | exact absurd h (by decide), ⟨tyX6, tyX6_ok⟩, nmX6⟩
theorem fo_X11_201_65 : FOK RX11 201 65 := ⟨RX1, TX1, 4, "PuzzleWed$Course", rfl, by decide, by decide, sh_X1, in_X1, tw365, Or.inl rfl, rfl, fun h => by first | rfl | decide +kernel | exact absurd h (by decide), ⟨tyX1, tyX1_ok⟩, nmX1⟩
theorem fo_X11_210_66 : FOK RX11 210 66 := ⟨RX1, TX1, 4, "PuzzleWed$Course", rfl, by decide, by decide, sh_X1, in_X1, tw367, Or.inl rfl, rfl, fun h => by first | rfl | decide +kernel | exact absurd h (by decide), ⟨tyX1, tyX1_ok⟩, nmX1⟩
theorem fo_X11_213_67 : FOK RX11 213 67 := ⟨RX1, TX1, 4, "PuzzleWed$Course", rfl, by decide, by decide, sh_X1, in_X1, tw369, Or.inl rfl, rfl, fun h => by first | rfl | decide +kernel | exact absurd h (by decide), ⟨tyX1, tyX1_ok⟩, nmX1⟩
theorem fo_X11_266_1 : FOK RX11 266 1 := ⟨RX0, TX0, 11, "PuzzleWed$Couples", rfl, by decide, by decide, sh_X0, in_X0, tw388, Or.inl rfl, rfl, fun h => by first | rfl | decide +kernel | exact absurd h (by decide), ⟨tyX0, tyX0_ok⟩, nmX0⟩
theorem fo_X11_260_2 : FOK RX11 260 2 := ⟨RX0, TX0, 11, "PuzzleWed$Couples", rfl, by decide, by decide, sh_X0, in_X0, tw390, Or.inl rfl, rfl, fun h => by first | rfl | decide +kernel | exact absurd h (by decide), ⟨tyX0, tyX0_ok⟩, nmX0⟩
theorem fo_X11_263_3 : FOK RX11 263 3 := ⟨RX0, TX0, 11, "PuzzleWed$Couples", rfl, by decide, by decide, sh_X0, in_X0, tw392, Or.inl rfl, rfl, fun h => by first | rfl | decide +kernel | exact absurd h (by decide), ⟨tyX0, tyX0_ok⟩, nmX0⟩
theorem fo_X11_285_517 : FOK RX11 285 517 := ⟨RX9, TX9, 8, "PuzzleWed$Search", rfl, by decide, by decide, sh_X9, in_X9, tw436, Or.inl rfl, rfl, fun h => by first | rfl | decide +kernel | exact absurd h (by decide), ⟨tyX9, tyX9_ok⟩, nmX9⟩
theorem fo_X11_308_448 : FOK RX11 308 448 := ⟨RX8, TX8, 11, "PuzzleWed$Sander", rfl, by decide, by decide, sh_X8, in_X8, tw463, Or.inl rfl, rfl, fun h => by first | rfl | decide +kernel | exact absurd h (by decide), ⟨tyX8, tyX8_ok⟩, nmX8⟩
theorem fo_X11_302_449 : FOK RX11 302 449 := ⟨RX8, TX8, 11, "PuzzleWed$Sander", rfl, by decide, by decide, sh_X8, in_X8, tw465, Or.inl rfl, rfl, fun h => by first | rfl | decide +kernel | exact absurd h (by decide), ⟨tyX8, tyX8_ok⟩, nmX8⟩
theorem fo_X11_305_450 : FOK RX11 305 450 := ⟨RX8, TX8, 11, "PuzzleWed$Sander", rfl, by decide, by decide, sh_X8, in_X8, tw467, Or.inl rfl, rfl, fun h => by first | rfl | decide +kernel | exact absurd h (by decide), ⟨tyX8, tyX8_ok⟩, nmX8⟩
theorem fo_X11_323_451 : FOK RX11 323 451 := ⟨RX8, TX8, 11, "PuzzleWed$Sander", rfl, by decide, by decide, sh_X8, in_X8, tw469, Or.inl rfl, rfl, fun h => by first | rfl | decide +kernel | exact absurd h (by decide), ⟨tyX8, tyX8_ok⟩, nmX8⟩
theorem fo_X11_326_452 : FOK RX11 326 452 := ⟨RX8, TX8, 11, "PuzzleWed$Sander", rfl, by decide, by decide, sh_X8, in_X8, tw471, Or.inl rfl, rfl, fun h => by first | rfl | decide +kernel | exact absurd h (by decide), ⟨tyX8, tyX8_ok⟩, nmX8⟩
theorem fo_X11_12_640 : FOK RX11 12 640 := ⟨RX11, TX11, 15, "PuzzleWed", rfl, by decide, by decide, sh_X11, in_X11, tw502, Or.inl rfl, rfl, fun h => by first | rfl | decide +kernel | exact absurd h (by decide), ⟨tyX11, tyX11_ok⟩, nmX11⟩
theorem fo_X11_16_641 : FOK RX11 16 641 := ⟨RX11, TX11, 15, "PuzzleWed", rfl, by decide, by decide, sh_X11, in_X11, tw503, Or.inl rfl, rfl, fun h => by first | rfl | decide +kernel | exact absurd h (by decide), ⟨tyX11, tyX11_ok⟩, nmX11⟩
theorem fo_X11_19_642 : FOK RX11 19 642 := ⟨RX11, TX11, 15, "PuzzleWed", rfl, by decide, by decide, sh_X11, in_X11, tw504, Or.inl rfl, rfl, fun h => by first | rfl | decide +kernel | exact absurd h (by decide), ⟨tyX11, tyX11_ok⟩, nmX11⟩
theorem fo_X11_22_643 : FOK RX11 22 643 := ⟨RX11, TX11, 15, "PuzzleWed", rfl, by decide, by decide, sh_X11, in_X11, tw505, Or.inl rfl, rfl, fun h => by first | rfl | decide +kernel | exact absurd h (by decide), ⟨tyX11, tyX11_ok⟩, nmX11⟩
theorem fo_X11_29_644 : FOK RX11 29 644 := ⟨RX11, TX11, 15, "PuzzleWed", rfl, by decide, by decide, sh_X11, in_X11, tw506, Or.inl rfl, rfl, fun h => by first | rfl | decide +kernel | exact absurd h (by decide), ⟨tyX11, tyX11_ok⟩, nmX11⟩
theorem fo_X11_36_645 : FOK RX11 36 645 := ⟨RX11, TX11, 15, "PuzzleWed", rfl, by decide, by decide, sh_X11, in_X11, tw507, Or.inl rfl, rfl, fun h => by first | rfl | decide +kernel | exact absurd h (by decide), ⟨tyX11, tyX11_ok⟩, nmX11⟩
theorem fo_X11_40_646 : FOK RX11 40 646 := ⟨RX11, TX11, 15, "PuzzleWed", rfl, by decide, by decide, sh_X11, in_X11, tw508, Or.inl rfl, rfl, fun h => by first | rfl | decide +kernel | exact absurd h (by decide), ⟨tyX11, tyX11_ok⟩, nmX11⟩
theorem fo_X11_48_647 : FOK RX11 48 647 := ⟨RX11, TX11, 15, "PuzzleWed", rfl, by decide, by decide, sh_X11, in_X11, tw509, Or.inl rfl, rfl, fun h => by first | rfl | decide +kernel | exact absurd h (by decide), ⟨tyX11, tyX11_ok⟩, nmX11⟩
theorem fo_X11_57_648 : FOK RX11 57 648 := ⟨RX11, TX11, 15, "PuzzleWed", rfl, by decide, by decide, sh_X11, in_X11, tw510, Or.inl rfl, rfl, fun h => by first | rfl | decide +kernel | exact absurd h (by decide), ⟨tyX11, tyX11_ok⟩, nmX11⟩
theorem fo_X11_66_649 : FOK RX11 66 649 := ⟨RX11, TX11, 15, "PuzzleWed", rfl, by decide, by decide, sh_X11, in_X11, tw511, Or.inl rfl, rfl, fun h => by first | rfl | decide +kernel | exact absurd h (by decide), ⟨tyX11, tyX11_ok⟩, nmX11⟩
theorem fo_X11_75_650 : FOK RX11 75 650 := ⟨RX11, TX11, 15, "PuzzleWed", rfl, by decide, by decide, sh_X11, in_X11, tw512, Or.inl rfl, rfl, fun h => by first | rfl | decide +kernel | exact absurd h (by decide), ⟨tyX11, tyX11_ok⟩, nmX11⟩
theorem fo_X11_82_651 : FOK RX11 82 651 := ⟨RX11, TX11, 15, "PuzzleWed", rfl, by decide, by decide, sh_X11, in_X11, tw513, Or.inl rfl, rfl, fun h => by first | rfl | decide +kernel | exact absurd h (by decide), ⟨tyX11, tyX11_ok⟩, nmX11⟩
theorem fo_X11_89_652 : FOK RX11 89 652 := ⟨RX11, TX11, 15, "PuzzleWed", rfl, by decide, by decide, sh_X11, in_X11, tw514, Or.inl rfl, rfl, fun h => by first | rfl | decide +kernel | exact absurd h (by decide), ⟨tyX11, tyX11_ok⟩, nmX11⟩
theorem fo_X11_96_653 : FOK RX11 96 653 := ⟨RX11, TX11, 15, "PuzzleWed", rfl, by decide, by decide, sh_X11, in_X11, tw515, Or.inl rfl, rfl, fun h => by first | rfl | decide +kernel | exact absurd h (by decide), ⟨tyX11, tyX11_ok⟩, nmX11⟩
theorem fo_X11_100_654 : FOK RX11 100 654 := ⟨RX11, TX11, 15, "PuzzleWed", rfl, by decide, by decide, sh_X11, in_X11, tw516, Or.inl rfl, rfl, fun h => by first | rfl | decide +kernel | exact absurd h (by decide), ⟨tyX11, tyX11_ok⟩, nmX11⟩
theorem pk_X11 : PLOK RX11 pl_X11 := ⟨List.forall_mem_cons.mpr ⟨fo_X11_111_192, List.forall_mem_cons.mpr ⟨fo_X11_115_193, List.forall_mem_cons.mpr ⟨fo_X11_118_194, List.forall_mem_cons.mpr ⟨fo_X11_121_195, List.forall_mem_cons.mpr ⟨fo_X11_207_196, List.forall_mem_cons.mpr ⟨fo_X11_220_197, List.forall_mem_cons.mpr ⟨fo_X11_229_198, List.forall_mem_cons.mpr ⟨fo_X11_236_199, List.forall_mem_cons.mpr ⟨fo_X11_124_200, List.forall_mem_cons.mpr ⟨fo_X11_163_201, List.forall_mem_cons.mpr ⟨fo_X11_179_202, List.forall_mem_cons.mpr ⟨fo_X11_188_203, List.forall_mem_cons.mpr ⟨fo_X11_194_204, List.forall_mem_cons.mpr ⟨fo_X11_360_205, List.forall_mem_cons.mpr ⟨fo_X11_357_206, List.forall_mem_cons.mpr ⟨fo_X11_338_576, List.forall_mem_cons.mpr ⟨fo_X11_141_577, List.forall_mem_cons.mpr ⟨fo_X11_156_262, List.forall_mem_cons.mpr ⟨fo_X11_150_323, List.forall_mem_cons.mpr ⟨fo_X11_162_387, List.forall_mem_cons.mpr ⟨fo_X11_167_388, List.forall_mem_cons.mpr ⟨fo_X11_191_389, List.forall_mem_cons.mpr ⟨fo_X11_201_65, List.forall_mem_cons.mpr ⟨fo_X11_210_66, List.forall_mem_cons.mpr ⟨fo_X11_213_67, List.forall_mem_cons.mpr ⟨fo_X11_266_1, List.forall_mem_cons.mpr ⟨fo_X11_260_2, List.forall_mem_cons.mpr ⟨fo_X11_263_3, List.forall_mem_cons.mpr ⟨fo_X11_285_517, List.forall_mem_cons.mpr ⟨fo_X11_308_448, List.forall_mem_cons.mpr ⟨fo_X11_302_449, List.forall_mem_cons.mpr ⟨fo_X11_305_450, List.forall_mem_cons.mpr ⟨fo_X11_323_451, List.forall_mem_cons.mpr ⟨fo_X11_326_452, List.forall_mem_cons.mpr ⟨fo_X11_12_640, List.forall_mem_cons.mpr ⟨fo_X11_16_641, List.forall_mem_cons.mpr ⟨fo_X11_19_642, List.forall_mem_cons.mpr ⟨fo_X11_22_643, List.forall_mem_cons.mpr ⟨fo_X11_29_644, List.forall_mem_cons.mpr ⟨fo_X11_36_645, List.forall_mem_cons.mpr ⟨fo_X11_40_646, List.forall_mem_cons.mpr ⟨fo_X11_48_647, List.forall_mem_cons.mpr ⟨fo_X11_57_648, List.forall_mem_cons.mpr ⟨fo_X11_66_649, List.forall_mem_cons.mpr ⟨fo_X11_75_650, List.forall_mem_cons.mpr ⟨fo_X11_82_651, List.forall_mem_cons.mpr ⟨fo_X11_89_652, List.forall_mem_cons.mpr ⟨fo_X11_96_653, List.forall_mem_cons.mpr ⟨fo_X11_100_654, List.forall_mem_nil _⟩⟩⟩⟩⟩⟩⟩⟩⟩⟩⟩⟩⟩⟩⟩⟩⟩⟩⟩⟩⟩⟩⟩⟩⟩⟩⟩⟩⟩⟩⟩⟩⟩⟩⟩⟩⟩⟩⟩⟩⟩⟩⟩⟩⟩⟩⟩⟩⟩, List.forall_mem_cons.mpr ⟨tw1185, List.forall_mem_nil _⟩, List.forall_mem_nil _, List.forall_mem_nil _⟩
def pl_X12 : PL := ([(7, 704), (13, 705), (16, 706), (19, 707), (126, 708), (133, 709), (136, 710), (143, 711), (149, 712), (160, 713), (156, 714), (163, 715), (213, 716), (225, 717), (23, 718), (26, 719), (29, 720), (32, 721), (35, 722), (38, 723), (41, 724), (44, 725), (47, 726), (50, 727), (53, 728), (56, 729), (59, 730), (62, 731), (65, 732), (268, 733), (274, 734), (289, 735), (280, 736), (302, 737), (68, 738), (71, 739), (74, 740), (78, 741), (81, 742), (84, 743), (87, 744), (91, 745), (94, 746), (379, 747), (370, 748), (373, 749), (408, 750)], [(77, 53248), (90, 33489), (159, 1048576), (245, 1000000000), (298, 65536), (333, 49152), (407, 65535)], [], [])
theorem fo_X12_7_704 : FOK RX12 7 704 := ⟨RX12, TX12, 47, "PuzzleWedModel", rfl, by decide, by decide, sh_X12, in_X12, tw1214, Or.inl rfl, rfl, fun h => by first | rfl | decide +kernel | exact absurd h (by decide), ⟨tyX12, tyX12_ok⟩, nmX12⟩
theorem fo_X12_13_705 : FOK RX12 13 705 := ⟨RX12, TX12, 47, "PuzzleWedModel", rfl, by decide, by decide, sh_X12, in_X12, tw1215, Or.inl rfl, rfl, fun h => by first | rfl | decide +kernel | exact absurd h (by decide), ⟨tyX12, tyX12_ok⟩, nmX12⟩
theorem fo_X12_16_706 : FOK RX12 16 706 := ⟨RX12, TX12, 47, "PuzzleWedModel", rfl, by decide, by decide, sh_X12, in_X12, tw1216, Or.inl rfl, rfl, fun h => by first | rfl | decide +kernel | exact absurd h (by decide), ⟨tyX12, tyX12_ok⟩, nmX12⟩
theorem fo_X12_19_707 : FOK RX12 19 707 := ⟨RX12, TX12, 47, "PuzzleWedModel", rfl, by decide, by decide, sh_X12, in_X12, tw1217, Or.inl rfl, rfl, fun h => by first | rfl | decide +kernel | exact absurd h (by decide), ⟨tyX12, tyX12_ok⟩, nmX12⟩
theorem fo_X12_126_708 : FOK RX12 126 708 := ⟨RX12, TX12, 47, "PuzzleWedModel", rfl, by decide, by decide, sh_X12, in_X12, tw1218, Or.inl rfl, rfl, fun h => by first | rfl | decide +kernel | exact absurd h (by decide), ⟨tyX12, tyX12_ok⟩, nmX12⟩
theorem fo_X12_133_709 : FOK RX12 133 709 := ⟨RX12, TX12, 47, "PuzzleWedModel", rfl, by decide, by decide, sh_X12, in_X12, tw1219, Or.inl rfl, rfl, fun h => by first | rfl | decide +kernel | exact absurd h (by decide), ⟨tyX12, tyX12_ok⟩, nmX12⟩
theorem fo_X12_136_710 : FOK RX12 136 710 := ⟨RX12, TX12, 47, "PuzzleWedModel", rfl, by decide, by decide, sh_X12, in_X12, tw1220, Or.inl rfl, rfl, fun h => by first | rfl | decide +kernel | exact absurd h (by decide), ⟨tyX12, tyX12_ok⟩, nmX12⟩
theorem fo_X12_143_711 : FOK RX12 143 711 := ⟨RX12, TX12, 47, "PuzzleWedModel", rfl, by decide, by decide, sh_X12, in_X12, tw1221, Or.inl rfl, rfl, fun h => by first | rfl | decide +kernel | exact absurd h (by decide), ⟨tyX12, tyX12_ok⟩, nmX12⟩
theorem fo_X12_149_712 : FOK RX12 149 712 := ⟨RX12, TX12, 47, "PuzzleWedModel", rfl, by decide, by decide, sh_X12, in_X12, tw1222, Or.inl rfl, rfl, fun h => by first | rfl | decide +kernel | exact absurd h (by decide), ⟨tyX12, tyX12_ok⟩, nmX12⟩
theorem fo_X12_160_713 : FOK RX12 160 713 := ⟨RX12, TX12, 47, "PuzzleWedModel", rfl, by decide, by decide, sh_X12, in_X12, tw1223, Or.inl rfl, rfl, fun h => by first | rfl | decide +kernel | exact absurd h (by decide), ⟨tyX12, tyX12_ok⟩, nmX12⟩
theorem fo_X12_156_714 : FOK RX12 156 714 := ⟨RX12, TX12, 47, "PuzzleWedModel", rfl, by decide, by decide, sh_X12, in_X12, tw1224, Or.inl rfl, rfl, fun h => by first | rfl | decide +kernel | exact absurd h (by decide), ⟨tyX12, tyX12_ok⟩, nmX12⟩
theorem fo_X12_163_715 : FOK RX12 163 715 := ⟨RX12, TX12, 47, "PuzzleWedModel", rfl, by decide, by decide, sh_X12, in_X12, tw1225, Or.inl rfl, rfl, fun h => by first | rfl | decide +kernel | exact absurd h (by decide), ⟨tyX12, tyX12_ok⟩, nmX12⟩
theorem fo_X12_213_716 : FOK RX12 213 716 := ⟨RX12, TX12, 47, "PuzzleWedModel", rfl, by decide, by decide, sh_X12, in_X12, tw1226, Or.inl rfl, rfl, fun h => by first | rfl | decide +kernel | exact absurd h (by decide), ⟨tyX12, tyX12_ok⟩, nmX12⟩
theorem fo_X12_225_717 : FOK RX12 225 717 := ⟨RX12, TX12, 47, "PuzzleWedModel", rfl, by decide, by decide, sh_X12, in_X12, tw1227, Or.inl rfl, rfl, fun h => by first | rfl | decide +kernel | exact absurd h (by decide), ⟨tyX12, tyX12_ok⟩, nmX12⟩
theorem fo_X12_23_718 : FOK RX12 23 718 := ⟨RX12, TX12, 47, "PuzzleWedModel", rfl, by decide, by decide, sh_X12, in_X12, tw1228, Or.inl rfl, rfl, fun h => by first | rfl | decide +kernel | exact absurd h (by decide), ⟨tyX12, tyX12_ok⟩, nmX12⟩
theorem fo_X12_26_719 : FOK RX12 26 719 := ⟨RX12, TX12, 47, "PuzzleWedModel", rfl, by decide, by decide, sh_X12, in_X12, tw1229, Or.inl rfl, rfl, fun h => by first | rfl | decide +kernel | exact absurd h (by decide), ⟨tyX12, tyX12_ok⟩, nmX12⟩
theorem fo_X12_29_720 : FOK RX12 29 720 := ⟨RX12, TX12, 47, "PuzzleWedModel", rfl, by decide, by decide, sh_X12, in_X12, tw1230, Or.inl rfl, rfl, fun h => by first | rfl | decide +kernel | exact absurd h (by decide), ⟨tyX12, tyX12_ok⟩, nmX12⟩
theorem fo_X12_32_721 : FOK RX12 32 721 := ⟨RX12, TX12, 47, "PuzzleWedModel", rfl, by decide, by decide, sh_X12, in_X12, tw1231, Or.inl rfl, rfl, fun h => by first | rfl | decide +kernel | exact absurd h (by decide), ⟨tyX12, tyX12_ok⟩, nmX12⟩
theorem fo_X12_35_722 : FOK RX12 35 722 := ⟨RX12, TX12, 47, "PuzzleWedModel", rfl, by decide, by decide, sh_X12, in_X12, tw1232, Or.inl rfl, rfl, fun h => by first | rfl | decide +kernel | exact absurd h (by decide), ⟨tyX12, tyX12_ok⟩, nmX12⟩
theorem fo_X12_38_723 : FOK RX12 38 723 := ⟨RX12, TX12, 47, "PuzzleWedModel", rfl, by decide, by decide, sh_X12, in_X12, tw1233, Or.inl rfl, rfl, fun h => by first | rfl | decide +kernel | exact absurd h (by decide), ⟨tyX12, tyX12_ok⟩, nmX12⟩
theorem fo_X12_41_724 : FOK RX12 41 724 := ⟨RX12, TX12, 47, "PuzzleWedModel", rfl, by decide, by decide, sh_X12, in_X12, tw1234, Or.inl rfl, rfl, fun h => by first | rfl | decide +kernel | exact absurd h (by decide), ⟨tyX12, tyX12_ok⟩, nmX12⟩
theorem fo_X12_44_725 : FOK RX12 44 725 := ⟨RX12, TX12, 47, "PuzzleWedModel", rfl, by decide, by decide, sh_X12, in_X12, tw1235, Or.inl rfl, rfl, fun h => by first | rfl | decide +kernel | exact absurd h (by decide), ⟨tyX12, tyX12_ok⟩, nmX12⟩
theorem fo_X12_47_726 : FOK RX12 47 726 := ⟨RX12, TX12, 47, "PuzzleWedModel", rfl, by decide, by decide, sh_X12, in_X12, tw1236, Or.inl rfl, rfl, fun h => by first | rfl | decide +kernel | exact absurd h (by decide), ⟨tyX12, tyX12_ok⟩, nmX12⟩
theorem fo_X12_50_727 : FOK RX12 50 727 := ⟨RX12, TX12, 47, "PuzzleWedModel", rfl, by decide, by decide, sh_X12, in_X12, tw1237, Or.inl rfl, rfl, fun h => by first | rfl | decide +kernel | exact absurd h (by decide), ⟨tyX12, tyX12_ok⟩, nmX12⟩
theorem fo_X12_53_728 : FOK RX12 53 728 := ⟨RX12, TX12, 47, "PuzzleWedModel", rfl, by decide, by decide, sh_X12, in_X12, tw1238, Or.inl rfl, rfl, fun h => by first | rfl | decide +kernel | exact absurd h (by decide), ⟨tyX12, tyX12_ok⟩, nmX12⟩
theorem fo_X12_56_729 : FOK RX12 56 729 := ⟨RX12, TX12, 47, "PuzzleWedModel", rfl, by decide, by decide, sh_X12, in_X12, tw1239, Or.inl rfl, rfl, fun h => by first | rfl | decide +kernel | exact absurd h (by decide), ⟨tyX12, tyX12_ok⟩, nmX12⟩
theorem fo_X12_59_730 : FOK RX12 59 730 := ⟨RX12, TX12, 47, "PuzzleWedModel", rfl, by decide, by decide, sh_X12, in_X12, tw1240, Or.inl rfl, rfl, fun h => by first | rfl | decide +kernel | exact absurd h (by decide), ⟨tyX12, tyX12_ok⟩, nmX12⟩
theorem fo_X12_62_731 : FOK RX12 62 731 := ⟨RX12, TX12, 47, "PuzzleWedModel", rfl, by decide, by decide, sh_X12, in_X12, tw1241, Or.inl rfl, rfl, fun h => by first | rfl | decide +kernel | exact absurd h (by decide), ⟨tyX12, tyX12_ok⟩, nmX12⟩
theorem fo_X12_65_732 : FOK RX12 65 732 := ⟨RX12, TX12, 47, "PuzzleWedModel", rfl, by decide, by decide, sh_X12, in_X12, tw1242, Or.inl rfl, rfl, fun h => by first | rfl | decide +kernel | exact absurd h (by decide), ⟨tyX12, tyX12_ok⟩, nmX12⟩
theorem fo_X12_268_733 : FOK RX12 268 733 := ⟨RX12, TX12, 47, "PuzzleWedModel", rfl, by decide, by decide, sh_X12, in_X12, tw1243, Or.inl rfl, rfl, fun h => by first | rfl | decide +kernel | exact absurd h (by decide), ⟨tyX12, tyX12_ok⟩, nmX12⟩
theorem fo_X12_274_734 : FOK RX12 274 734 := ⟨RX12, TX12, 47, "PuzzleWedModel", rfl, by decide, by decide, sh_X12, in_X12, tw1244, Or.inl rfl, rfl, fun h => by first | rfl | decide +kernel | exact absurd h (by decide), ⟨tyX12, tyX12_ok⟩, nmX12⟩
theorem fo_X12_289_735 : FOK RX12 289 735 := ⟨RX12, TX12, 47, "PuzzleWedModel", rfl, by decide, by decide, sh_X12, in_X12, tw1245, Or.inl rfl, rfl, fun h => by first | rfl | decide +kernel | exact absurd h (by decide), ⟨tyX12, tyX12_ok⟩, nmX12⟩
theorem fo_X12_280_736 : FOK RX12 280 736 := ⟨RX12, TX12, 47, "PuzzleWedModel", rfl, by decide, by decide, sh_X12, in_X12, tw1246, Or.inl rfl, rfl, fun h => by first | rfl | decide +kernel | exact absurd h (by decide), ⟨tyX12, tyX12_ok⟩, nmX12⟩
theorem fo_X12_302_737 : FOK RX12 302 737 := ⟨RX12, TX12, 47, "PuzzleWedModel", rfl, by decide, by decide, sh_X12, in_X12, tw1247, Or.inl rfl, rfl, fun h => by first | rfl | decide +kernel | exact absurd h (by decide), ⟨tyX12, tyX12_ok⟩, nmX12⟩
theorem fo_X12_68_738 : FOK RX12 68 738 := ⟨RX12, TX12, 47, "PuzzleWedModel", rfl, by decide, by decide, sh_X12, in_X12, tw1248, Or.inl rfl, rfl, fun h => by first | rfl | decide +kernel | exact absurd h (by decide), ⟨tyX12, tyX12_ok⟩, nmX12⟩
theorem fo_X12_71_739 : FOK RX12 71 739 := ⟨RX12, TX12, 47, "PuzzleWedModel", rfl, by decide, by decide, sh_X12, in_X12, tw1249, Or.inl rfl, rfl, fun h => by first | rfl | decide +kernel | exact absurd h (by decide), ⟨tyX12, tyX12_ok⟩, nmX12⟩
theorem fo_X12_74_740 : FOK RX12 74 740 := ⟨RX12, TX12, 47, "PuzzleWedModel", rfl, by decide, by decide, sh_X12, in_X12, tw1250, Or.inl rfl, rfl, fun h => by first | rfl | decide +kernel | exact absurd h (by decide), ⟨tyX12, tyX12_ok⟩, nmX12⟩
theorem fo_X12_78_741 : FOK RX12 78 741 := ⟨RX12, TX12, 47, "PuzzleWedModel", rfl, by decide, by decide, sh_X12, in_X12, tw1251, Or.inl rfl, rfl, fun h => by first | rfl | decide +kernel | exact absurd h (by decide), ⟨tyX12, tyX12_ok⟩, nmX12⟩
theorem fo_X12_81_742 : FOK RX12 81 742 := ⟨RX12, TX12, 47, "PuzzleWedModel", rfl, by decide, by decide, sh_X12, in_X12, tw1252, Or.inl rfl, rfl, fun h => by first | rfl | decide +kernel | exact absurd h (by decide), ⟨tyX12, tyX12_ok⟩, nmX12⟩
theorem fo_X12_84_743 : FOK RX12 84 743 := ⟨RX12, TX12, 47, "PuzzleWedModel", rfl, by decide, by decide, sh_X12, in_X12, tw1253, Or.inl rfl, rfl, fun h => by first | rfl | decide +kernel | exact absurd h (by decide), ⟨tyX12, tyX12_ok⟩, nmX12⟩
theorem fo_X12_87_744 : FOK RX12 87 744 := ⟨RX12, TX12, 47, "PuzzleWedModel", rfl, by decide, by decide, sh_X12, in_X12, tw1254, Or.inl rfl, rfl, fun h => by first | rfl | decide +kernel | exact absurd h (by decide), ⟨tyX12, tyX12_ok⟩, nmX12⟩
theorem fo_X12_91_745 : FOK RX12 91 745 := ⟨RX12, TX12, 47, "PuzzleWedModel", rfl, by decide, by decide, sh_X12, in_X12, tw1255, Or.inl rfl, rfl, fun h => by first | rfl | decide +kernel | exact absurd h (by decide), ⟨tyX12, tyX12_ok⟩, nmX12⟩
theorem fo_X12_94_746 : FOK RX12 94 746 := ⟨RX12, TX12, 47, "PuzzleWedModel", rfl, by decide, by decide, sh_X12, in_X12, tw1256, Or.inl rfl, rfl, fun h => by first | rfl | decide +kernel | exact absurd h (by decide), ⟨tyX12, tyX12_ok⟩, nmX12⟩
theorem fo_X12_379_747 : FOK RX12 379 747 := ⟨RX12, TX12, 47, "PuzzleWedModel", rfl, by decide, by decide, sh_X12, in_X12, tw1257, Or.inl rfl, rfl, fun h => by first | rfl | decide +kernel | exact absurd h (by decide), ⟨tyX12, tyX12_ok⟩, nmX12⟩
theorem fo_X12_370_748 : FOK RX12 370 748 := ⟨RX12, TX12, 47, "PuzzleWedModel", rfl, by decide, by decide, sh_X12, in_X12, tw1258, Or.inl rfl, rfl, fun h => by first | rfl | decide +kernel | exact absurd h (by decide), ⟨tyX12, tyX12_ok⟩, nmX12⟩
theorem fo_X12_373_749 : FOK RX12 373 749 := ⟨RX12, TX12, 47, "PuzzleWedModel", rfl, by decide, by decide, sh_X12, in_X12, tw1259, Or.inl rfl, rfl, fun h => by first | rfl | decide +kernel | exact absurd h (by decide), ⟨tyX12, tyX12_ok⟩, nmX12⟩
theorem fo_X12_408_750 : FOK RX12 408 750 := ⟨RX12, TX12, 47, "PuzzleWedModel", rfl, by decide, by decide, sh_X12, in_X12, tw1260, Or.inl rfl, rfl, fun h => by first | rfl | decide +kernel | exact absurd h (by decide), ⟨tyX12, tyX12_ok⟩, nmX12⟩
theorem pk_X12 : PLOK RX12 pl_X12 := ⟨List.forall_mem_cons.mpr ⟨fo_X12_7_704, List.forall_mem_cons.mpr ⟨fo_X12_13_705, List.forall_mem_cons.mpr ⟨fo_X12_16_706, List.forall_mem_cons.mpr ⟨fo_X12_19_707, List.forall_mem_cons.mpr ⟨fo_X12_126_708, List.forall_mem_cons.mpr ⟨fo_X12_133_709, List.forall_mem_cons.mpr ⟨fo_X12_136_710, List.forall_mem_cons.mpr ⟨fo_X12_143_711, List.forall_mem_cons.mpr ⟨fo_X12_149_712, List.forall_mem_cons.mpr ⟨fo_X12_160_713, List.forall_mem_cons.mpr ⟨fo_X12_156_714, List.forall_mem_cons.mpr ⟨fo_X12_163_715, List.forall_mem_cons.mpr ⟨fo_X12_213_716, List.forall_mem_cons.mpr ⟨fo_X12_225_717, List.forall_mem_cons.mpr ⟨fo_X12_23_718, List.forall_mem_cons.mpr ⟨fo_X12_26_719, List.forall_mem_cons.mpr ⟨fo_X12_29_720, List.forall_mem_cons.mpr ⟨fo_X12_32_721, List.forall_mem_cons.mpr ⟨fo_X12_35_722, List.forall_mem_cons.mpr ⟨fo_X12_38_723, List.forall_mem_cons.mpr ⟨fo_X12_41_724, List.forall_mem_cons.mpr ⟨fo_X12_44_725, List.forall_mem_cons.mpr ⟨fo_X12_47_726, List.forall_mem_cons.mpr ⟨fo_X12_50_727, List.forall_mem_cons.mpr ⟨fo_X12_53_728, List.forall_mem_cons.mpr ⟨fo_X12_56_729, List.forall_mem_cons.mpr ⟨fo_X12_59_730, List.forall_mem_cons.mpr ⟨fo_X12_62_731, List.forall_mem_cons.mpr ⟨fo_X12_65_732, List.forall_mem_cons.mpr ⟨fo_X12_268_733, List.forall_mem_cons.mpr ⟨fo_X12_274_734, List.forall_mem_cons.mpr ⟨fo_X12_289_735, List.forall_mem_cons.mpr ⟨fo_X12_280_736, List.forall_mem_cons.mpr ⟨fo_X12_302_737, List.forall_mem_cons.mpr ⟨fo_X12_68_738, List.forall_mem_cons.mpr ⟨fo_X12_71_739, List.forall_mem_cons.mpr ⟨fo_X12_74_740, List.forall_mem_cons.mpr ⟨fo_X12_78_741, List.forall_mem_cons.mpr ⟨fo_X12_81_742, List.forall_mem_cons.mpr ⟨fo_X12_84_743, List.forall_mem_cons.mpr ⟨fo_X12_87_744, List.forall_mem_cons.mpr ⟨fo_X12_91_745, List.forall_mem_cons.mpr ⟨fo_X12_94_746, List.forall_mem_cons.mpr ⟨fo_X12_379_747, List.forall_mem_cons.mpr ⟨fo_X12_370_748, List.forall_mem_cons.mpr ⟨fo_X12_373_749, List.forall_mem_cons.mpr ⟨fo_X12_408_750, List.forall_mem_nil _⟩⟩⟩⟩⟩⟩⟩⟩⟩⟩⟩⟩⟩⟩⟩⟩⟩⟩⟩⟩⟩⟩⟩⟩⟩⟩⟩⟩⟩⟩⟩⟩⟩⟩⟩⟩⟩⟩⟩⟩⟩⟩⟩⟩⟩⟩⟩, List.forall_mem_cons.mpr ⟨tw1212, List.forall_mem_cons.mpr ⟨tw1213, List.forall_mem_cons.mpr ⟨tw1440, List.forall_mem_cons.mpr ⟨tw1542, List.forall_mem_cons.mpr ⟨tw1595, List.forall_mem_cons.mpr ⟨tw1647, List.forall_mem_cons.mpr ⟨tw1763, List.forall_mem_nil _⟩⟩⟩⟩⟩⟩⟩, List.forall_mem_nil _, List.forall_mem_nil _⟩
def pl_J11 : PL := ([], [(110, 55232), (76, 56320)], [], [])
theorem pk_J11 : PLOK RJ11 pl_J11 := ⟨List.forall_mem_nil _, List.forall_mem_cons.mpr ⟨tw713, List.forall_mem_cons.mpr ⟨tw717, List.forall_mem_nil _⟩⟩, List.forall_mem_nil _, List.forall_mem_nil _⟩
def pl_J6 : PL := ([], [(265, 1431655765), (266, 858993459), (267, 252645135)], [], [])
theorem pk_J6 : PLOK RJ6 pl_J6 := ⟨List.forall_mem_nil _, List.forall_mem_cons.mpr ⟨tw903, List.forall_mem_cons.mpr ⟨tw904, List.forall_mem_cons.mpr ⟨tw905, List.forall_mem_nil _⟩⟩⟩, List.forall_mem_nil _, List.forall_mem_nil _⟩
def pl_J9 : PL := ([], [], [], [])
theorem pk_J9 : PLOK RJ9 pl_J9 := ⟨List.forall_mem_nil _, List.forall_mem_nil _, List.forall_mem_nil _, List.forall_mem_nil _⟩
def pl_J0 : PL := ([], [], [], [])
theorem pk_J0 : PLOK RJ0 pl_J0 := ⟨List.forall_mem_nil _, List.forall_mem_nil _, List.forall_mem_nil _, List.forall_mem_nil _⟩
def pl_J1 : PL := ([], [], [], [])
theorem pk_J1 : PLOK RJ1 pl_J1 := ⟨List.forall_mem_nil _, List.forall_mem_nil _, List.forall_mem_nil _, List.forall_mem_nil _⟩
def pl_J2 : PL := ([], [(227, 65536)], [], [])
theorem pk_J2 : PLOK RJ2 pl_J2 := ⟨List.forall_mem_nil _, List.forall_mem_cons.mpr ⟨tw674, List.forall_mem_nil _⟩, List.forall_mem_nil _, List.forall_mem_nil _⟩
def pl_J7 : PL := ([], [], [], [])
theorem pk_J7 : PLOK RJ7 pl_J7 := ⟨List.forall_mem_nil _, List.forall_mem_nil _, List.forall_mem_nil _, List.forall_mem_nil _⟩
def pl_J3 : PL := ([], [], [], [])
theorem pk_J3 : PLOK RJ3 pl_J3 := ⟨List.forall_mem_nil _, List.forall_mem_nil _, List.forall_mem_nil _, List.forall_mem_nil _⟩
def pl_L : PL := ([], [], [], [])
theorem pk_L : PLOK RL pl_L := ⟨List.forall_mem_nil _, List.forall_mem_nil _, List.forall_mem_nil _, List.forall_mem_nil _⟩
