/-! Part 03: words of the tables by their places, rows that read and write fields, links of calls. -/
theorem ii_1 {x : Int32} : x + Int32.ofInt 1 = x + (1 : Int32) := congrArg (fun z => x + z) (by decide)
theorem ii_m1 {x : Int32} : x + Int32.ofInt (-1) = x + (-1 : Int32) := congrArg (fun z => x + z) (by decide)
theorem ii_4 {x : Int32} : x + Int32.ofInt 4 = x + (4 : Int32) := congrArg (fun z => x + z) (by decide)
theorem ti_ne {x k : Int32} {n : Int} (hn : k.toInt = n) (h : ¬ x = k) : ¬ x.toInt = n := fun e => h (Int32.toInt_inj.mp (e.trans hn.symm))
theorem tb_out_0_2 {x : Int32} (h0 : ¬ x = (0 : Int32)) (h1 : ¬ x = (1 : Int32)) (h2 : ¬ x = (2 : Int32)) : x.toInt < 0 ∨ 2 < x.toInt := by
  have e0 := ti_ne (n := 0) (by decide) h0
  have e1 := ti_ne (n := 1) (by decide) h1
  have e2 := ti_ne (n := 2) (by decide) h2
  omega
theorem tb_out_0_3 {x : Int32} (h0 : ¬ x = (0 : Int32)) (h1 : ¬ x = (1 : Int32)) (h2 : ¬ x = (2 : Int32)) (h3 : ¬ x = (3 : Int32)) : x.toInt < 0 ∨ 3 < x.toInt := by
  have e0 := ti_ne (n := 0) (by decide) h0
  have e1 := ti_ne (n := 1) (by decide) h1
  have e2 := ti_ne (n := 2) (by decide) h2
  have e3 := ti_ne (n := 3) (by decide) h3
  omega
theorem tb_out_0_12 {x : Int32} (h0 : ¬ x = (0 : Int32)) (h1 : ¬ x = (1 : Int32)) (h2 : ¬ x = (2 : Int32)) (h3 : ¬ x = (3 : Int32)) (h4 : ¬ x = (4 : Int32)) (h5 : ¬ x = (5 : Int32)) (h6 : ¬ x = (6 : Int32)) (h7 : ¬ x = (7 : Int32)) (h8 : ¬ x = (8 : Int32)) (h9 : ¬ x = (9 : Int32)) (h10 : ¬ x = (10 : Int32)) (h11 : ¬ x = (11 : Int32)) (h12 : ¬ x = (12 : Int32)) : x.toInt < 0 ∨ 12 < x.toInt := by
  have e0 := ti_ne (n := 0) (by decide) h0
  have e1 := ti_ne (n := 1) (by decide) h1
  have e2 := ti_ne (n := 2) (by decide) h2
  have e3 := ti_ne (n := 3) (by decide) h3
  have e4 := ti_ne (n := 4) (by decide) h4
  have e5 := ti_ne (n := 5) (by decide) h5
  have e6 := ti_ne (n := 6) (by decide) h6
  have e7 := ti_ne (n := 7) (by decide) h7
  have e8 := ti_ne (n := 8) (by decide) h8
  have e9 := ti_ne (n := 9) (by decide) h9
  have e10 := ti_ne (n := 10) (by decide) h10
  have e11 := ti_ne (n := 11) (by decide) h11
  have e12 := ti_ne (n := 12) (by decide) h12
  omega
theorem tb_out_1_3 {x : Int32} (h1 : ¬ x = (1 : Int32)) (h2 : ¬ x = (2 : Int32)) (h3 : ¬ x = (3 : Int32)) : x.toInt < 1 ∨ 3 < x.toInt := by
  have e1 := ti_ne (n := 1) (by decide) h1
  have e2 := ti_ne (n := 2) (by decide) h2
  have e3 := ti_ne (n := 3) (by decide) h3
  omega
theorem tb_out_110_119 {x : Int32} (h110 : ¬ x = (110 : Int32)) (h111 : ¬ x = (111 : Int32)) (h112 : ¬ x = (112 : Int32)) (h113 : ¬ x = (113 : Int32)) (h114 : ¬ x = (114 : Int32)) (h115 : ¬ x = (115 : Int32)) (h116 : ¬ x = (116 : Int32)) (h117 : ¬ x = (117 : Int32)) (h118 : ¬ x = (118 : Int32)) (h119 : ¬ x = (119 : Int32)) : x.toInt < 110 ∨ 119 < x.toInt := by
  have e110 := ti_ne (n := 110) (by decide) h110
  have e111 := ti_ne (n := 111) (by decide) h111
  have e112 := ti_ne (n := 112) (by decide) h112
  have e113 := ti_ne (n := 113) (by decide) h113
  have e114 := ti_ne (n := 114) (by decide) h114
  have e115 := ti_ne (n := 115) (by decide) h115
  have e116 := ti_ne (n := 116) (by decide) h116
  have e117 := ti_ne (n := 117) (by decide) h117
  have e118 := ti_ne (n := 118) (by decide) h118
  have e119 := ti_ne (n := 119) (by decide) h119
  omega
theorem tw_0 : Cond.selects RX1 yX1_readItem yX1_readItem ∈ TB := TBm 0 (by decide +kernel) (by decide +kernel)
theorem tw_1 : Cond.selects RX1 yX1_letterHere yX1_letterHere ∈ TB := TBm 1 (by decide +kernel) (by decide +kernel)
theorem tw_2 : Cond.selects RX1 yX1_readNumbers yX1_readNumbers ∈ TB := TBm 2 (by decide +kernel) (by decide +kernel)
theorem tw_3 : Cond.selects RX1 yX1_readFigure yX1_readFigure ∈ TB := TBm 3 (by decide +kernel) (by decide +kernel)
theorem tw_4 : Cond.selects RX3 yX3_shorten yX3_shorten ∈ TB := TBm 4 (by decide +kernel) (by decide +kernel)
theorem tw_5 : Cond.selects RX5 yX5_turnsOf yX5_turnsOf ∈ TB := TBm 5 (by decide +kernel) (by decide +kernel)
theorem tw_6 : Cond.selects RX5 yX5_stepFrom yX5_stepFrom ∈ TB := TBm 6 (by decide +kernel) (by decide +kernel)
theorem tw_7 : Cond.selects RX6 yX6_comersHelpedIn yX6_comersHelpedIn ∈ TB := TBm 7 (by decide +kernel) (by decide +kernel)
theorem tw_8 : Cond.selects RX6 yX6_comersPainted yX6_comersPainted ∈ TB := TBm 8 (by decide +kernel) (by decide +kernel)
theorem tw_9 : Cond.selects RX6 yX6_isCover yX6_isCover ∈ TB := TBm 9 (by decide +kernel) (by decide +kernel)
theorem tw_10 : Cond.selects RX6 yX6_tellsAll yX6_tellsAll ∈ TB := TBm 10 (by decide +kernel) (by decide +kernel)
theorem tw_11 : Cond.selects RX6 yX6_mostAlike yX6_mostAlike ∈ TB := TBm 11 (by decide +kernel) (by decide +kernel)
theorem tw_12 : Cond.selects RX6 yX6_alikeWith yX6_alikeWith ∈ TB := TBm 12 (by decide +kernel) (by decide +kernel)
theorem tw_13 : Cond.selects RX6 yX6_tellAlike yX6_tellAlike ∈ TB := TBm 13 (by decide +kernel) (by decide +kernel)
theorem tw_14 : Cond.selects RX6 yX6_fitsSightings yX6_fitsSightings ∈ TB := TBm 14 (by decide +kernel) (by decide +kernel)
theorem tw_15 : Cond.selects RX6 yX6_weightOf yX6_weightOf ∈ TB := TBm 15 (by decide +kernel) (by decide +kernel)
theorem tw_16 : Cond.selects RX6 yX6_comesTwisted yX6_comesTwisted ∈ TB := TBm 16 (by decide +kernel) (by decide +kernel)
theorem tw_17 : Cond.selects RX6 yX6_actByDraw yX6_actByDraw ∈ TB := TBm 17 (by decide +kernel) (by decide +kernel)
theorem tw_18 : Cond.selects RX6 yX6_layOrClose yX6_layOrClose ∈ TB := TBm 18 (by decide +kernel) (by decide +kernel)
theorem tw_20 : Cond.selects RX7 yX7_begin yX7_begin ∈ TB := TBm 20 (by decide +kernel) (by decide +kernel)
theorem tw_21 : Cond.selects RX7 yX7_tellRoad yX7_tellRoad ∈ TB := TBm 21 (by decide +kernel) (by decide +kernel)
theorem tw_22 : Cond.selects RX7 yX7_tellPost yX7_tellPost ∈ TB := TBm 22 (by decide +kernel) (by decide +kernel)
theorem tw_23 : Cond.selects RX7 yX7_tellWalker yX7_tellWalker ∈ TB := TBm 23 (by decide +kernel) (by decide +kernel)
theorem tw_24 : Cond.selects RX7 yX7_takeDraft yX7_takeDraft ∈ TB := TBm 24 (by decide +kernel) (by decide +kernel)
theorem tw_25 : Cond.selects RX7 yX7_measure yX7_measure ∈ TB := TBm 25 (by decide +kernel) (by decide +kernel)
theorem tw_26 : Cond.selects RX7 yX7_paintOn yX7_paintOn ∈ TB := TBm 26 (by decide +kernel) (by decide +kernel)
theorem tw_27 : Cond.selects RX7 yX7_nextOn yX7_nextOn ∈ TB := TBm 27 (by decide +kernel) (by decide +kernel)
theorem tw_28 : Cond.selects RX7 yX7_read yX7_read ∈ TB := TBm 28 (by decide +kernel) (by decide +kernel)
theorem tw_29 : Cond.selects RX7 yX7_readItem yX7_readItem ∈ TB := TBm 29 (by decide +kernel) (by decide +kernel)
theorem tw_30 : Cond.selects RX7 yX7_here yX7_here ∈ TB := TBm 30 (by decide +kernel) (by decide +kernel)
theorem tw_31 : Cond.selects RX7 yX7_number yX7_number ∈ TB := TBm 31 (by decide +kernel) (by decide +kernel)
theorem tw_32 : Cond.selects RX7 yX7_isFigure yX7_isFigure ∈ TB := TBm 32 (by decide +kernel) (by decide +kernel)
theorem tw_33 : Cond.selects RX7 yX7_readRoad yX7_readRoad ∈ TB := TBm 33 (by decide +kernel) (by decide +kernel)
theorem tw_34 : Cond.selects RX7 yX7_due yX7_due ∈ TB := TBm 34 (by decide +kernel) (by decide +kernel)
theorem tw_35 : Cond.selects RX7 yX7_readPost yX7_readPost ∈ TB := TBm 35 (by decide +kernel) (by decide +kernel)
theorem tw_36 : Cond.selects RX7 yX7_readWalker yX7_readWalker ∈ TB := TBm 36 (by decide +kernel) (by decide +kernel)
theorem tw_37 : Cond.selects RX7 yX7_isTown yX7_isTown ∈ TB := TBm 37 (by decide +kernel) (by decide +kernel)
theorem tw_38 : Cond.selects RX7 yX7_isPost yX7_isPost ∈ TB := TBm 38 (by decide +kernel) (by decide +kernel)
theorem tw_39 : Cond.selects RX7 yX7_points yX7_points ∈ TB := TBm 39 (by decide +kernel) (by decide +kernel)
theorem tw_40 : Cond.selects RX7 yX7_turned yX7_turned ∈ TB := TBm 40 (by decide +kernel) (by decide +kernel)
theorem tw_41 : Cond.selects RX7 yX7_isWalker yX7_isWalker ∈ TB := TBm 41 (by decide +kernel) (by decide +kernel)
theorem tw_42 : Cond.selects RX7 yX7_know yX7_know ∈ TB := TBm 42 (by decide +kernel) (by decide +kernel)
theorem tw_43 : Cond.selects RX7 yX7_passHour yX7_passHour ∈ TB := TBm 43 (by decide +kernel) (by decide +kernel)
theorem tw_44 : Cond.selects RX7 yX7_goesTo yX7_goesTo ∈ TB := TBm 44 (by decide +kernel) (by decide +kernel)
theorem tw_45 : Cond.selects RX7 yX7_postAt yX7_postAt ∈ TB := TBm 45 (by decide +kernel) (by decide +kernel)
theorem tw_46 : Cond.selects RX7 yX7_passYear yX7_passYear ∈ TB := TBm 46 (by decide +kernel) (by decide +kernel)
theorem tw_47 : Cond.selects RX7 yX7_take yX7_take ∈ TB := TBm 47 (by decide +kernel) (by decide +kernel)
theorem tw_48 : Cond.selects RX7 yX7_comeBy yX7_comeBy ∈ TB := TBm 48 (by decide +kernel) (by decide +kernel)
theorem tw_49 : Cond.selects RX7 yX7_comeTo yX7_comeTo ∈ TB := TBm 49 (by decide +kernel) (by decide +kernel)
theorem tw_50 : Cond.selects RX7 yX7_areAlike yX7_areAlike ∈ TB := TBm 50 (by decide +kernel) (by decide +kernel)
theorem tw_51 : Cond.selects RX7 yX7_turn yX7_turn ∈ TB := TBm 51 (by decide +kernel) (by decide +kernel)
theorem tw_52 : Cond.selects RX7 yX7_retiredOf yX7_retiredOf ∈ TB := TBm 52 (by decide +kernel) (by decide +kernel)
theorem tw_54 : Cond.initialized RX6 ∈ TB := TBm 54 (by decide +kernel) (by decide +kernel)
theorem tw_55 : Cond.initialized RX1 ∈ TB := TBm 55 (by decide +kernel) (by decide +kernel)
theorem tw_56 : Cond.initialized RX0 ∈ TB := TBm 56 (by decide +kernel) (by decide +kernel)
theorem tw_57 : Cond.initialized "java/lang/Math" ∈ TB := TBm 57 (by decide +kernel) (by decide +kernel)
theorem tw_58 : Cond.initialized RX5 ∈ TB := TBm 58 (by decide +kernel) (by decide +kernel)
theorem tw_59 : Cond.initialized RX3 ∈ TB := TBm 59 (by decide +kernel) (by decide +kernel)
theorem tw_60 : Cond.initialized RX4 ∈ TB := TBm 60 (by decide +kernel) (by decide +kernel)
theorem tw_61 : Cond.initialized RX2 ∈ TB := TBm 61 (by decide +kernel) (by decide +kernel)
theorem tw_66 : Cond.initialized RX7 ∈ TB := TBm 66 (by decide +kernel) (by decide +kernel)
theorem tw_67 : Cond.initialized "java/lang/System" ∈ TB := TBm 67 (by decide +kernel) (by decide +kernel)
theorem tw_68 : Cond.initialized "java/lang/Integer" ∈ TB := TBm 68 (by decide +kernel) (by decide +kernel)
theorem tw_89 : Cond.methodLink RX0 15 yJ9_min_7cf53 ∈ TB := TBm 89 (by decide +kernel) (by decide +kernel)
theorem tw_90 : Cond.static yJ9_min_7cf53 ∈ TB := TBm 90 (by decide +kernel) (by decide +kernel)
theorem tw_91 : Cond.code yJ9_min_7cf53 cJ9_min_7cf53 2 (some .int) ∈ TB := TBm 91 (by decide +kernel) (by decide +kernel)
theorem tw_93 : Cond.static yJ9_max_7cf53 ∈ TB := TBm 93 (by decide +kernel) (by decide +kernel)
theorem tw_94 : Cond.code yJ9_max_7cf53 cJ9_max_7cf53 2 (some .int) ∈ TB := TBm 94 (by decide +kernel) (by decide +kernel)
theorem tw_95 : Cond.fieldLink RX0 9 "SignpostYard$Grid" "columns" "I" ∈ TB := TBm 95 (by decide +kernel) (by decide +kernel)
theorem tw_96 : Cond.fieldLink RX0 24 "SignpostYard$Grid" "cells" "[I" ∈ TB := TBm 96 (by decide +kernel) (by decide +kernel)
theorem tw_103 : Cond.fieldLink RX1 14 "SignpostYard$Letters" "letters" "LSignpostYard$Grid;" ∈ TB := TBm 103 (by decide +kernel) (by decide +kernel)
theorem tw_104 : Cond.fieldLink RX1 20 "SignpostYard$Letters" "numbers" "LSignpostYard$Grid;" ∈ TB := TBm 104 (by decide +kernel) (by decide +kernel)
theorem tw_105 : Cond.fieldLink RX1 23 "SignpostYard$Letters" "length" "I" ∈ TB := TBm 105 (by decide +kernel) (by decide +kernel)
theorem tw_106 : Cond.fieldLink RX1 36 "SignpostYard$Letters" "place" "I" ∈ TB := TBm 106 (by decide +kernel) (by decide +kernel)
theorem tw_130 : Cond.fieldLink RX3 9 "SignpostYard$Roads" "towns" "I" ∈ TB := TBm 130 (by decide +kernel) (by decide +kernel)
theorem tw_131 : Cond.fieldLink RX3 20 "SignpostYard$Roads" "miles" "LSignpostYard$Grid;" ∈ TB := TBm 131 (by decide +kernel) (by decide +kernel)
theorem tw_132 : Cond.fieldLink RX3 24 "SignpostYard$Roads" "paths" "LSignpostYard$Grid;" ∈ TB := TBm 132 (by decide +kernel) (by decide +kernel)
theorem tw_142 : Cond.fieldLink RX5 12 "SignpostYard$Yard" "roads" "LSignpostYard$Roads;" ∈ TB := TBm 142 (by decide +kernel) (by decide +kernel)
theorem tw_143 : Cond.fieldLink RX5 23 "SignpostYard$Yard" "post" "LSignpostYard$Grid;" ∈ TB := TBm 143 (by decide +kernel) (by decide +kernel)
theorem tw_144 : Cond.fieldLink RX5 27 "SignpostYard$Yard" "arms" "LSignpostYard$Grid;" ∈ TB := TBm 144 (by decide +kernel) (by decide +kernel)
theorem tw_145 : Cond.fieldLink RX5 30 "SignpostYard$Yard" "armMiles" "LSignpostYard$Grid;" ∈ TB := TBm 145 (by decide +kernel) (by decide +kernel)
theorem tw_146 : Cond.fieldLink RX5 33 "SignpostYard$Yard" "walker" "LSignpostYard$Grid;" ∈ TB := TBm 146 (by decide +kernel) (by decide +kernel)
theorem tw_147 : Cond.fieldLink RX5 43 "SignpostYard$Yard" "posts" "I" ∈ TB := TBm 147 (by decide +kernel) (by decide +kernel)
theorem tw_148 : Cond.fieldLink RX5 47 "SignpostYard$Yard" "walkers" "I" ∈ TB := TBm 148 (by decide +kernel) (by decide +kernel)
theorem tw_149 : Cond.fieldLink RX5 50 "SignpostYard$Yard" "hour" "I" ∈ TB := TBm 149 (by decide +kernel) (by decide +kernel)
theorem tw_150 : Cond.fieldLink RX5 53 "SignpostYard$Yard" "years" "I" ∈ TB := TBm 150 (by decide +kernel) (by decide +kernel)
theorem tw_151 : Cond.fieldLink RX5 56 "SignpostYard$Yard" "twisted" "I" ∈ TB := TBm 151 (by decide +kernel) (by decide +kernel)
theorem tw_179 : Cond.methodLink RX4 9 yJ9_min_7cf53 ∈ TB := TBm 179 (by decide +kernel) (by decide +kernel)
theorem tw_184 : Cond.fieldLink RX4 20 "SignpostYard$Shelf" "yards" "[LSignpostYard$Yard;" ∈ TB := TBm 184 (by decide +kernel) (by decide +kernel)
theorem tw_185 : Cond.fieldLink RX4 27 "SignpostYard$Shelf" "held" "I" ∈ TB := TBm 185 (by decide +kernel) (by decide +kernel)
theorem tw_186 : Cond.fieldLink RX4 31 "SignpostYard$Shelf" "free" "I" ∈ TB := TBm 186 (by decide +kernel) (by decide +kernel)
theorem tw_202 : Cond.fieldLink RX2 14 "SignpostYard$Notes" "notes" "LSignpostYard$Grid;" ∈ TB := TBm 202 (by decide +kernel) (by decide +kernel)
theorem tw_203 : Cond.fieldLink RX2 20 "SignpostYard$Notes" "held" "I" ∈ TB := TBm 203 (by decide +kernel) (by decide +kernel)
theorem tw_258 : Cond.methodLink RX6 60 yX1_append ∈ TB := TBm 258 (by decide +kernel) (by decide +kernel)
theorem tw_259 : Cond.instanceMethod yX1_append ∈ TB := TBm 259 (by decide +kernel) (by decide +kernel)
theorem tw_260 : Cond.selects RX1 yX1_append yX1_append ∈ TB := TBm 260 (by decide +kernel) (by decide +kernel)
theorem tw_261 : Cond.code yX1_append cX1_append 2 (some .int) ∈ TB := TBm 261 (by decide +kernel) (by decide +kernel)
theorem tw_262 : Cond.methodLink RX1 27 yX0_put ∈ TB := TBm 262 (by decide +kernel) (by decide +kernel)
theorem tw_263 : Cond.instanceMethod yX0_put ∈ TB := TBm 263 (by decide +kernel) (by decide +kernel)
theorem tw_264 : Cond.selects RX0 yX0_put yX0_put ∈ TB := TBm 264 (by decide +kernel) (by decide +kernel)
theorem tw_265 : Cond.code yX0_put cX0_put 5 none ∈ TB := TBm 265 (by decide +kernel) (by decide +kernel)
theorem tw_266 : Cond.methodLink RX6 64 yX1_readInto ∈ TB := TBm 266 (by decide +kernel) (by decide +kernel)
theorem tw_267 : Cond.instanceMethod yX1_readInto ∈ TB := TBm 267 (by decide +kernel) (by decide +kernel)
theorem tw_268 : Cond.selects RX1 yX1_readInto yX1_readInto ∈ TB := TBm 268 (by decide +kernel) (by decide +kernel)
theorem tw_269 : Cond.code yX1_readInto cX1_readInto 4 (some .int) ∈ TB := TBm 269 (by decide +kernel) (by decide +kernel)
theorem tw_270 : Cond.methodLink RX1 31 yX5_clear ∈ TB := TBm 270 (by decide +kernel) (by decide +kernel)
theorem tw_271 : Cond.instanceMethod yX5_clear ∈ TB := TBm 271 (by decide +kernel) (by decide +kernel)
theorem tw_272 : Cond.selects RX5 yX5_clear yX5_clear ∈ TB := TBm 272 (by decide +kernel) (by decide +kernel)
theorem tw_273 : Cond.code yX5_clear cX5_clear 1 none ∈ TB := TBm 273 (by decide +kernel) (by decide +kernel)
theorem tw_274 : Cond.methodLink RX5 59 yX3_clear ∈ TB := TBm 274 (by decide +kernel) (by decide +kernel)
theorem tw_275 : Cond.instanceMethod yX3_clear ∈ TB := TBm 275 (by decide +kernel) (by decide +kernel)
theorem tw_276 : Cond.selects RX3 yX3_clear yX3_clear ∈ TB := TBm 276 (by decide +kernel) (by decide +kernel)
theorem tw_277 : Cond.code yX3_clear cX3_clear 2 none ∈ TB := TBm 277 (by decide +kernel) (by decide +kernel)
theorem tw_278 : Cond.methodLink RX3 31 yJ9_min_7cf53 ∈ TB := TBm 278 (by decide +kernel) (by decide +kernel)
theorem tw_279 : Cond.methodLink RX3 37 yJ9_max_7cf53 ∈ TB := TBm 279 (by decide +kernel) (by decide +kernel)
theorem tw_280 : Cond.methodLink RX3 40 yX0_fill ∈ TB := TBm 280 (by decide +kernel) (by decide +kernel)
theorem tw_281 : Cond.instanceMethod yX0_fill ∈ TB := TBm 281 (by decide +kernel) (by decide +kernel)
theorem tw_282 : Cond.selects RX0 yX0_fill yX0_fill ∈ TB := TBm 282 (by decide +kernel) (by decide +kernel)
theorem tw_283 : Cond.code yX0_fill cX0_fill 3 none ∈ TB := TBm 283 (by decide +kernel) (by decide +kernel)
theorem tw_284 : Cond.methodLink RX1 39 yX1_readItem ∈ TB := TBm 284 (by decide +kernel) (by decide +kernel)
theorem tw_286 : Cond.instanceMethod yX1_readItem ∈ TB := TBm 286 (by decide +kernel) (by decide +kernel)
theorem tw_287 : Cond.code yX1_readItem cX1_readItem 7 (some .boolean) ∈ TB := TBm 287 (by decide +kernel) (by decide +kernel)
theorem tw_288 : Cond.methodLink RX1 43 yX1_letterHere ∈ TB := TBm 288 (by decide +kernel) (by decide +kernel)
theorem tw_290 : Cond.instanceMethod yX1_letterHere ∈ TB := TBm 290 (by decide +kernel) (by decide +kernel)
theorem tw_291 : Cond.code yX1_letterHere cX1_letterHere 1 (some .int) ∈ TB := TBm 291 (by decide +kernel) (by decide +kernel)
theorem tw_292 : Cond.methodLink RX1 55 yX0_at ∈ TB := TBm 292 (by decide +kernel) (by decide +kernel)
theorem tw_293 : Cond.instanceMethod yX0_at ∈ TB := TBm 293 (by decide +kernel) (by decide +kernel)
theorem tw_294 : Cond.selects RX0 yX0_at yX0_at ∈ TB := TBm 294 (by decide +kernel) (by decide +kernel)
theorem tw_295 : Cond.code yX0_at cX0_at 5 (some .int) ∈ TB := TBm 295 (by decide +kernel) (by decide +kernel)
theorem tw_296 : Cond.methodLink RX1 47 yX1_numbersBehind ∈ TB := TBm 296 (by decide +kernel) (by decide +kernel)
theorem tw_297 : Cond.static yX1_numbersBehind ∈ TB := TBm 297 (by decide +kernel) (by decide +kernel)
theorem tw_298 : Cond.code yX1_numbersBehind cX1_numbersBehind 1 (some .int) ∈ TB := TBm 298 (by decide +kernel) (by decide +kernel)
theorem tw_299 : Cond.methodLink RX1 51 yX1_readNumbers ∈ TB := TBm 299 (by decide +kernel) (by decide +kernel)
theorem tw_301 : Cond.instanceMethod yX1_readNumbers ∈ TB := TBm 301 (by decide +kernel) (by decide +kernel)
theorem tw_302 : Cond.code yX1_readNumbers cX1_readNumbers 5 (some .boolean) ∈ TB := TBm 302 (by decide +kernel) (by decide +kernel)
theorem tw_303 : Cond.methodLink RX1 73 yX1_readFigure ∈ TB := TBm 303 (by decide +kernel) (by decide +kernel)
theorem tw_305 : Cond.instanceMethod yX1_readFigure ∈ TB := TBm 305 (by decide +kernel) (by decide +kernel)
theorem tw_306 : Cond.code yX1_readFigure cX1_readFigure 2 (some .int) ∈ TB := TBm 306 (by decide +kernel) (by decide +kernel)
theorem tw_307 : Cond.methodLink RX1 59 yX5_tellTowns ∈ TB := TBm 307 (by decide +kernel) (by decide +kernel)
theorem tw_308 : Cond.instanceMethod yX5_tellTowns ∈ TB := TBm 308 (by decide +kernel) (by decide +kernel)
theorem tw_309 : Cond.selects RX5 yX5_tellTowns yX5_tellTowns ∈ TB := TBm 309 (by decide +kernel) (by decide +kernel)
theorem tw_310 : Cond.code yX5_tellTowns cX5_tellTowns 2 (some .boolean) ∈ TB := TBm 310 (by decide +kernel) (by decide +kernel)
theorem tw_311 : Cond.methodLink RX1 62 yX5_tellRoad ∈ TB := TBm 311 (by decide +kernel) (by decide +kernel)
theorem tw_312 : Cond.instanceMethod yX5_tellRoad ∈ TB := TBm 312 (by decide +kernel) (by decide +kernel)
theorem tw_313 : Cond.selects RX5 yX5_tellRoad yX5_tellRoad ∈ TB := TBm 313 (by decide +kernel) (by decide +kernel)
theorem tw_314 : Cond.code yX5_tellRoad cX5_tellRoad 4 (some .boolean) ∈ TB := TBm 314 (by decide +kernel) (by decide +kernel)
theorem tw_315 : Cond.methodLink RX5 63 yX5_areTwoTowns ∈ TB := TBm 315 (by decide +kernel) (by decide +kernel)
theorem tw_316 : Cond.instanceMethod yX5_areTwoTowns ∈ TB := TBm 316 (by decide +kernel) (by decide +kernel)
theorem tw_317 : Cond.selects RX5 yX5_areTwoTowns yX5_areTwoTowns ∈ TB := TBm 317 (by decide +kernel) (by decide +kernel)
theorem tw_318 : Cond.code yX5_areTwoTowns cX5_areTwoTowns 3 (some .boolean) ∈ TB := TBm 318 (by decide +kernel) (by decide +kernel)
theorem tw_319 : Cond.methodLink RX5 71 yX5_isTown ∈ TB := TBm 319 (by decide +kernel) (by decide +kernel)
theorem tw_320 : Cond.instanceMethod yX5_isTown ∈ TB := TBm 320 (by decide +kernel) (by decide +kernel)
theorem tw_321 : Cond.selects RX5 yX5_isTown yX5_isTown ∈ TB := TBm 321 (by decide +kernel) (by decide +kernel)
theorem tw_322 : Cond.code yX5_isTown cX5_isTown 2 (some .boolean) ∈ TB := TBm 322 (by decide +kernel) (by decide +kernel)
theorem tw_323 : Cond.methodLink RX5 85 yX3_towns ∈ TB := TBm 323 (by decide +kernel) (by decide +kernel)
theorem tw_324 : Cond.instanceMethod yX3_towns ∈ TB := TBm 324 (by decide +kernel) (by decide +kernel)
theorem tw_325 : Cond.selects RX3 yX3_towns yX3_towns ∈ TB := TBm 325 (by decide +kernel) (by decide +kernel)
theorem tw_326 : Cond.code yX3_towns cX3_towns 1 (some .int) ∈ TB := TBm 326 (by decide +kernel) (by decide +kernel)
theorem tw_327 : Cond.methodLink RX5 67 yX3_set ∈ TB := TBm 327 (by decide +kernel) (by decide +kernel)
theorem tw_328 : Cond.instanceMethod yX3_set ∈ TB := TBm 328 (by decide +kernel) (by decide +kernel)
theorem tw_329 : Cond.selects RX3 yX3_set yX3_set ∈ TB := TBm 329 (by decide +kernel) (by decide +kernel)
theorem tw_330 : Cond.code yX3_set cX3_set 4 none ∈ TB := TBm 330 (by decide +kernel) (by decide +kernel)
theorem tw_331 : Cond.methodLink RX3 51 yX0_put ∈ TB := TBm 331 (by decide +kernel) (by decide +kernel)
theorem tw_332 : Cond.methodLink RX1 66 yX5_tellPost ∈ TB := TBm 332 (by decide +kernel) (by decide +kernel)
theorem tw_333 : Cond.instanceMethod yX5_tellPost ∈ TB := TBm 333 (by decide +kernel) (by decide +kernel)
theorem tw_334 : Cond.selects RX5 yX5_tellPost yX5_tellPost ∈ TB := TBm 334 (by decide +kernel) (by decide +kernel)
theorem tw_335 : Cond.code yX5_tellPost cX5_tellPost 5 (some .boolean) ∈ TB := TBm 335 (by decide +kernel) (by decide +kernel)
theorem tw_336 : Cond.methodLink RX5 75 yX0_put ∈ TB := TBm 336 (by decide +kernel) (by decide +kernel)
theorem tw_337 : Cond.methodLink RX1 69 yX5_tellWalker ∈ TB := TBm 337 (by decide +kernel) (by decide +kernel)
theorem tw_338 : Cond.instanceMethod yX5_tellWalker ∈ TB := TBm 338 (by decide +kernel) (by decide +kernel)
theorem tw_339 : Cond.selects RX5 yX5_tellWalker yX5_tellWalker ∈ TB := TBm 339 (by decide +kernel) (by decide +kernel)
theorem tw_340 : Cond.code yX5_tellWalker cX5_tellWalker 3 (some .boolean) ∈ TB := TBm 340 (by decide +kernel) (by decide +kernel)
theorem tw_341 : Cond.methodLink RX6 68 yX5_paintAll ∈ TB := TBm 341 (by decide +kernel) (by decide +kernel)
theorem tw_342 : Cond.instanceMethod yX5_paintAll ∈ TB := TBm 342 (by decide +kernel) (by decide +kernel)
theorem tw_343 : Cond.selects RX5 yX5_paintAll yX5_paintAll ∈ TB := TBm 343 (by decide +kernel) (by decide +kernel)
theorem tw_344 : Cond.code yX5_paintAll cX5_paintAll 2 none ∈ TB := TBm 344 (by decide +kernel) (by decide +kernel)
theorem tw_345 : Cond.methodLink RX5 78 yX3_survey ∈ TB := TBm 345 (by decide +kernel) (by decide +kernel)
theorem tw_346 : Cond.instanceMethod yX3_survey ∈ TB := TBm 346 (by decide +kernel) (by decide +kernel)
theorem tw_347 : Cond.selects RX3 yX3_survey yX3_survey ∈ TB := TBm 347 (by decide +kernel) (by decide +kernel)
theorem tw_348 : Cond.code yX3_survey cX3_survey 4 none ∈ TB := TBm 348 (by decide +kernel) (by decide +kernel)
theorem tw_349 : Cond.methodLink RX3 54 yX0_at ∈ TB := TBm 349 (by decide +kernel) (by decide +kernel)
theorem tw_350 : Cond.methodLink RX3 57 yX3_shorten ∈ TB := TBm 350 (by decide +kernel) (by decide +kernel)
theorem tw_352 : Cond.instanceMethod yX3_shorten ∈ TB := TBm 352 (by decide +kernel) (by decide +kernel)
theorem tw_353 : Cond.code yX3_shorten cX3_shorten 7 none ∈ TB := TBm 353 (by decide +kernel) (by decide +kernel)
theorem tw_354 : Cond.methodLink RX5 81 yX5_paintPost ∈ TB := TBm 354 (by decide +kernel) (by decide +kernel)
theorem tw_355 : Cond.instanceMethod yX5_paintPost ∈ TB := TBm 355 (by decide +kernel) (by decide +kernel)
theorem tw_356 : Cond.selects RX5 yX5_paintPost yX5_paintPost ∈ TB := TBm 356 (by decide +kernel) (by decide +kernel)
theorem tw_357 : Cond.code yX5_paintPost cX5_paintPost 6 (some .int) ∈ TB := TBm 357 (by decide +kernel) (by decide +kernel)
theorem tw_358 : Cond.methodLink RX5 89 yX0_at ∈ TB := TBm 358 (by decide +kernel) (by decide +kernel)
theorem tw_359 : Cond.methodLink RX5 126 yX3_firstStep ∈ TB := TBm 359 (by decide +kernel) (by decide +kernel)
theorem tw_360 : Cond.instanceMethod yX3_firstStep ∈ TB := TBm 360 (by decide +kernel) (by decide +kernel)
theorem tw_361 : Cond.selects RX3 yX3_firstStep yX3_firstStep ∈ TB := TBm 361 (by decide +kernel) (by decide +kernel)
theorem tw_362 : Cond.code yX3_firstStep cX3_firstStep 7 (some .int) ∈ TB := TBm 362 (by decide +kernel) (by decide +kernel)
theorem tw_363 : Cond.methodLink RX5 129 yX3_pathMiles ∈ TB := TBm 363 (by decide +kernel) (by decide +kernel)
theorem tw_364 : Cond.instanceMethod yX3_pathMiles ∈ TB := TBm 364 (by decide +kernel) (by decide +kernel)
theorem tw_365 : Cond.selects RX3 yX3_pathMiles yX3_pathMiles ∈ TB := TBm 365 (by decide +kernel) (by decide +kernel)
theorem tw_366 : Cond.code yX3_pathMiles cX3_pathMiles 3 (some .int) ∈ TB := TBm 366 (by decide +kernel) (by decide +kernel)
theorem tw_367 : Cond.methodLink RX6 71 yX1_empty ∈ TB := TBm 367 (by decide +kernel) (by decide +kernel)
theorem tw_368 : Cond.instanceMethod yX1_empty ∈ TB := TBm 368 (by decide +kernel) (by decide +kernel)
theorem tw_369 : Cond.selects RX1 yX1_empty yX1_empty ∈ TB := TBm 369 (by decide +kernel) (by decide +kernel)
theorem tw_370 : Cond.code yX1_empty cX1_empty 2 (some .int) ∈ TB := TBm 370 (by decide +kernel) (by decide +kernel)
theorem tw_371 : Cond.fieldLink RX6 10 "SignpostYard" "text" "LSignpostYard$Letters;" ∈ TB := TBm 371 (by decide +kernel) (by decide +kernel)
theorem tw_372 : Cond.fieldLink RX6 19 "SignpostYard" "now" "LSignpostYard$Yard;" ∈ TB := TBm 372 (by decide +kernel) (by decide +kernel)
theorem tw_373 : Cond.fieldLink RX6 23 "SignpostYard" "trial" "LSignpostYard$Yard;" ∈ TB := TBm 373 (by decide +kernel) (by decide +kernel)
theorem tw_374 : Cond.fieldLink RX6 31 "SignpostYard" "undone" "LSignpostYard$Shelf;" ∈ TB := TBm 374 (by decide +kernel) (by decide +kernel)
theorem tw_375 : Cond.fieldLink RX6 35 "SignpostYard" "kept" "LSignpostYard$Shelf;" ∈ TB := TBm 375 (by decide +kernel) (by decide +kernel)
theorem tw_376 : Cond.fieldLink RX6 41 "SignpostYard" "tellings" "LSignpostYard$Notes;" ∈ TB := TBm 376 (by decide +kernel) (by decide +kernel)
theorem tw_377 : Cond.fieldLink RX6 45 "SignpostYard" "sightings" "LSignpostYard$Notes;" ∈ TB := TBm 377 (by decide +kernel) (by decide +kernel)
theorem tw_410 : Cond.methodLink RX6 74 yX5_posts ∈ TB := TBm 410 (by decide +kernel) (by decide +kernel)
theorem tw_411 : Cond.instanceMethod yX5_posts ∈ TB := TBm 411 (by decide +kernel) (by decide +kernel)
theorem tw_412 : Cond.selects RX5 yX5_posts yX5_posts ∈ TB := TBm 412 (by decide +kernel) (by decide +kernel)
theorem tw_413 : Cond.code yX5_posts cX5_posts 1 (some .int) ∈ TB := TBm 413 (by decide +kernel) (by decide +kernel)
theorem tw_414 : Cond.methodLink RX6 77 yX5_walkers ∈ TB := TBm 414 (by decide +kernel) (by decide +kernel)
theorem tw_415 : Cond.instanceMethod yX5_walkers ∈ TB := TBm 415 (by decide +kernel) (by decide +kernel)
theorem tw_416 : Cond.selects RX5 yX5_walkers yX5_walkers ∈ TB := TBm 416 (by decide +kernel) (by decide +kernel)
theorem tw_417 : Cond.code yX5_walkers cX5_walkers 1 (some .int) ∈ TB := TBm 417 (by decide +kernel) (by decide +kernel)
theorem tw_418 : Cond.methodLink RX6 80 yX5_become ∈ TB := TBm 418 (by decide +kernel) (by decide +kernel)
theorem tw_419 : Cond.instanceMethod yX5_become ∈ TB := TBm 419 (by decide +kernel) (by decide +kernel)
theorem tw_420 : Cond.selects RX5 yX5_become yX5_become ∈ TB := TBm 420 (by decide +kernel) (by decide +kernel)
theorem tw_421 : Cond.code yX5_become cX5_become 2 none ∈ TB := TBm 421 (by decide +kernel) (by decide +kernel)
theorem tw_422 : Cond.methodLink RX5 36 yX3_become ∈ TB := TBm 422 (by decide +kernel) (by decide +kernel)
theorem tw_423 : Cond.instanceMethod yX3_become ∈ TB := TBm 423 (by decide +kernel) (by decide +kernel)
theorem tw_424 : Cond.selects RX3 yX3_become yX3_become ∈ TB := TBm 424 (by decide +kernel) (by decide +kernel)
theorem tw_425 : Cond.code yX3_become cX3_become 2 none ∈ TB := TBm 425 (by decide +kernel) (by decide +kernel)
theorem tw_426 : Cond.methodLink RX3 27 yX0_become ∈ TB := TBm 426 (by decide +kernel) (by decide +kernel)
theorem tw_427 : Cond.instanceMethod yX0_become ∈ TB := TBm 427 (by decide +kernel) (by decide +kernel)
theorem tw_428 : Cond.selects RX0 yX0_become yX0_become ∈ TB := TBm 428 (by decide +kernel) (by decide +kernel)
theorem tw_429 : Cond.code yX0_become cX0_become 2 none ∈ TB := TBm 429 (by decide +kernel) (by decide +kernel)
theorem tw_430 : Cond.methodLink RX0 28 arraycopyName ∈ TB := TBm 430 (by decide +kernel) (by decide +kernel)
theorem tw_431 : Cond.static arraycopyName ∈ TB := TBm 431 (by decide +kernel) (by decide +kernel)
theorem tw_432 : Cond.native arraycopyName ∈ TB := TBm 432 (by decide +kernel) (by decide +kernel)
theorem tw_433 : Cond.methodLink RX5 40 yX0_become ∈ TB := TBm 433 (by decide +kernel) (by decide +kernel)
theorem tw_434 : Cond.methodLink RX6 84 yX4_empty ∈ TB := TBm 434 (by decide +kernel) (by decide +kernel)
theorem tw_435 : Cond.instanceMethod yX4_empty ∈ TB := TBm 435 (by decide +kernel) (by decide +kernel)
theorem tw_436 : Cond.selects RX4 yX4_empty yX4_empty ∈ TB := TBm 436 (by decide +kernel) (by decide +kernel)
theorem tw_437 : Cond.code yX4_empty cX4_empty 1 none ∈ TB := TBm 437 (by decide +kernel) (by decide +kernel)
theorem tw_438 : Cond.methodLink RX6 86 yX2_empty ∈ TB := TBm 438 (by decide +kernel) (by decide +kernel)
theorem tw_439 : Cond.instanceMethod yX2_empty ∈ TB := TBm 439 (by decide +kernel) (by decide +kernel)
theorem tw_440 : Cond.selects RX2 yX2_empty yX2_empty ∈ TB := TBm 440 (by decide +kernel) (by decide +kernel)
theorem tw_441 : Cond.code yX2_empty cX2_empty 2 (some .int) ∈ TB := TBm 441 (by decide +kernel) (by decide +kernel)
theorem tw_446 : Cond.methodLink RX6 87 yX5_areTwoTowns ∈ TB := TBm 446 (by decide +kernel) (by decide +kernel)
theorem tw_447 : Cond.methodLink RX6 91 yX5_roads ∈ TB := TBm 447 (by decide +kernel) (by decide +kernel)
theorem tw_448 : Cond.instanceMethod yX5_roads ∈ TB := TBm 448 (by decide +kernel) (by decide +kernel)
theorem tw_449 : Cond.selects RX5 yX5_roads yX5_roads ∈ TB := TBm 449 (by decide +kernel) (by decide +kernel)
theorem tw_450 : Cond.code yX5_roads cX5_roads 1 (some (.object "SignpostYard$Roads")) ∈ TB := TBm 450 (by decide +kernel) (by decide +kernel)
theorem tw_451 : Cond.methodLink RX6 95 yX3_between ∈ TB := TBm 451 (by decide +kernel) (by decide +kernel)
theorem tw_452 : Cond.instanceMethod yX3_between ∈ TB := TBm 452 (by decide +kernel) (by decide +kernel)
theorem tw_453 : Cond.selects RX3 yX3_between yX3_between ∈ TB := TBm 453 (by decide +kernel) (by decide +kernel)
theorem tw_454 : Cond.code yX3_between cX3_between 3 (some .int) ∈ TB := TBm 454 (by decide +kernel) (by decide +kernel)
theorem tw_459 : Cond.methodLink RX6 101 yX5_isPost ∈ TB := TBm 459 (by decide +kernel) (by decide +kernel)
theorem tw_460 : Cond.instanceMethod yX5_isPost ∈ TB := TBm 460 (by decide +kernel) (by decide +kernel)
theorem tw_461 : Cond.selects RX5 yX5_isPost yX5_isPost ∈ TB := TBm 461 (by decide +kernel) (by decide +kernel)
theorem tw_462 : Cond.code yX5_isPost cX5_isPost 2 (some .boolean) ∈ TB := TBm 462 (by decide +kernel) (by decide +kernel)
theorem tw_463 : Cond.methodLink RX6 105 yX5_kindOf ∈ TB := TBm 463 (by decide +kernel) (by decide +kernel)
theorem tw_464 : Cond.instanceMethod yX5_kindOf ∈ TB := TBm 464 (by decide +kernel) (by decide +kernel)
theorem tw_465 : Cond.selects RX5 yX5_kindOf yX5_kindOf ∈ TB := TBm 465 (by decide +kernel) (by decide +kernel)
theorem tw_466 : Cond.code yX5_kindOf cX5_kindOf 2 (some .int) ∈ TB := TBm 466 (by decide +kernel) (by decide +kernel)
theorem tw_467 : Cond.methodLink RX6 108 yX5_townOf ∈ TB := TBm 467 (by decide +kernel) (by decide +kernel)
theorem tw_468 : Cond.instanceMethod yX5_townOf ∈ TB := TBm 468 (by decide +kernel) (by decide +kernel)
theorem tw_469 : Cond.selects RX5 yX5_townOf yX5_townOf ∈ TB := TBm 469 (by decide +kernel) (by decide +kernel)
theorem tw_470 : Cond.code yX5_townOf cX5_townOf 2 (some .int) ∈ TB := TBm 470 (by decide +kernel) (by decide +kernel)
theorem tw_471 : Cond.methodLink RX6 111 yX5_ageOf ∈ TB := TBm 471 (by decide +kernel) (by decide +kernel)
theorem tw_472 : Cond.instanceMethod yX5_ageOf ∈ TB := TBm 472 (by decide +kernel) (by decide +kernel)
theorem tw_473 : Cond.selects RX5 yX5_ageOf yX5_ageOf ∈ TB := TBm 473 (by decide +kernel) (by decide +kernel)
theorem tw_474 : Cond.code yX5_ageOf cX5_ageOf 2 (some .int) ∈ TB := TBm 474 (by decide +kernel) (by decide +kernel)
theorem tw_479 : Cond.methodLink RX6 114 yX5_isTown ∈ TB := TBm 479 (by decide +kernel) (by decide +kernel)
theorem tw_480 : Cond.methodLink RX6 117 yX5_armOf ∈ TB := TBm 480 (by decide +kernel) (by decide +kernel)
theorem tw_481 : Cond.instanceMethod yX5_armOf ∈ TB := TBm 481 (by decide +kernel) (by decide +kernel)
theorem tw_482 : Cond.selects RX5 yX5_armOf yX5_armOf ∈ TB := TBm 482 (by decide +kernel) (by decide +kernel)
theorem tw_483 : Cond.code yX5_armOf cX5_armOf 3 (some .int) ∈ TB := TBm 483 (by decide +kernel) (by decide +kernel)
theorem tw_484 : Cond.methodLink RX6 120 yX5_milesOf ∈ TB := TBm 484 (by decide +kernel) (by decide +kernel)
theorem tw_485 : Cond.instanceMethod yX5_milesOf ∈ TB := TBm 485 (by decide +kernel) (by decide +kernel)
theorem tw_486 : Cond.selects RX5 yX5_milesOf yX5_milesOf ∈ TB := TBm 486 (by decide +kernel) (by decide +kernel)
theorem tw_487 : Cond.code yX5_milesOf cX5_milesOf 3 (some .int) ∈ TB := TBm 487 (by decide +kernel) (by decide +kernel)
theorem tw_488 : Cond.methodLink RX6 123 yX5_pointing ∈ TB := TBm 488 (by decide +kernel) (by decide +kernel)
theorem tw_489 : Cond.instanceMethod yX5_pointing ∈ TB := TBm 489 (by decide +kernel) (by decide +kernel)
theorem tw_490 : Cond.selects RX5 yX5_pointing yX5_pointing ∈ TB := TBm 490 (by decide +kernel) (by decide +kernel)
theorem tw_491 : Cond.code yX5_pointing cX5_pointing 7 (some .int) ∈ TB := TBm 491 (by decide +kernel) (by decide +kernel)
theorem tw_492 : Cond.methodLink RX5 102 yX5_turnsOf ∈ TB := TBm 492 (by decide +kernel) (by decide +kernel)
theorem tw_494 : Cond.instanceMethod yX5_turnsOf ∈ TB := TBm 494 (by decide +kernel) (by decide +kernel)
theorem tw_495 : Cond.code yX5_turnsOf cX5_turnsOf 3 (some .int) ∈ TB := TBm 495 (by decide +kernel) (by decide +kernel)
theorem tw_497 : Cond.static yX6_hasBit ∈ TB := TBm 497 (by decide +kernel) (by decide +kernel)
theorem tw_498 : Cond.code yX6_hasBit cX6_hasBit 2 (some .boolean) ∈ TB := TBm 498 (by decide +kernel) (by decide +kernel)
theorem tw_499 : Cond.methodLink RX5 105 yX3_turned ∈ TB := TBm 499 (by decide +kernel) (by decide +kernel)
theorem tw_500 : Cond.instanceMethod yX3_turned ∈ TB := TBm 500 (by decide +kernel) (by decide +kernel)
theorem tw_501 : Cond.selects RX3 yX3_turned yX3_turned ∈ TB := TBm 501 (by decide +kernel) (by decide +kernel)
theorem tw_502 : Cond.code yX3_turned cX3_turned 5 (some .int) ∈ TB := TBm 502 (by decide +kernel) (by decide +kernel)
theorem tw_507 : Cond.methodLink RX6 126 yX5_isWalker ∈ TB := TBm 507 (by decide +kernel) (by decide +kernel)
theorem tw_508 : Cond.instanceMethod yX5_isWalker ∈ TB := TBm 508 (by decide +kernel) (by decide +kernel)
theorem tw_509 : Cond.selects RX5 yX5_isWalker yX5_isWalker ∈ TB := TBm 509 (by decide +kernel) (by decide +kernel)
theorem tw_510 : Cond.code yX5_isWalker cX5_isWalker 2 (some .boolean) ∈ TB := TBm 510 (by decide +kernel) (by decide +kernel)
theorem tw_511 : Cond.methodLink RX6 129 yX5_placeOf ∈ TB := TBm 511 (by decide +kernel) (by decide +kernel)
theorem tw_512 : Cond.instanceMethod yX5_placeOf ∈ TB := TBm 512 (by decide +kernel) (by decide +kernel)
theorem tw_513 : Cond.selects RX5 yX5_placeOf yX5_placeOf ∈ TB := TBm 513 (by decide +kernel) (by decide +kernel)
theorem tw_514 : Cond.code yX5_placeOf cX5_placeOf 2 (some .int) ∈ TB := TBm 514 (by decide +kernel) (by decide +kernel)
theorem tw_515 : Cond.methodLink RX6 132 yX5_goalOf ∈ TB := TBm 515 (by decide +kernel) (by decide +kernel)
theorem tw_516 : Cond.instanceMethod yX5_goalOf ∈ TB := TBm 516 (by decide +kernel) (by decide +kernel)
theorem tw_517 : Cond.selects RX5 yX5_goalOf yX5_goalOf ∈ TB := TBm 517 (by decide +kernel) (by decide +kernel)
theorem tw_518 : Cond.code yX5_goalOf cX5_goalOf 2 (some .int) ∈ TB := TBm 518 (by decide +kernel) (by decide +kernel)
theorem tw_519 : Cond.methodLink RX6 135 yX5_hasCome ∈ TB := TBm 519 (by decide +kernel) (by decide +kernel)
theorem tw_520 : Cond.instanceMethod yX5_hasCome ∈ TB := TBm 520 (by decide +kernel) (by decide +kernel)
theorem tw_521 : Cond.selects RX5 yX5_hasCome yX5_hasCome ∈ TB := TBm 521 (by decide +kernel) (by decide +kernel)
theorem tw_522 : Cond.code yX5_hasCome cX5_hasCome 2 (some .boolean) ∈ TB := TBm 522 (by decide +kernel) (by decide +kernel)
theorem tw_527 : Cond.methodLink RX6 138 yX5_hour ∈ TB := TBm 527 (by decide +kernel) (by decide +kernel)
theorem tw_528 : Cond.instanceMethod yX5_hour ∈ TB := TBm 528 (by decide +kernel) (by decide +kernel)
theorem tw_529 : Cond.selects RX5 yX5_hour yX5_hour ∈ TB := TBm 529 (by decide +kernel) (by decide +kernel)
theorem tw_530 : Cond.code yX5_hour cX5_hour 1 (some .int) ∈ TB := TBm 530 (by decide +kernel) (by decide +kernel)
theorem tw_531 : Cond.methodLink RX6 141 yX4_setAside ∈ TB := TBm 531 (by decide +kernel) (by decide +kernel)
theorem tw_532 : Cond.instanceMethod yX4_setAside ∈ TB := TBm 532 (by decide +kernel) (by decide +kernel)
theorem tw_533 : Cond.selects RX4 yX4_setAside yX4_setAside ∈ TB := TBm 533 (by decide +kernel) (by decide +kernel)
theorem tw_534 : Cond.code yX4_setAside cX4_setAside 3 none ∈ TB := TBm 534 (by decide +kernel) (by decide +kernel)
theorem tw_535 : Cond.methodLink RX4 34 yX5_become ∈ TB := TBm 535 (by decide +kernel) (by decide +kernel)
theorem tw_536 : Cond.methodLink RX6 144 yX5_passHours ∈ TB := TBm 536 (by decide +kernel) (by decide +kernel)
theorem tw_537 : Cond.instanceMethod yX5_passHours ∈ TB := TBm 537 (by decide +kernel) (by decide +kernel)
theorem tw_538 : Cond.selects RX5 yX5_passHours yX5_passHours ∈ TB := TBm 538 (by decide +kernel) (by decide +kernel)
theorem tw_539 : Cond.code yX5_passHours cX5_passHours 6 none ∈ TB := TBm 539 (by decide +kernel) (by decide +kernel)
theorem tw_540 : Cond.methodLink RX5 108 yX5_stepFrom ∈ TB := TBm 540 (by decide +kernel) (by decide +kernel)
theorem tw_542 : Cond.instanceMethod yX5_stepFrom ∈ TB := TBm 542 (by decide +kernel) (by decide +kernel)
theorem tw_543 : Cond.code yX5_stepFrom cX5_stepFrom 5 (some .int) ∈ TB := TBm 543 (by decide +kernel) (by decide +kernel)
theorem tw_544 : Cond.methodLink RX5 111 yX5_lowestPostIn ∈ TB := TBm 544 (by decide +kernel) (by decide +kernel)
theorem tw_545 : Cond.instanceMethod yX5_lowestPostIn ∈ TB := TBm 545 (by decide +kernel) (by decide +kernel)
theorem tw_546 : Cond.selects RX5 yX5_lowestPostIn yX5_lowestPostIn ∈ TB := TBm 546 (by decide +kernel) (by decide +kernel)
theorem tw_547 : Cond.code yX5_lowestPostIn cX5_lowestPostIn 3 (some .int) ∈ TB := TBm 547 (by decide +kernel) (by decide +kernel)
theorem tw_548 : Cond.methodLink RX5 114 yX3_nearest ∈ TB := TBm 548 (by decide +kernel) (by decide +kernel)
theorem tw_549 : Cond.instanceMethod yX3_nearest ∈ TB := TBm 549 (by decide +kernel) (by decide +kernel)
theorem tw_550 : Cond.selects RX3 yX3_nearest yX3_nearest ∈ TB := TBm 550 (by decide +kernel) (by decide +kernel)
theorem tw_551 : Cond.code yX3_nearest cX3_nearest 6 (some .int) ∈ TB := TBm 551 (by decide +kernel) (by decide +kernel)
theorem tw_552 : Cond.methodLink RX5 117 yX5_pointing ∈ TB := TBm 552 (by decide +kernel) (by decide +kernel)
theorem tw_553 : Cond.methodLink RX5 120 yX3_between ∈ TB := TBm 553 (by decide +kernel) (by decide +kernel)
theorem tw_558 : Cond.methodLink RX6 147 yX5_passYear ∈ TB := TBm 558 (by decide +kernel) (by decide +kernel)
theorem tw_559 : Cond.instanceMethod yX5_passYear ∈ TB := TBm 559 (by decide +kernel) (by decide +kernel)
theorem tw_560 : Cond.selects RX5 yX5_passYear yX5_passYear ∈ TB := TBm 560 (by decide +kernel) (by decide +kernel)
theorem tw_561 : Cond.code yX5_passYear cX5_passYear 4 (some .int) ∈ TB := TBm 561 (by decide +kernel) (by decide +kernel)
theorem tw_562 : Cond.methodLink RX5 96 yX5_isRetired ∈ TB := TBm 562 (by decide +kernel) (by decide +kernel)
theorem tw_563 : Cond.instanceMethod yX5_isRetired ∈ TB := TBm 563 (by decide +kernel) (by decide +kernel)
theorem tw_564 : Cond.selects RX5 yX5_isRetired yX5_isRetired ∈ TB := TBm 564 (by decide +kernel) (by decide +kernel)
theorem tw_565 : Cond.code yX5_isRetired cX5_isRetired 2 (some .boolean) ∈ TB := TBm 565 (by decide +kernel) (by decide +kernel)
theorem tw_566 : Cond.methodLink RX5 123 yX5_retirePost ∈ TB := TBm 566 (by decide +kernel) (by decide +kernel)
theorem tw_567 : Cond.instanceMethod yX5_retirePost ∈ TB := TBm 567 (by decide +kernel) (by decide +kernel)
theorem tw_568 : Cond.selects RX5 yX5_retirePost yX5_retirePost ∈ TB := TBm 568 (by decide +kernel) (by decide +kernel)
theorem tw_569 : Cond.code yX5_retirePost cX5_retirePost 3 none ∈ TB := TBm 569 (by decide +kernel) (by decide +kernel)
theorem tw_574 : Cond.methodLink RX6 150 yX3_change ∈ TB := TBm 574 (by decide +kernel) (by decide +kernel)
theorem tw_575 : Cond.instanceMethod yX3_change ∈ TB := TBm 575 (by decide +kernel) (by decide +kernel)
theorem tw_576 : Cond.selects RX3 yX3_change yX3_change ∈ TB := TBm 576 (by decide +kernel) (by decide +kernel)
theorem tw_577 : Cond.code yX3_change cX3_change 4 none ∈ TB := TBm 577 (by decide +kernel) (by decide +kernel)
theorem tw_578 : Cond.methodLink RX3 44 yX3_set ∈ TB := TBm 578 (by decide +kernel) (by decide +kernel)
theorem tw_579 : Cond.methodLink RX3 48 yX3_survey ∈ TB := TBm 579 (by decide +kernel) (by decide +kernel)
theorem tw_584 : Cond.methodLink RX6 154 yX5_isRetired ∈ TB := TBm 584 (by decide +kernel) (by decide +kernel)
theorem tw_585 : Cond.methodLink RX6 157 yX5_paintPost ∈ TB := TBm 585 (by decide +kernel) (by decide +kernel)
theorem tw_590 : Cond.methodLink RX6 160 yX5_movePost ∈ TB := TBm 590 (by decide +kernel) (by decide +kernel)
theorem tw_591 : Cond.instanceMethod yX5_movePost ∈ TB := TBm 591 (by decide +kernel) (by decide +kernel)
theorem tw_592 : Cond.selects RX5 yX5_movePost yX5_movePost ∈ TB := TBm 592 (by decide +kernel) (by decide +kernel)
theorem tw_593 : Cond.code yX5_movePost cX5_movePost 3 none ∈ TB := TBm 593 (by decide +kernel) (by decide +kernel)
theorem tw_598 : Cond.methodLink RX6 164 yX5_retirePost ∈ TB := TBm 598 (by decide +kernel) (by decide +kernel)
theorem tw_603 : Cond.methodLink RX6 167 yX4_giveBack ∈ TB := TBm 603 (by decide +kernel) (by decide +kernel)
theorem tw_604 : Cond.instanceMethod yX4_giveBack ∈ TB := TBm 604 (by decide +kernel) (by decide +kernel)
theorem tw_605 : Cond.selects RX4 yX4_giveBack yX4_giveBack ∈ TB := TBm 605 (by decide +kernel) (by decide +kernel)
theorem tw_606 : Cond.code yX4_giveBack cX4_giveBack 4 (some .boolean) ∈ TB := TBm 606 (by decide +kernel) (by decide +kernel)
theorem tw_607 : Cond.methodLink RX6 171 yX4_held ∈ TB := TBm 607 (by decide +kernel) (by decide +kernel)
theorem tw_608 : Cond.instanceMethod yX4_held ∈ TB := TBm 608 (by decide +kernel) (by decide +kernel)
theorem tw_609 : Cond.selects RX4 yX4_held yX4_held ∈ TB := TBm 609 (by decide +kernel) (by decide +kernel)
theorem tw_610 : Cond.code yX4_held cX4_held 1 (some .int) ∈ TB := TBm 610 (by decide +kernel) (by decide +kernel)
theorem tw_627 : Cond.methodLink RX6 174 yX5_towns ∈ TB := TBm 627 (by decide +kernel) (by decide +kernel)
theorem tw_628 : Cond.instanceMethod yX5_towns ∈ TB := TBm 628 (by decide +kernel) (by decide +kernel)
theorem tw_629 : Cond.selects RX5 yX5_towns yX5_towns ∈ TB := TBm 629 (by decide +kernel) (by decide +kernel)
theorem tw_630 : Cond.code yX5_towns cX5_towns 1 (some .int) ∈ TB := TBm 630 (by decide +kernel) (by decide +kernel)
theorem tw_631 : Cond.methodLink RX6 177 yX5_lowestPostIn ∈ TB := TBm 631 (by decide +kernel) (by decide +kernel)
theorem tw_632 : Cond.methodLink RX6 180 yX6_comersHelpedIn ∈ TB := TBm 632 (by decide +kernel) (by decide +kernel)
theorem tw_634 : Cond.instanceMethod yX6_comersHelpedIn ∈ TB := TBm 634 (by decide +kernel) (by decide +kernel)
theorem tw_635 : Cond.code yX6_comersHelpedIn cX6_comersHelpedIn 2 (some .int) ∈ TB := TBm 635 (by decide +kernel) (by decide +kernel)
theorem tw_636 : Cond.methodLink RX6 183 yX5_standPlain ∈ TB := TBm 636 (by decide +kernel) (by decide +kernel)
theorem tw_637 : Cond.instanceMethod yX5_standPlain ∈ TB := TBm 637 (by decide +kernel) (by decide +kernel)
theorem tw_638 : Cond.selects RX5 yX5_standPlain yX5_standPlain ∈ TB := TBm 638 (by decide +kernel) (by decide +kernel)
theorem tw_639 : Cond.code yX5_standPlain cX5_standPlain 2 none ∈ TB := TBm 639 (by decide +kernel) (by decide +kernel)
theorem tw_640 : Cond.methodLink RX6 186 yX5_comeCount ∈ TB := TBm 640 (by decide +kernel) (by decide +kernel)
theorem tw_641 : Cond.instanceMethod yX5_comeCount ∈ TB := TBm 641 (by decide +kernel) (by decide +kernel)
theorem tw_642 : Cond.selects RX5 yX5_comeCount yX5_comeCount ∈ TB := TBm 642 (by decide +kernel) (by decide +kernel)
theorem tw_643 : Cond.code yX5_comeCount cX5_comeCount 3 (some .int) ∈ TB := TBm 643 (by decide +kernel) (by decide +kernel)
theorem tw_644 : Cond.methodLink RX5 99 yX5_hasCome ∈ TB := TBm 644 (by decide +kernel) (by decide +kernel)
theorem tw_649 : Cond.methodLink RX6 189 yX6_comersPainted ∈ TB := TBm 649 (by decide +kernel) (by decide +kernel)
theorem tw_651 : Cond.instanceMethod yX6_comersPainted ∈ TB := TBm 651 (by decide +kernel) (by decide +kernel)
theorem tw_652 : Cond.code yX6_comersPainted cX6_comersPainted 3 (some .int) ∈ TB := TBm 652 (by decide +kernel) (by decide +kernel)
theorem tw_653 : Cond.methodLink RX6 200 yX6_hasBit ∈ TB := TBm 653 (by decide +kernel) (by decide +kernel)
theorem tw_654 : Cond.methodLink RX6 192 yX5_noneRetired ∈ TB := TBm 654 (by decide +kernel) (by decide +kernel)
theorem tw_655 : Cond.instanceMethod yX5_noneRetired ∈ TB := TBm 655 (by decide +kernel) (by decide +kernel)
theorem tw_656 : Cond.selects RX5 yX5_noneRetired yX5_noneRetired ∈ TB := TBm 656 (by decide +kernel) (by decide +kernel)
theorem tw_657 : Cond.code yX5_noneRetired cX5_noneRetired 3 (some .boolean) ∈ TB := TBm 657 (by decide +kernel) (by decide +kernel)
theorem tw_658 : Cond.methodLink RX6 195 yJ6_bitCount_0f7a4 ∈ TB := TBm 658 (by decide +kernel) (by decide +kernel)
theorem tw_659 : Cond.static yJ6_bitCount_0f7a4 ∈ TB := TBm 659 (by decide +kernel) (by decide +kernel)
theorem tw_660 : Cond.code yJ6_bitCount_0f7a4 cJ6_bitCount_0f7a4 1 (some .int) ∈ TB := TBm 660 (by decide +kernel) (by decide +kernel)
theorem tw_661 : Cond.constant "java/lang/Integer" 265 (1431655765) ∈ TB := TBm 661 (by decide +kernel) (by decide +kernel)
theorem tw_662 : Cond.constant "java/lang/Integer" 266 (858993459) ∈ TB := TBm 662 (by decide +kernel) (by decide +kernel)
theorem tw_663 : Cond.constant "java/lang/Integer" 267 (252645135) ∈ TB := TBm 663 (by decide +kernel) (by decide +kernel)
theorem tw_668 : Cond.methodLink RX6 203 yX6_isCover ∈ TB := TBm 668 (by decide +kernel) (by decide +kernel)
theorem tw_670 : Cond.instanceMethod yX6_isCover ∈ TB := TBm 670 (by decide +kernel) (by decide +kernel)
theorem tw_671 : Cond.code yX6_isCover cX6_isCover 3 (some .boolean) ∈ TB := TBm 671 (by decide +kernel) (by decide +kernel)
theorem tw_672 : Cond.methodLink RX6 206 yX5_dropPosts ∈ TB := TBm 672 (by decide +kernel) (by decide +kernel)
theorem tw_673 : Cond.instanceMethod yX5_dropPosts ∈ TB := TBm 673 (by decide +kernel) (by decide +kernel)
theorem tw_674 : Cond.selects RX5 yX5_dropPosts yX5_dropPosts ∈ TB := TBm 674 (by decide +kernel) (by decide +kernel)
theorem tw_675 : Cond.code yX5_dropPosts cX5_dropPosts 1 none ∈ TB := TBm 675 (by decide +kernel) (by decide +kernel)
theorem tw_680 : Cond.methodLink RX6 209 yX3_pathMiles ∈ TB := TBm 680 (by decide +kernel) (by decide +kernel)
theorem tw_685 : Cond.methodLink RX6 212 yX2_add ∈ TB := TBm 685 (by decide +kernel) (by decide +kernel)
theorem tw_686 : Cond.instanceMethod yX2_add ∈ TB := TBm 686 (by decide +kernel) (by decide +kernel)
theorem tw_687 : Cond.selects RX2 yX2_add yX2_add ∈ TB := TBm 687 (by decide +kernel) (by decide +kernel)
theorem tw_688 : Cond.code yX2_add cX2_add 4 (some .int) ∈ TB := TBm 688 (by decide +kernel) (by decide +kernel)
theorem tw_689 : Cond.methodLink RX2 28 yX0_put ∈ TB := TBm 689 (by decide +kernel) (by decide +kernel)
theorem tw_691 : Cond.instanceMethod yX6_stood ∈ TB := TBm 691 (by decide +kernel) (by decide +kernel)
theorem tw_692 : Cond.selects RX6 yX6_stood yX6_stood ∈ TB := TBm 692 (by decide +kernel) (by decide +kernel)
theorem tw_693 : Cond.code yX6_stood cX6_stood 3 (some .int) ∈ TB := TBm 693 (by decide +kernel) (by decide +kernel)
theorem tw_694 : Cond.methodLink RX6 216 yX6_tellsAll ∈ TB := TBm 694 (by decide +kernel) (by decide +kernel)
theorem tw_696 : Cond.instanceMethod yX6_tellsAll ∈ TB := TBm 696 (by decide +kernel) (by decide +kernel)
theorem tw_697 : Cond.code yX6_tellsAll cX6_tellsAll 6 (some .boolean) ∈ TB := TBm 697 (by decide +kernel) (by decide +kernel)
theorem tw_698 : Cond.methodLink RX6 219 yX2_held ∈ TB := TBm 698 (by decide +kernel) (by decide +kernel)
theorem tw_699 : Cond.instanceMethod yX2_held ∈ TB := TBm 699 (by decide +kernel) (by decide +kernel)
theorem tw_700 : Cond.selects RX2 yX2_held yX2_held ∈ TB := TBm 700 (by decide +kernel) (by decide +kernel)
theorem tw_701 : Cond.code yX2_held cX2_held 1 (some .int) ∈ TB := TBm 701 (by decide +kernel) (by decide +kernel)
theorem tw_702 : Cond.methodLink RX6 220 yX2_number ∈ TB := TBm 702 (by decide +kernel) (by decide +kernel)
theorem tw_703 : Cond.instanceMethod yX2_number ∈ TB := TBm 703 (by decide +kernel) (by decide +kernel)
theorem tw_704 : Cond.selects RX2 yX2_number yX2_number ∈ TB := TBm 704 (by decide +kernel) (by decide +kernel)
theorem tw_705 : Cond.code yX2_number cX2_number 3 (some .int) ∈ TB := TBm 705 (by decide +kernel) (by decide +kernel)
theorem tw_706 : Cond.methodLink RX2 24 yX0_at ∈ TB := TBm 706 (by decide +kernel) (by decide +kernel)
theorem tw_707 : Cond.methodLink RX6 223 yX3_firstStep ∈ TB := TBm 707 (by decide +kernel) (by decide +kernel)
theorem tw_712 : Cond.methodLink RX6 226 yX6_stood ∈ TB := TBm 712 (by decide +kernel) (by decide +kernel)
theorem tw_713 : Cond.methodLink RX6 229 yX6_mostAlike ∈ TB := TBm 713 (by decide +kernel) (by decide +kernel)
theorem tw_715 : Cond.instanceMethod yX6_mostAlike ∈ TB := TBm 715 (by decide +kernel) (by decide +kernel)
theorem tw_716 : Cond.code yX6_mostAlike cX6_mostAlike 5 (some .int) ∈ TB := TBm 716 (by decide +kernel) (by decide +kernel)
theorem tw_717 : Cond.methodLink RX6 232 yX6_alikeWith ∈ TB := TBm 717 (by decide +kernel) (by decide +kernel)
theorem tw_719 : Cond.instanceMethod yX6_alikeWith ∈ TB := TBm 719 (by decide +kernel) (by decide +kernel)
theorem tw_720 : Cond.code yX6_alikeWith cX6_alikeWith 6 (some .int) ∈ TB := TBm 720 (by decide +kernel) (by decide +kernel)
theorem tw_721 : Cond.methodLink RX6 240 yX6_tellAlike ∈ TB := TBm 721 (by decide +kernel) (by decide +kernel)
theorem tw_723 : Cond.instanceMethod yX6_tellAlike ∈ TB := TBm 723 (by decide +kernel) (by decide +kernel)
theorem tw_724 : Cond.code yX6_tellAlike cX6_tellAlike 6 (some .boolean) ∈ TB := TBm 724 (by decide +kernel) (by decide +kernel)
theorem tw_725 : Cond.methodLink RX6 235 yJ9_max_7cf53 ∈ TB := TBm 725 (by decide +kernel) (by decide +kernel)
theorem tw_734 : Cond.methodLink RX6 244 yX5_turnInto ∈ TB := TBm 734 (by decide +kernel) (by decide +kernel)
theorem tw_735 : Cond.instanceMethod yX5_turnInto ∈ TB := TBm 735 (by decide +kernel) (by decide +kernel)
theorem tw_736 : Cond.selects RX5 yX5_turnInto yX5_turnInto ∈ TB := TBm 736 (by decide +kernel) (by decide +kernel)
theorem tw_737 : Cond.code yX5_turnInto cX5_turnInto 3 none ∈ TB := TBm 737 (by decide +kernel) (by decide +kernel)
theorem tw_738 : Cond.methodLink RX6 247 yX6_fitsSightings ∈ TB := TBm 738 (by decide +kernel) (by decide +kernel)
theorem tw_740 : Cond.instanceMethod yX6_fitsSightings ∈ TB := TBm 740 (by decide +kernel) (by decide +kernel)
theorem tw_741 : Cond.code yX6_fitsSightings cX6_fitsSightings 4 (some .boolean) ∈ TB := TBm 741 (by decide +kernel) (by decide +kernel)
theorem tw_750 : Cond.methodLink RX6 250 yX6_weightOf ∈ TB := TBm 750 (by decide +kernel) (by decide +kernel)
theorem tw_752 : Cond.instanceMethod yX6_weightOf ∈ TB := TBm 752 (by decide +kernel) (by decide +kernel)
theorem tw_753 : Cond.code yX6_weightOf cX6_weightOf 5 (some .int) ∈ TB := TBm 753 (by decide +kernel) (by decide +kernel)
theorem tw_754 : Cond.methodLink RX6 253 yX6_comesTwisted ∈ TB := TBm 754 (by decide +kernel) (by decide +kernel)
theorem tw_756 : Cond.instanceMethod yX6_comesTwisted ∈ TB := TBm 756 (by decide +kernel) (by decide +kernel)
theorem tw_757 : Cond.code yX6_comesTwisted cX6_comesTwisted 3 (some .boolean) ∈ TB := TBm 757 (by decide +kernel) (by decide +kernel)
theorem tw_758 : Cond.methodLink RX6 259 yX5_twist ∈ TB := TBm 758 (by decide +kernel) (by decide +kernel)
theorem tw_759 : Cond.instanceMethod yX5_twist ∈ TB := TBm 759 (by decide +kernel) (by decide +kernel)
theorem tw_760 : Cond.selects RX5 yX5_twist yX5_twist ∈ TB := TBm 760 (by decide +kernel) (by decide +kernel)
theorem tw_761 : Cond.code yX5_twist cX5_twist 2 none ∈ TB := TBm 761 (by decide +kernel) (by decide +kernel)
theorem tw_762 : Cond.methodLink RX6 256 yX6_commonPart ∈ TB := TBm 762 (by decide +kernel) (by decide +kernel)
theorem tw_763 : Cond.static yX6_commonPart ∈ TB := TBm 763 (by decide +kernel) (by decide +kernel)
theorem tw_764 : Cond.code yX6_commonPart cX6_commonPart 6 (some .int) ∈ TB := TBm 764 (by decide +kernel) (by decide +kernel)
theorem tw_769 : Cond.methodLink RX6 262 yX6_drawn ∈ TB := TBm 769 (by decide +kernel) (by decide +kernel)
theorem tw_770 : Cond.static yX6_drawn ∈ TB := TBm 770 (by decide +kernel) (by decide +kernel)
theorem tw_771 : Cond.code yX6_drawn cX6_drawn 4 (some .int) ∈ TB := TBm 771 (by decide +kernel) (by decide +kernel)
theorem tw_772 : Cond.constantLong RX6 274 (7919) ∈ TB := TBm 772 (by decide +kernel) (by decide +kernel)
theorem tw_773 : Cond.constantLong RX6 276 (6151) ∈ TB := TBm 773 (by decide +kernel) (by decide +kernel)
theorem tw_774 : Cond.constantLong RX6 278 (65521) ∈ TB := TBm 774 (by decide +kernel) (by decide +kernel)
theorem tw_775 : Cond.constantLong RX6 280 (2) ∈ TB := TBm 775 (by decide +kernel) (by decide +kernel)
theorem tw_776 : Cond.methodLink RX6 265 yX6_actByDraw ∈ TB := TBm 776 (by decide +kernel) (by decide +kernel)
theorem tw_778 : Cond.instanceMethod yX6_actByDraw ∈ TB := TBm 778 (by decide +kernel) (by decide +kernel)
theorem tw_779 : Cond.code yX6_actByDraw cX6_actByDraw 6 none ∈ TB := TBm 779 (by decide +kernel) (by decide +kernel)
theorem tw_780 : Cond.methodLink RX6 282 yX6_layOrClose ∈ TB := TBm 780 (by decide +kernel) (by decide +kernel)
theorem tw_782 : Cond.instanceMethod yX6_layOrClose ∈ TB := TBm 782 (by decide +kernel) (by decide +kernel)
theorem tw_783 : Cond.code yX6_layOrClose cX6_layOrClose 5 none ∈ TB := TBm 783 (by decide +kernel) (by decide +kernel)
theorem tw_784 : Cond.methodLink RX6 285 yX3_townBehind ∈ TB := TBm 784 (by decide +kernel) (by decide +kernel)
theorem tw_785 : Cond.instanceMethod yX3_townBehind ∈ TB := TBm 785 (by decide +kernel) (by decide +kernel)
theorem tw_786 : Cond.selects RX3 yX3_townBehind yX3_townBehind ∈ TB := TBm 786 (by decide +kernel) (by decide +kernel)
theorem tw_787 : Cond.code yX3_townBehind cX3_townBehind 2 (some .int) ∈ TB := TBm 787 (by decide +kernel) (by decide +kernel)
theorem tw_788 : Cond.methodLink RX6 268 yX5_retiredCount ∈ TB := TBm 788 (by decide +kernel) (by decide +kernel)
theorem tw_789 : Cond.instanceMethod yX5_retiredCount ∈ TB := TBm 789 (by decide +kernel) (by decide +kernel)
theorem tw_790 : Cond.selects RX5 yX5_retiredCount yX5_retiredCount ∈ TB := TBm 790 (by decide +kernel) (by decide +kernel)
theorem tw_791 : Cond.code yX5_retiredCount cX5_retiredCount 3 (some .int) ∈ TB := TBm 791 (by decide +kernel) (by decide +kernel)
theorem tw_792 : Cond.methodLink RX6 271 yX3_milesOfAll ∈ TB := TBm 792 (by decide +kernel) (by decide +kernel)
theorem tw_793 : Cond.instanceMethod yX3_milesOfAll ∈ TB := TBm 793 (by decide +kernel) (by decide +kernel)
theorem tw_794 : Cond.selects RX3 yX3_milesOfAll yX3_milesOfAll ∈ TB := TBm 794 (by decide +kernel) (by decide +kernel)
theorem tw_795 : Cond.code yX3_milesOfAll cX3_milesOfAll 4 (some .int) ∈ TB := TBm 795 (by decide +kernel) (by decide +kernel)
theorem tw_808 : Cond.methodLink RX6 288 yX5_years ∈ TB := TBm 808 (by decide +kernel) (by decide +kernel)
theorem tw_809 : Cond.instanceMethod yX5_years ∈ TB := TBm 809 (by decide +kernel) (by decide +kernel)
theorem tw_810 : Cond.selects RX5 yX5_years yX5_years ∈ TB := TBm 810 (by decide +kernel) (by decide +kernel)
theorem tw_811 : Cond.code yX5_years cX5_years 1 (some .int) ∈ TB := TBm 811 (by decide +kernel) (by decide +kernel)
theorem tw_812 : Cond.methodLink RX6 291 yX3_howMany ∈ TB := TBm 812 (by decide +kernel) (by decide +kernel)
theorem tw_813 : Cond.instanceMethod yX3_howMany ∈ TB := TBm 813 (by decide +kernel) (by decide +kernel)
theorem tw_814 : Cond.selects RX3 yX3_howMany yX3_howMany ∈ TB := TBm 814 (by decide +kernel) (by decide +kernel)
theorem tw_815 : Cond.code yX3_howMany cX3_howMany 4 (some .int) ∈ TB := TBm 815 (by decide +kernel) (by decide +kernel)
theorem tw_816 : Cond.methodLink RX6 294 yX1_length ∈ TB := TBm 816 (by decide +kernel) (by decide +kernel)
theorem tw_817 : Cond.instanceMethod yX1_length ∈ TB := TBm 817 (by decide +kernel) (by decide +kernel)
theorem tw_818 : Cond.selects RX1 yX1_length yX1_length ∈ TB := TBm 818 (by decide +kernel) (by decide +kernel)
theorem tw_819 : Cond.code yX1_length cX1_length 1 (some .int) ∈ TB := TBm 819 (by decide +kernel) (by decide +kernel)
theorem tw_830 : Cond.methodLink RX7 126 yX7_begin ∈ TB := TBm 830 (by decide +kernel) (by decide +kernel)
theorem tw_832 : Cond.instanceMethod yX7_begin ∈ TB := TBm 832 (by decide +kernel) (by decide +kernel)
theorem tw_833 : Cond.code yX7_begin cX7_begin 2 none ∈ TB := TBm 833 (by decide +kernel) (by decide +kernel)
theorem tw_834 : Cond.methodLink RX7 135 yX7_tellRoad ∈ TB := TBm 834 (by decide +kernel) (by decide +kernel)
theorem tw_836 : Cond.instanceMethod yX7_tellRoad ∈ TB := TBm 836 (by decide +kernel) (by decide +kernel)
theorem tw_837 : Cond.code yX7_tellRoad cX7_tellRoad 4 none ∈ TB := TBm 837 (by decide +kernel) (by decide +kernel)
theorem tw_838 : Cond.methodLink RX7 139 yX7_tellPost ∈ TB := TBm 838 (by decide +kernel) (by decide +kernel)
theorem tw_840 : Cond.instanceMethod yX7_tellPost ∈ TB := TBm 840 (by decide +kernel) (by decide +kernel)
theorem tw_841 : Cond.code yX7_tellPost cX7_tellPost 4 none ∈ TB := TBm 841 (by decide +kernel) (by decide +kernel)
theorem tw_842 : Cond.methodLink RX7 142 yX7_tellWalker ∈ TB := TBm 842 (by decide +kernel) (by decide +kernel)
theorem tw_844 : Cond.instanceMethod yX7_tellWalker ∈ TB := TBm 844 (by decide +kernel) (by decide +kernel)
theorem tw_845 : Cond.code yX7_tellWalker cX7_tellWalker 3 none ∈ TB := TBm 845 (by decide +kernel) (by decide +kernel)
theorem tw_846 : Cond.methodLink RX7 80 yX7_takeDraft ∈ TB := TBm 846 (by decide +kernel) (by decide +kernel)
theorem tw_848 : Cond.instanceMethod yX7_takeDraft ∈ TB := TBm 848 (by decide +kernel) (by decide +kernel)
theorem tw_849 : Cond.code yX7_takeDraft cX7_takeDraft 2 none ∈ TB := TBm 849 (by decide +kernel) (by decide +kernel)
theorem tw_850 : Cond.methodLink RX7 146 yX7_measure ∈ TB := TBm 850 (by decide +kernel) (by decide +kernel)
theorem tw_852 : Cond.instanceMethod yX7_measure ∈ TB := TBm 852 (by decide +kernel) (by decide +kernel)
theorem tw_853 : Cond.code yX7_measure cX7_measure 6 none ∈ TB := TBm 853 (by decide +kernel) (by decide +kernel)
theorem tw_854 : Cond.constant RX7 166 (100000) ∈ TB := TBm 854 (by decide +kernel) (by decide +kernel)
theorem tw_855 : Cond.methodLink RX7 150 yX7_paintOn ∈ TB := TBm 855 (by decide +kernel) (by decide +kernel)
theorem tw_857 : Cond.instanceMethod yX7_paintOn ∈ TB := TBm 857 (by decide +kernel) (by decide +kernel)
theorem tw_858 : Cond.code yX7_paintOn cX7_paintOn 6 none ∈ TB := TBm 858 (by decide +kernel) (by decide +kernel)
theorem tw_859 : Cond.methodLink RX7 167 yX7_nextOn ∈ TB := TBm 859 (by decide +kernel) (by decide +kernel)
theorem tw_861 : Cond.instanceMethod yX7_nextOn ∈ TB := TBm 861 (by decide +kernel) (by decide +kernel)
theorem tw_862 : Cond.code yX7_nextOn cX7_nextOn 7 (some .int) ∈ TB := TBm 862 (by decide +kernel) (by decide +kernel)
theorem tw_863 : Cond.fieldLink RX7 7 "SignpostYardModel" "text" "[B" ∈ TB := TBm 863 (by decide +kernel) (by decide +kernel)
theorem tw_864 : Cond.fieldLink RX7 87 "SignpostYardModel" "typed" "I" ∈ TB := TBm 864 (by decide +kernel) (by decide +kernel)
theorem tw_865 : Cond.fieldLink RX7 13 "SignpostYardModel" "towns" "[I" ∈ TB := TBm 865 (by decide +kernel) (by decide +kernel)
theorem tw_866 : Cond.fieldLink RX7 17 "SignpostYardModel" "posts" "[I" ∈ TB := TBm 866 (by decide +kernel) (by decide +kernel)
theorem tw_867 : Cond.fieldLink RX7 20 "SignpostYardModel" "walkers" "[I" ∈ TB := TBm 867 (by decide +kernel) (by decide +kernel)
theorem tw_868 : Cond.fieldLink RX7 23 "SignpostYardModel" "kind" "[I" ∈ TB := TBm 868 (by decide +kernel) (by decide +kernel)
theorem tw_869 : Cond.fieldLink RX7 26 "SignpostYardModel" "goal" "[I" ∈ TB := TBm 869 (by decide +kernel) (by decide +kernel)
theorem tw_870 : Cond.fieldLink RX7 29 "SignpostYardModel" "draftMiles" "[I" ∈ TB := TBm 870 (by decide +kernel) (by decide +kernel)
theorem tw_871 : Cond.fieldLink RX7 32 "SignpostYardModel" "draftTown" "[I" ∈ TB := TBm 871 (by decide +kernel) (by decide +kernel)
theorem tw_872 : Cond.fieldLink RX7 35 "SignpostYardModel" "draftAge" "[I" ∈ TB := TBm 872 (by decide +kernel) (by decide +kernel)
theorem tw_873 : Cond.fieldLink RX7 38 "SignpostYardModel" "draftAt" "[I" ∈ TB := TBm 873 (by decide +kernel) (by decide +kernel)
theorem tw_874 : Cond.fieldLink RX7 91 "SignpostYardModel" "at" "I" ∈ TB := TBm 874 (by decide +kernel) (by decide +kernel)
theorem tw_875 : Cond.fieldLink RX7 98 "SignpostYardModel" "isWrong" "Z" ∈ TB := TBm 875 (by decide +kernel) (by decide +kernel)
theorem tw_876 : Cond.fieldLink RX7 114 "SignpostYardModel" "items" "I" ∈ TB := TBm 876 (by decide +kernel) (by decide +kernel)
theorem tw_877 : Cond.fieldLink RX7 41 "SignpostYardModel" "now" "[I" ∈ TB := TBm 877 (by decide +kernel) (by decide +kernel)
theorem tw_878 : Cond.fieldLink RX7 44 "SignpostYardModel" "before" "[I" ∈ TB := TBm 878 (by decide +kernel) (by decide +kernel)
theorem tw_879 : Cond.fieldLink RX7 154 "SignpostYardModel" "many" "I" ∈ TB := TBm 879 (by decide +kernel) (by decide +kernel)
theorem tw_880 : Cond.fieldLink RX7 47 "SignpostYardModel" "store" "[I" ∈ TB := TBm 880 (by decide +kernel) (by decide +kernel)
theorem tw_881 : Cond.fieldLink RX7 157 "SignpostYardModel" "kept" "I" ∈ TB := TBm 881 (by decide +kernel) (by decide +kernel)
theorem tw_882 : Cond.fieldLink RX7 50 "SignpostYardModel" "tried" "[I" ∈ TB := TBm 882 (by decide +kernel) (by decide +kernel)
theorem tw_883 : Cond.fieldLink RX7 53 "SignpostYardModel" "far" "[I" ∈ TB := TBm 883 (by decide +kernel) (by decide +kernel)
theorem tw_884 : Cond.fieldLink RX7 171 "SignpostYardModel" "twisted" "I" ∈ TB := TBm 884 (by decide +kernel) (by decide +kernel)
theorem tw_885 : Cond.fieldLink RX7 192 "SignpostYardModel" "extra" "I" ∈ TB := TBm 885 (by decide +kernel) (by decide +kernel)
theorem tw_886 : Cond.fieldLink RX7 181 "SignpostYardModel" "isAlone" "Z" ∈ TB := TBm 886 (by decide +kernel) (by decide +kernel)
theorem tw_887 : Cond.fieldLink RX7 56 "SignpostYardModel" "next" "[I" ∈ TB := TBm 887 (by decide +kernel) (by decide +kernel)
theorem tw_888 : Cond.fieldLink RX7 59 "SignpostYardModel" "taleFor" "[I" ∈ TB := TBm 888 (by decide +kernel) (by decide +kernel)
theorem tw_889 : Cond.fieldLink RX7 62 "SignpostYardModel" "taleTo" "[I" ∈ TB := TBm 889 (by decide +kernel) (by decide +kernel)
theorem tw_890 : Cond.fieldLink RX7 65 "SignpostYardModel" "taleMiles" "[I" ∈ TB := TBm 890 (by decide +kernel) (by decide +kernel)
theorem tw_891 : Cond.fieldLink RX7 160 "SignpostYardModel" "tales" "I" ∈ TB := TBm 891 (by decide +kernel) (by decide +kernel)
theorem tw_892 : Cond.fieldLink RX7 68 "SignpostYardModel" "sightOf" "[I" ∈ TB := TBm 892 (by decide +kernel) (by decide +kernel)
theorem tw_893 : Cond.fieldLink RX7 71 "SignpostYardModel" "sightFor" "[I" ∈ TB := TBm 893 (by decide +kernel) (by decide +kernel)
theorem tw_894 : Cond.fieldLink RX7 74 "SignpostYardModel" "sightTo" "[I" ∈ TB := TBm 894 (by decide +kernel) (by decide +kernel)
theorem tw_895 : Cond.fieldLink RX7 163 "SignpostYardModel" "sights" "I" ∈ TB := TBm 895 (by decide +kernel) (by decide +kernel)
theorem tw_967 : Cond.methodLink RX7 83 yX7_in ∈ TB := TBm 967 (by decide +kernel) (by decide +kernel)
theorem tw_968 : Cond.static yX7_in ∈ TB := TBm 968 (by decide +kernel) (by decide +kernel)
theorem tw_969 : Cond.code yX7_in cX7_in 3 (some .boolean) ∈ TB := TBm 969 (by decide +kernel) (by decide +kernel)
theorem tw_978 : Cond.methodLink RX7 132 yX7_read ∈ TB := TBm 978 (by decide +kernel) (by decide +kernel)
theorem tw_980 : Cond.instanceMethod yX7_read ∈ TB := TBm 980 (by decide +kernel) (by decide +kernel)
theorem tw_981 : Cond.code yX7_read cX7_read 2 (some .int) ∈ TB := TBm 981 (by decide +kernel) (by decide +kernel)
theorem tw_982 : Cond.methodLink RX7 129 yX7_readItem ∈ TB := TBm 982 (by decide +kernel) (by decide +kernel)
theorem tw_984 : Cond.instanceMethod yX7_readItem ∈ TB := TBm 984 (by decide +kernel) (by decide +kernel)
theorem tw_985 : Cond.code yX7_readItem cX7_readItem 2 none ∈ TB := TBm 985 (by decide +kernel) (by decide +kernel)
theorem tw_986 : Cond.methodLink RX7 94 yX7_here ∈ TB := TBm 986 (by decide +kernel) (by decide +kernel)
theorem tw_988 : Cond.instanceMethod yX7_here ∈ TB := TBm 988 (by decide +kernel) (by decide +kernel)
theorem tw_989 : Cond.code yX7_here cX7_here 1 (some .int) ∈ TB := TBm 989 (by decide +kernel) (by decide +kernel)
theorem tw_990 : Cond.methodLink RX7 106 yX7_number ∈ TB := TBm 990 (by decide +kernel) (by decide +kernel)
theorem tw_992 : Cond.instanceMethod yX7_number ∈ TB := TBm 992 (by decide +kernel) (by decide +kernel)
theorem tw_993 : Cond.code yX7_number cX7_number 5 (some .int) ∈ TB := TBm 993 (by decide +kernel) (by decide +kernel)
theorem tw_994 : Cond.methodLink RX7 102 yX7_isFigure ∈ TB := TBm 994 (by decide +kernel) (by decide +kernel)
theorem tw_996 : Cond.instanceMethod yX7_isFigure ∈ TB := TBm 996 (by decide +kernel) (by decide +kernel)
theorem tw_997 : Cond.code yX7_isFigure cX7_isFigure 1 (some .boolean) ∈ TB := TBm 997 (by decide +kernel) (by decide +kernel)
theorem tw_998 : Cond.methodLink RX7 117 yX7_readRoad ∈ TB := TBm 998 (by decide +kernel) (by decide +kernel)
theorem tw_1000 : Cond.instanceMethod yX7_readRoad ∈ TB := TBm 1000 (by decide +kernel) (by decide +kernel)
theorem tw_1001 : Cond.code yX7_readRoad cX7_readRoad 4 none ∈ TB := TBm 1001 (by decide +kernel) (by decide +kernel)
theorem tw_1002 : Cond.methodLink RX7 110 yX7_due ∈ TB := TBm 1002 (by decide +kernel) (by decide +kernel)
theorem tw_1004 : Cond.instanceMethod yX7_due ∈ TB := TBm 1004 (by decide +kernel) (by decide +kernel)
theorem tw_1005 : Cond.code yX7_due cX7_due 2 none ∈ TB := TBm 1005 (by decide +kernel) (by decide +kernel)
theorem tw_1006 : Cond.methodLink RX7 120 yX7_readPost ∈ TB := TBm 1006 (by decide +kernel) (by decide +kernel)
theorem tw_1008 : Cond.instanceMethod yX7_readPost ∈ TB := TBm 1008 (by decide +kernel) (by decide +kernel)
theorem tw_1009 : Cond.code yX7_readPost cX7_readPost 1 none ∈ TB := TBm 1009 (by decide +kernel) (by decide +kernel)
theorem tw_1010 : Cond.methodLink RX7 123 yX7_readWalker ∈ TB := TBm 1010 (by decide +kernel) (by decide +kernel)
theorem tw_1012 : Cond.instanceMethod yX7_readWalker ∈ TB := TBm 1012 (by decide +kernel) (by decide +kernel)
theorem tw_1013 : Cond.code yX7_readWalker cX7_readWalker 3 none ∈ TB := TBm 1013 (by decide +kernel) (by decide +kernel)
theorem tw_1022 : Cond.methodLink RX7 205 yX7_isTown ∈ TB := TBm 1022 (by decide +kernel) (by decide +kernel)
theorem tw_1024 : Cond.instanceMethod yX7_isTown ∈ TB := TBm 1024 (by decide +kernel) (by decide +kernel)
theorem tw_1025 : Cond.code yX7_isTown cX7_isTown 2 (some .boolean) ∈ TB := TBm 1025 (by decide +kernel) (by decide +kernel)
theorem tw_1030 : Cond.methodLink RX7 209 yX7_isPost ∈ TB := TBm 1030 (by decide +kernel) (by decide +kernel)
theorem tw_1032 : Cond.instanceMethod yX7_isPost ∈ TB := TBm 1032 (by decide +kernel) (by decide +kernel)
theorem tw_1033 : Cond.code yX7_isPost cX7_isPost 2 (some .boolean) ∈ TB := TBm 1033 (by decide +kernel) (by decide +kernel)
theorem tw_1038 : Cond.methodLink RX7 188 yX7_points ∈ TB := TBm 1038 (by decide +kernel) (by decide +kernel)
theorem tw_1040 : Cond.instanceMethod yX7_points ∈ TB := TBm 1040 (by decide +kernel) (by decide +kernel)
theorem tw_1041 : Cond.code yX7_points cX7_points 9 (some .int) ∈ TB := TBm 1041 (by decide +kernel) (by decide +kernel)
theorem tw_1042 : Cond.methodLink RX7 174 yX7_has ∈ TB := TBm 1042 (by decide +kernel) (by decide +kernel)
theorem tw_1043 : Cond.static yX7_has ∈ TB := TBm 1043 (by decide +kernel) (by decide +kernel)
theorem tw_1044 : Cond.code yX7_has cX7_has 2 (some .boolean) ∈ TB := TBm 1044 (by decide +kernel) (by decide +kernel)
theorem tw_1045 : Cond.methodLink RX7 178 yX7_turned ∈ TB := TBm 1045 (by decide +kernel) (by decide +kernel)
theorem tw_1047 : Cond.instanceMethod yX7_turned ∈ TB := TBm 1047 (by decide +kernel) (by decide +kernel)
theorem tw_1048 : Cond.code yX7_turned cX7_turned 6 (some .int) ∈ TB := TBm 1048 (by decide +kernel) (by decide +kernel)
theorem tw_1053 : Cond.methodLink RX7 212 yX7_isWalker ∈ TB := TBm 1053 (by decide +kernel) (by decide +kernel)
theorem tw_1055 : Cond.instanceMethod yX7_isWalker ∈ TB := TBm 1055 (by decide +kernel) (by decide +kernel)
theorem tw_1056 : Cond.code yX7_isWalker cX7_isWalker 2 (some .boolean) ∈ TB := TBm 1056 (by decide +kernel) (by decide +kernel)
theorem tw_1061 : Cond.methodLink RX7 215 yX7_know ∈ TB := TBm 1061 (by decide +kernel) (by decide +kernel)
theorem tw_1063 : Cond.instanceMethod yX7_know ∈ TB := TBm 1063 (by decide +kernel) (by decide +kernel)
theorem tw_1064 : Cond.code yX7_know cX7_know 2 none ∈ TB := TBm 1064 (by decide +kernel) (by decide +kernel)
theorem tw_1065 : Cond.methodLink RX7 198 yX7_passHour ∈ TB := TBm 1065 (by decide +kernel) (by decide +kernel)
theorem tw_1067 : Cond.instanceMethod yX7_passHour ∈ TB := TBm 1067 (by decide +kernel) (by decide +kernel)
theorem tw_1068 : Cond.code yX7_passHour cX7_passHour 3 none ∈ TB := TBm 1068 (by decide +kernel) (by decide +kernel)
theorem tw_1069 : Cond.methodLink RX7 195 yX7_goesTo ∈ TB := TBm 1069 (by decide +kernel) (by decide +kernel)
theorem tw_1071 : Cond.instanceMethod yX7_goesTo ∈ TB := TBm 1071 (by decide +kernel) (by decide +kernel)
theorem tw_1072 : Cond.code yX7_goesTo cX7_goesTo 9 (some .int) ∈ TB := TBm 1072 (by decide +kernel) (by decide +kernel)
theorem tw_1073 : Cond.methodLink RX7 184 yX7_postAt ∈ TB := TBm 1073 (by decide +kernel) (by decide +kernel)
theorem tw_1075 : Cond.instanceMethod yX7_postAt ∈ TB := TBm 1075 (by decide +kernel) (by decide +kernel)
theorem tw_1076 : Cond.code yX7_postAt cX7_postAt 5 (some .int) ∈ TB := TBm 1076 (by decide +kernel) (by decide +kernel)
theorem tw_1081 : Cond.methodLink RX7 218 yX7_passYear ∈ TB := TBm 1081 (by decide +kernel) (by decide +kernel)
theorem tw_1083 : Cond.instanceMethod yX7_passYear ∈ TB := TBm 1083 (by decide +kernel) (by decide +kernel)
theorem tw_1084 : Cond.code yX7_passYear cX7_passYear 4 (some .int) ∈ TB := TBm 1084 (by decide +kernel) (by decide +kernel)
theorem tw_1089 : Cond.methodLink RX7 221 yX7_layOn ∈ TB := TBm 1089 (by decide +kernel) (by decide +kernel)
theorem tw_1090 : Cond.static yX7_layOn ∈ TB := TBm 1090 (by decide +kernel) (by decide +kernel)
theorem tw_1091 : Cond.code yX7_layOn cX7_layOn 4 none ∈ TB := TBm 1091 (by decide +kernel) (by decide +kernel)
theorem tw_1109 : Cond.instanceMethod yX7_comes ∈ TB := TBm 1109 (by decide +kernel) (by decide +kernel)
theorem tw_1110 : Cond.selects RX7 yX7_comes yX7_comes ∈ TB := TBm 1110 (by decide +kernel) (by decide +kernel)
theorem tw_1111 : Cond.code yX7_comes cX7_comes 3 (some .int) ∈ TB := TBm 1111 (by decide +kernel) (by decide +kernel)
theorem tw_1112 : Cond.methodLink RX7 225 yX7_take ∈ TB := TBm 1112 (by decide +kernel) (by decide +kernel)
theorem tw_1114 : Cond.instanceMethod yX7_take ∈ TB := TBm 1114 (by decide +kernel) (by decide +kernel)
theorem tw_1115 : Cond.code yX7_take cX7_take 2 none ∈ TB := TBm 1115 (by decide +kernel) (by decide +kernel)
theorem tw_1124 : Cond.methodLink RX7 228 yX7_comeBy ∈ TB := TBm 1124 (by decide +kernel) (by decide +kernel)
theorem tw_1126 : Cond.instanceMethod yX7_comeBy ∈ TB := TBm 1126 (by decide +kernel) (by decide +kernel)
theorem tw_1127 : Cond.code yX7_comeBy cX7_comeBy 2 (some .int) ∈ TB := TBm 1127 (by decide +kernel) (by decide +kernel)
theorem tw_1128 : Cond.methodLink RX7 201 yX7_comeTo ∈ TB := TBm 1128 (by decide +kernel) (by decide +kernel)
theorem tw_1130 : Cond.instanceMethod yX7_comeTo ∈ TB := TBm 1130 (by decide +kernel) (by decide +kernel)
theorem tw_1131 : Cond.code yX7_comeTo cX7_comeTo 4 (some .int) ∈ TB := TBm 1131 (by decide +kernel) (by decide +kernel)
theorem tw_1140 : Cond.methodLink RX7 231 yX7_bitsOf ∈ TB := TBm 1140 (by decide +kernel) (by decide +kernel)
theorem tw_1141 : Cond.static yX7_bitsOf ∈ TB := TBm 1141 (by decide +kernel) (by decide +kernel)
theorem tw_1142 : Cond.code yX7_bitsOf cX7_bitsOf 3 (some .int) ∈ TB := TBm 1142 (by decide +kernel) (by decide +kernel)
theorem tw_1156 : Cond.instanceMethod yX7_stood ∈ TB := TBm 1156 (by decide +kernel) (by decide +kernel)
theorem tw_1157 : Cond.selects RX7 yX7_stood yX7_stood ∈ TB := TBm 1157 (by decide +kernel) (by decide +kernel)
theorem tw_1158 : Cond.code yX7_stood cX7_stood 5 (some .int) ∈ TB := TBm 1158 (by decide +kernel) (by decide +kernel)
theorem tw_1163 : Cond.methodLink RX7 235 yX7_stood ∈ TB := TBm 1163 (by decide +kernel) (by decide +kernel)
theorem tw_1164 : Cond.methodLink RX7 238 yX7_areAlike ∈ TB := TBm 1164 (by decide +kernel) (by decide +kernel)
theorem tw_1166 : Cond.instanceMethod yX7_areAlike ∈ TB := TBm 1166 (by decide +kernel) (by decide +kernel)
theorem tw_1167 : Cond.code yX7_areAlike cX7_areAlike 5 (some .boolean) ∈ TB := TBm 1167 (by decide +kernel) (by decide +kernel)
theorem tw_1184 : Cond.methodLink RX7 241 yX7_comes ∈ TB := TBm 1184 (by decide +kernel) (by decide +kernel)
theorem tw_1189 : Cond.constantLong RX7 244 (7919) ∈ TB := TBm 1189 (by decide +kernel) (by decide +kernel)
theorem tw_1190 : Cond.constantLong RX7 246 (6151) ∈ TB := TBm 1190 (by decide +kernel) (by decide +kernel)
theorem tw_1191 : Cond.constantLong RX7 248 (65521) ∈ TB := TBm 1191 (by decide +kernel) (by decide +kernel)
theorem tw_1192 : Cond.methodLink RX7 250 yX7_turn ∈ TB := TBm 1192 (by decide +kernel) (by decide +kernel)
theorem tw_1194 : Cond.instanceMethod yX7_turn ∈ TB := TBm 1194 (by decide +kernel) (by decide +kernel)
theorem tw_1195 : Cond.code yX7_turn cX7_turn 6 none ∈ TB := TBm 1195 (by decide +kernel) (by decide +kernel)
theorem tw_1196 : Cond.methodLink RX7 253 yX7_retiredOf ∈ TB := TBm 1196 (by decide +kernel) (by decide +kernel)
theorem tw_1198 : Cond.instanceMethod yX7_retiredOf ∈ TB := TBm 1198 (by decide +kernel) (by decide +kernel)
theorem tw_1199 : Cond.code yX7_retiredOf cX7_retiredOf 4 (some .int) ∈ TB := TBm 1199 (by decide +kernel) (by decide +kernel)
theorem tw_1200 : Cond.methodLink RX7 256 yX7_roadsOf ∈ TB := TBm 1200 (by decide +kernel) (by decide +kernel)
theorem tw_1201 : Cond.static yX7_roadsOf ∈ TB := TBm 1201 (by decide +kernel) (by decide +kernel)
theorem tw_1202 : Cond.code yX7_roadsOf cX7_roadsOf 6 (some .int) ∈ TB := TBm 1202 (by decide +kernel) (by decide +kernel)
theorem inT0 : ∀ x ∈ u_ws RX0 TX0 2, x ∈ TB := by
  intro x hx
  obtain ⟨j, hj, rfl⟩ := List.mem_map.mp hx
  have hj := List.mem_range.mp hj
  match j, hj with
  | 0, _ => exact TBm 97 (by decide +kernel) (by decide +kernel)
  | 1, _ => exact TBm 99 (by decide +kernel) (by decide +kernel)
theorem inT1 : ∀ x ∈ u_ws RX1 TX1 4, x ∈ TB := by
  intro x hx
  obtain ⟨j, hj, rfl⟩ := List.mem_map.mp hx
  have hj := List.mem_range.mp hj
  match j, hj with
  | 0, _ => exact TBm 107 (by decide +kernel) (by decide +kernel)
  | 1, _ => exact TBm 109 (by decide +kernel) (by decide +kernel)
  | 2, _ => exact TBm 111 (by decide +kernel) (by decide +kernel)
  | 3, _ => exact TBm 113 (by decide +kernel) (by decide +kernel)
theorem inT2 : ∀ x ∈ u_ws RX2 TX2 2, x ∈ TB := by
  intro x hx
  obtain ⟨j, hj, rfl⟩ := List.mem_map.mp hx
  have hj := List.mem_range.mp hj
  match j, hj with
  | 0, _ => exact TBm 204 (by decide +kernel) (by decide +kernel)
  | 1, _ => exact TBm 206 (by decide +kernel) (by decide +kernel)
theorem inT3 : ∀ x ∈ u_ws RX3 TX3 3, x ∈ TB := by
  intro x hx
  obtain ⟨j, hj, rfl⟩ := List.mem_map.mp hx
  have hj := List.mem_range.mp hj
  match j, hj with
  | 0, _ => exact TBm 133 (by decide +kernel) (by decide +kernel)
  | 1, _ => exact TBm 135 (by decide +kernel) (by decide +kernel)
  | 2, _ => exact TBm 137 (by decide +kernel) (by decide +kernel)
theorem inT4 : ∀ x ∈ u_ws RX4 TX4 3, x ∈ TB := by
  intro x hx
  obtain ⟨j, hj, rfl⟩ := List.mem_map.mp hx
  have hj := List.mem_range.mp hj
  match j, hj with
  | 0, _ => exact TBm 187 (by decide +kernel) (by decide +kernel)
  | 1, _ => exact TBm 189 (by decide +kernel) (by decide +kernel)
  | 2, _ => exact TBm 191 (by decide +kernel) (by decide +kernel)
theorem inT5 : ∀ x ∈ u_ws RX5 TX5 10, x ∈ TB := by
  intro x hx
  obtain ⟨j, hj, rfl⟩ := List.mem_map.mp hx
  have hj := List.mem_range.mp hj
  match j, hj with
  | 0, _ => exact TBm 152 (by decide +kernel) (by decide +kernel)
  | 1, _ => exact TBm 154 (by decide +kernel) (by decide +kernel)
  | 2, _ => exact TBm 156 (by decide +kernel) (by decide +kernel)
  | 3, _ => exact TBm 158 (by decide +kernel) (by decide +kernel)
  | 4, _ => exact TBm 160 (by decide +kernel) (by decide +kernel)
  | 5, _ => exact TBm 162 (by decide +kernel) (by decide +kernel)
  | 6, _ => exact TBm 164 (by decide +kernel) (by decide +kernel)
  | 7, _ => exact TBm 166 (by decide +kernel) (by decide +kernel)
  | 8, _ => exact TBm 168 (by decide +kernel) (by decide +kernel)
  | 9, _ => exact TBm 170 (by decide +kernel) (by decide +kernel)
theorem inT6 : ∀ x ∈ u_ws RX6 TX6 7, x ∈ TB := by
  intro x hx
  obtain ⟨j, hj, rfl⟩ := List.mem_map.mp hx
  have hj := List.mem_range.mp hj
  match j, hj with
  | 0, _ => exact TBm 378 (by decide +kernel) (by decide +kernel)
  | 1, _ => exact TBm 380 (by decide +kernel) (by decide +kernel)
  | 2, _ => exact TBm 382 (by decide +kernel) (by decide +kernel)
  | 3, _ => exact TBm 384 (by decide +kernel) (by decide +kernel)
  | 4, _ => exact TBm 386 (by decide +kernel) (by decide +kernel)
  | 5, _ => exact TBm 388 (by decide +kernel) (by decide +kernel)
  | 6, _ => exact TBm 390 (by decide +kernel) (by decide +kernel)
theorem inT7 : ∀ x ∈ u_ws RX7 TX7 33, x ∈ TB := by
  intro x hx
  obtain ⟨j, hj, rfl⟩ := List.mem_map.mp hx
  have hj := List.mem_range.mp hj
  match j, hj with
  | 0, _ => exact TBm 896 (by decide +kernel) (by decide +kernel)
  | 1, _ => exact TBm 898 (by decide +kernel) (by decide +kernel)
  | 2, _ => exact TBm 900 (by decide +kernel) (by decide +kernel)
  | 3, _ => exact TBm 902 (by decide +kernel) (by decide +kernel)
  | 4, _ => exact TBm 904 (by decide +kernel) (by decide +kernel)
  | 5, _ => exact TBm 906 (by decide +kernel) (by decide +kernel)
  | 6, _ => exact TBm 908 (by decide +kernel) (by decide +kernel)
  | 7, _ => exact TBm 910 (by decide +kernel) (by decide +kernel)
  | 8, _ => exact TBm 912 (by decide +kernel) (by decide +kernel)
  | 9, _ => exact TBm 914 (by decide +kernel) (by decide +kernel)
  | 10, _ => exact TBm 916 (by decide +kernel) (by decide +kernel)
  | 11, _ => exact TBm 918 (by decide +kernel) (by decide +kernel)
  | 12, _ => exact TBm 920 (by decide +kernel) (by decide +kernel)
  | 13, _ => exact TBm 922 (by decide +kernel) (by decide +kernel)
  | 14, _ => exact TBm 924 (by decide +kernel) (by decide +kernel)
  | 15, _ => exact TBm 926 (by decide +kernel) (by decide +kernel)
  | 16, _ => exact TBm 928 (by decide +kernel) (by decide +kernel)
  | 17, _ => exact TBm 930 (by decide +kernel) (by decide +kernel)
  | 18, _ => exact TBm 932 (by decide +kernel) (by decide +kernel)
  | 19, _ => exact TBm 934 (by decide +kernel) (by decide +kernel)
  | 20, _ => exact TBm 936 (by decide +kernel) (by decide +kernel)
  | 21, _ => exact TBm 938 (by decide +kernel) (by decide +kernel)
  | 22, _ => exact TBm 940 (by decide +kernel) (by decide +kernel)
  | 23, _ => exact TBm 942 (by decide +kernel) (by decide +kernel)
  | 24, _ => exact TBm 944 (by decide +kernel) (by decide +kernel)
  | 25, _ => exact TBm 946 (by decide +kernel) (by decide +kernel)
  | 26, _ => exact TBm 948 (by decide +kernel) (by decide +kernel)
  | 27, _ => exact TBm 950 (by decide +kernel) (by decide +kernel)
  | 28, _ => exact TBm 952 (by decide +kernel) (by decide +kernel)
  | 29, _ => exact TBm 954 (by decide +kernel) (by decide +kernel)
  | 30, _ => exact TBm 956 (by decide +kernel) (by decide +kernel)
  | 31, _ => exact TBm 958 (by decide +kernel) (by decide +kernel)
  | 32, _ => exact TBm 960 (by decide +kernel) (by decide +kernel)
  | j + 33, h => exact absurd h (by omega)
section GP
variable {p : Program} {l : Launch} {e : Env} {R : Room} {s : State} {m : MethodId} {args : Array Value} {below : List Frame} {meth : Method} {c : Code} {H : Heap} {locs : List Loc} {cells slots : Nat} {Q : State → Prop} {cc : ByteArray} {pc : Nat} {ls : Array Slot} {rest : List Value} {D : va_G} {w : Wv} {σ : Sg} {H0 : Heap}
theorem gt_X6_10 (hx : p.tables.exec = Jvm.exec) (hb : c.code = cc) (hts : ∀ x ∈ TB, x.before args s = true) (hown : s.vm.findClass RX6 = some m.cls) (hK : KN D w s) (hP : va_P D vwCl (WL w σ) H) (hdg : decode cc pc = .ok (.getfield 10, 3)) (kk : W p l e R s m args below meth c H locs cells slots Q (F0 m (pc + 3) ls (.ref (w.1 1) :: rest))) : W p l e R s m args below meth c H locs cells slots Q (F0 m pc ls (.ref (w.1 (0)) :: rest)) := q_get hx hb hts inT6 hown hK hP o0 (ce6 kd0) rfl 0 (by decide) rfl tw_371 rfl hdg kk
theorem gt_X6_19 (hx : p.tables.exec = Jvm.exec) (hb : c.code = cc) (hts : ∀ x ∈ TB, x.before args s = true) (hown : s.vm.findClass RX6 = some m.cls) (hK : KN D w s) (hP : va_P D vwCl (WL w σ) H) (hdg : decode cc pc = .ok (.getfield 19, 3)) (kk : W p l e R s m args below meth c H locs cells slots Q (F0 m (pc + 3) ls (.ref (w.1 6) :: rest))) : W p l e R s m args below meth c H locs cells slots Q (F0 m pc ls (.ref (w.1 (0)) :: rest)) := q_get hx hb hts inT6 hown hK hP o0 (ce6 kd0) rfl 1 (by decide) rfl tw_372 rfl hdg kk
theorem gt_X6_23 (hx : p.tables.exec = Jvm.exec) (hb : c.code = cc) (hts : ∀ x ∈ TB, x.before args s = true) (hown : s.vm.findClass RX6 = some m.cls) (hK : KN D w s) (hP : va_P D vwCl (WL w σ) H) (hdg : decode cc pc = .ok (.getfield 23, 3)) (kk : W p l e R s m args below meth c H locs cells slots Q (F0 m (pc + 3) ls (.ref (w.1 20) :: rest))) : W p l e R s m args below meth c H locs cells slots Q (F0 m pc ls (.ref (w.1 (0)) :: rest)) := q_get hx hb hts inT6 hown hK hP o0 (ce6 kd0) rfl 2 (by decide) rfl tw_373 rfl hdg kk
theorem gt_X6_31 (hx : p.tables.exec = Jvm.exec) (hb : c.code = cc) (hts : ∀ x ∈ TB, x.before args s = true) (hown : s.vm.findClass RX6 = some m.cls) (hK : KN D w s) (hP : va_P D vwCl (WL w σ) H) (hdg : decode cc pc = .ok (.getfield 31, 3)) (kk : W p l e R s m args below meth c H locs cells slots Q (F0 m (pc + 3) ls (.ref (w.1 34) :: rest))) : W p l e R s m args below meth c H locs cells slots Q (F0 m pc ls (.ref (w.1 (0)) :: rest)) := q_get hx hb hts inT6 hown hK hP o0 (ce6 kd0) rfl 3 (by decide) rfl tw_374 rfl hdg kk
theorem gt_X6_35 (hx : p.tables.exec = Jvm.exec) (hb : c.code = cc) (hts : ∀ x ∈ TB, x.before args s = true) (hown : s.vm.findClass RX6 = some m.cls) (hK : KN D w s) (hP : va_P D vwCl (WL w σ) H) (hdg : decode cc pc = .ok (.getfield 35, 3)) (kk : W p l e R s m args below meth c H locs cells slots Q (F0 m (pc + 3) ls (.ref (w.1 148) :: rest))) : W p l e R s m args below meth c H locs cells slots Q (F0 m pc ls (.ref (w.1 (0)) :: rest)) := q_get hx hb hts inT6 hown hK hP o0 (ce6 kd0) rfl 4 (by decide) rfl tw_375 rfl hdg kk
theorem gt_X6_41 (hx : p.tables.exec = Jvm.exec) (hb : c.code = cc) (hts : ∀ x ∈ TB, x.before args s = true) (hown : s.vm.findClass RX6 = some m.cls) (hK : KN D w s) (hP : va_P D vwCl (WL w σ) H) (hdg : decode cc pc = .ok (.getfield 41, 3)) (kk : W p l e R s m args below meth c H locs cells slots Q (F0 m (pc + 3) ls (.ref (w.1 178) :: rest))) : W p l e R s m args below meth c H locs cells slots Q (F0 m pc ls (.ref (w.1 (0)) :: rest)) := q_get hx hb hts inT6 hown hK hP o0 (ce6 kd0) rfl 5 (by decide) rfl tw_376 rfl hdg kk
theorem gt_X6_45 (hx : p.tables.exec = Jvm.exec) (hb : c.code = cc) (hts : ∀ x ∈ TB, x.before args s = true) (hown : s.vm.findClass RX6 = some m.cls) (hK : KN D w s) (hP : va_P D vwCl (WL w σ) H) (hdg : decode cc pc = .ok (.getfield 45, 3)) (kk : W p l e R s m args below meth c H locs cells slots Q (F0 m (pc + 3) ls (.ref (w.1 181) :: rest))) : W p l e R s m args below meth c H locs cells slots Q (F0 m pc ls (.ref (w.1 (0)) :: rest)) := q_get hx hb hts inT6 hown hK hP o0 (ce6 kd0) rfl 6 (by decide) rfl tw_377 rfl hdg kk
theorem gt_X0_9 (hx : p.tables.exec = Jvm.exec) (hb : c.code = cc) (hts : ∀ x ∈ TB, x.before args s = true) (hown : s.vm.findClass RX0 = some m.cls) (hK : KN D w s) (hP : va_P D vwCl (WL w σ) H) {i : Nat} (hi : i < 207) (hk : kd i = 0) (hdg : decode cc pc = .ok (.getfield 9, 3)) (kk : W p l e R s m args below meth c H locs cells slots Q (F0 m (pc + 3) ls (.int (σ i 0) :: rest))) : W p l e R s m args below meth c H locs cells slots Q (F0 m pc ls (.ref (w.1 (i)) :: rest)) := q_get hx hb hts inT0 hown hK hP hi (ce0 hk) rfl 0 (by decide) rfl tw_95 rfl hdg kk
theorem gt_X0_24 (hx : p.tables.exec = Jvm.exec) (hb : c.code = cc) (hts : ∀ x ∈ TB, x.before args s = true) (hown : s.vm.findClass RX0 = some m.cls) (hK : KN D w s) (hP : va_P D vwCl (WL w σ) H) {i : Nat} (hi : i < 207) (hk : kd i = 0) (hdg : decode cc pc = .ok (.getfield 24, 3)) (kk : W p l e R s m args below meth c H locs cells slots Q (F0 m (pc + 3) ls (.ref (w.1 (i + 1)) :: rest))) : W p l e R s m args below meth c H locs cells slots Q (F0 m pc ls (.ref (w.1 (i)) :: rest)) := q_get hx hb hts inT0 hown hK hP hi (ce0 hk) rfl 1 (by decide) rfl tw_96 rfl hdg kk
theorem gt_X1_14 (hx : p.tables.exec = Jvm.exec) (hb : c.code = cc) (hts : ∀ x ∈ TB, x.before args s = true) (hown : s.vm.findClass RX1 = some m.cls) (hK : KN D w s) (hP : va_P D vwCl (WL w σ) H) {i : Nat} (hi : i < 207) (hk : kd i = 1) (hdg : decode cc pc = .ok (.getfield 14, 3)) (kk : W p l e R s m args below meth c H locs cells slots Q (F0 m (pc + 3) ls (.ref (w.1 (i + 1)) :: rest))) : W p l e R s m args below meth c H locs cells slots Q (F0 m pc ls (.ref (w.1 (i)) :: rest)) := q_get hx hb hts inT1 hown hK hP hi (ce1 hk) rfl 0 (by decide) rfl tw_103 rfl hdg kk
theorem gt_X1_20 (hx : p.tables.exec = Jvm.exec) (hb : c.code = cc) (hts : ∀ x ∈ TB, x.before args s = true) (hown : s.vm.findClass RX1 = some m.cls) (hK : KN D w s) (hP : va_P D vwCl (WL w σ) H) {i : Nat} (hi : i < 207) (hk : kd i = 1) (hdg : decode cc pc = .ok (.getfield 20, 3)) (kk : W p l e R s m args below meth c H locs cells slots Q (F0 m (pc + 3) ls (.ref (w.1 (i + 3)) :: rest))) : W p l e R s m args below meth c H locs cells slots Q (F0 m pc ls (.ref (w.1 (i)) :: rest)) := q_get hx hb hts inT1 hown hK hP hi (ce1 hk) rfl 1 (by decide) rfl tw_104 rfl hdg kk
theorem gt_X1_23 (hx : p.tables.exec = Jvm.exec) (hb : c.code = cc) (hts : ∀ x ∈ TB, x.before args s = true) (hown : s.vm.findClass RX1 = some m.cls) (hK : KN D w s) (hP : va_P D vwCl (WL w σ) H) {i : Nat} (hi : i < 207) (hk : kd i = 1) (hdg : decode cc pc = .ok (.getfield 23, 3)) (kk : W p l e R s m args below meth c H locs cells slots Q (F0 m (pc + 3) ls (.int (σ i 2) :: rest))) : W p l e R s m args below meth c H locs cells slots Q (F0 m pc ls (.ref (w.1 (i)) :: rest)) := q_get hx hb hts inT1 hown hK hP hi (ce1 hk) rfl 2 (by decide) rfl tw_105 rfl hdg kk
theorem sfe_1_2 {v : Int32} {i : Nat} (hk : kd i = 1) : ce w (sf σ i 2 v) i = .inr (1, [.ref (w.1 (i + 1)), .ref (w.1 (i + 3)), .int (σ i 2), .int (σ i 3)].set 2 (.int v)) := (ce1 hk).trans (by simp [sf, va_up, upd])
theorem pt_X1_23 (hx : p.tables.exec = Jvm.exec) (hb : c.code = cc) (hts : ∀ x ∈ TB, x.before args s = true) (hown : s.vm.findClass RX1 = some m.cls) (hK : KN D w s) (hP : va_P D vwCl (WL w σ) H) (hJ : Inj w) (hS : va_S (AL w) H0 H locs) {i : Nat} (hi : i < 207) (hk : kd i = 1) {v : Int32} {σ' : Sg} (hg : some (sf σ i 2 v) = some σ') (hdg : decode cc pc = .ok (.putfield 23, 3)) (kk : ∀ (H : Heap) (locs : List Loc), va_P D vwCl (WL w σ') H → va_S (AL w) H0 H locs → W p l e R s m args below meth c H locs cells slots Q (F0 m (pc + 3) ls rest)) : W p l e R s m args below meth c H locs cells slots Q (F0 m pc ls (.int v :: .ref (w.1 (i)) :: rest)) := by
  cases hg
  exact q_put hx hb hts inT1 tyX1 tyX1_ok nmX1 hown hK hP hJ hS hi (ce1 hk) rfl 2 (by decide) rfl tw_105 rfl rfl rfl (Nat.le_of_ble_eq_true rfl) (fun j hj => sf_ne hj) (sfe_1_2 hk) hdg kk
theorem gt_X1_36 (hx : p.tables.exec = Jvm.exec) (hb : c.code = cc) (hts : ∀ x ∈ TB, x.before args s = true) (hown : s.vm.findClass RX1 = some m.cls) (hK : KN D w s) (hP : va_P D vwCl (WL w σ) H) {i : Nat} (hi : i < 207) (hk : kd i = 1) (hdg : decode cc pc = .ok (.getfield 36, 3)) (kk : W p l e R s m args below meth c H locs cells slots Q (F0 m (pc + 3) ls (.int (σ i 3) :: rest))) : W p l e R s m args below meth c H locs cells slots Q (F0 m pc ls (.ref (w.1 (i)) :: rest)) := q_get hx hb hts inT1 hown hK hP hi (ce1 hk) rfl 3 (by decide) rfl tw_106 rfl hdg kk
theorem sfe_1_3 {v : Int32} {i : Nat} (hk : kd i = 1) : ce w (sf σ i 3 v) i = .inr (1, [.ref (w.1 (i + 1)), .ref (w.1 (i + 3)), .int (σ i 2), .int (σ i 3)].set 3 (.int v)) := (ce1 hk).trans (by simp [sf, va_up, upd])
theorem pt_X1_36 (hx : p.tables.exec = Jvm.exec) (hb : c.code = cc) (hts : ∀ x ∈ TB, x.before args s = true) (hown : s.vm.findClass RX1 = some m.cls) (hK : KN D w s) (hP : va_P D vwCl (WL w σ) H) (hJ : Inj w) (hS : va_S (AL w) H0 H locs) {i : Nat} (hi : i < 207) (hk : kd i = 1) {v : Int32} {σ' : Sg} (hg : some (sf σ i 3 v) = some σ') (hdg : decode cc pc = .ok (.putfield 36, 3)) (kk : ∀ (H : Heap) (locs : List Loc), va_P D vwCl (WL w σ') H → va_S (AL w) H0 H locs → W p l e R s m args below meth c H locs cells slots Q (F0 m (pc + 3) ls rest)) : W p l e R s m args below meth c H locs cells slots Q (F0 m pc ls (.int v :: .ref (w.1 (i)) :: rest)) := by
  cases hg
  exact q_put hx hb hts inT1 tyX1 tyX1_ok nmX1 hown hK hP hJ hS hi (ce1 hk) rfl 3 (by decide) rfl tw_106 rfl rfl rfl (Nat.le_of_ble_eq_true rfl) (fun j hj => sf_ne hj) (sfe_1_3 hk) hdg kk
theorem gt_X2_14 (hx : p.tables.exec = Jvm.exec) (hb : c.code = cc) (hts : ∀ x ∈ TB, x.before args s = true) (hown : s.vm.findClass RX2 = some m.cls) (hK : KN D w s) (hP : va_P D vwCl (WL w σ) H) {i : Nat} (hi : i < 207) (hk : kd i = 2) (hdg : decode cc pc = .ok (.getfield 14, 3)) (kk : W p l e R s m args below meth c H locs cells slots Q (F0 m (pc + 3) ls (.ref (w.1 (i + 1)) :: rest))) : W p l e R s m args below meth c H locs cells slots Q (F0 m pc ls (.ref (w.1 (i)) :: rest)) := q_get hx hb hts inT2 hown hK hP hi (ce2 hk) rfl 0 (by decide) rfl tw_202 rfl hdg kk
theorem gt_X2_20 (hx : p.tables.exec = Jvm.exec) (hb : c.code = cc) (hts : ∀ x ∈ TB, x.before args s = true) (hown : s.vm.findClass RX2 = some m.cls) (hK : KN D w s) (hP : va_P D vwCl (WL w σ) H) {i : Nat} (hi : i < 207) (hk : kd i = 2) (hdg : decode cc pc = .ok (.getfield 20, 3)) (kk : W p l e R s m args below meth c H locs cells slots Q (F0 m (pc + 3) ls (.int (σ i 1) :: rest))) : W p l e R s m args below meth c H locs cells slots Q (F0 m pc ls (.ref (w.1 (i)) :: rest)) := q_get hx hb hts inT2 hown hK hP hi (ce2 hk) rfl 1 (by decide) rfl tw_203 rfl hdg kk
theorem sfe_2_1 {v : Int32} {i : Nat} (hk : kd i = 2) : ce w (sf σ i 1 v) i = .inr (2, [.ref (w.1 (i + 1)), .int (σ i 1)].set 1 (.int v)) := (ce2 hk).trans (by simp [sf, va_up, upd])
theorem pt_X2_20 (hx : p.tables.exec = Jvm.exec) (hb : c.code = cc) (hts : ∀ x ∈ TB, x.before args s = true) (hown : s.vm.findClass RX2 = some m.cls) (hK : KN D w s) (hP : va_P D vwCl (WL w σ) H) (hJ : Inj w) (hS : va_S (AL w) H0 H locs) {i : Nat} (hi : i < 207) (hk : kd i = 2) {v : Int32} {σ' : Sg} (hg : some (sf σ i 1 v) = some σ') (hdg : decode cc pc = .ok (.putfield 20, 3)) (kk : ∀ (H : Heap) (locs : List Loc), va_P D vwCl (WL w σ') H → va_S (AL w) H0 H locs → W p l e R s m args below meth c H locs cells slots Q (F0 m (pc + 3) ls rest)) : W p l e R s m args below meth c H locs cells slots Q (F0 m pc ls (.int v :: .ref (w.1 (i)) :: rest)) := by
  cases hg
  exact q_put hx hb hts inT2 tyX2 tyX2_ok nmX2 hown hK hP hJ hS hi (ce2 hk) rfl 1 (by decide) rfl tw_203 rfl rfl rfl (Nat.le_of_ble_eq_true rfl) (fun j hj => sf_ne hj) (sfe_2_1 hk) hdg kk
theorem gt_X3_9 (hx : p.tables.exec = Jvm.exec) (hb : c.code = cc) (hts : ∀ x ∈ TB, x.before args s = true) (hown : s.vm.findClass RX3 = some m.cls) (hK : KN D w s) (hP : va_P D vwCl (WL w σ) H) {i : Nat} (hi : i < 207) (hk : kd i = 3) (hdg : decode cc pc = .ok (.getfield 9, 3)) (kk : W p l e R s m args below meth c H locs cells slots Q (F0 m (pc + 3) ls (.int (σ i 0) :: rest))) : W p l e R s m args below meth c H locs cells slots Q (F0 m pc ls (.ref (w.1 (i)) :: rest)) := q_get hx hb hts inT3 hown hK hP hi (ce3 hk) rfl 0 (by decide) rfl tw_130 rfl hdg kk
theorem sfe_3_0 {v : Int32} {i : Nat} (hk : kd i = 3) : ce w (sf σ i 0 v) i = .inr (3, [.int (σ i 0), .ref (w.1 (i + 1)), .ref (w.1 (i + 3))].set 0 (.int v)) := (ce3 hk).trans (by simp [sf, va_up, upd])
theorem pt_X3_9 (hx : p.tables.exec = Jvm.exec) (hb : c.code = cc) (hts : ∀ x ∈ TB, x.before args s = true) (hown : s.vm.findClass RX3 = some m.cls) (hK : KN D w s) (hP : va_P D vwCl (WL w σ) H) (hJ : Inj w) (hS : va_S (AL w) H0 H locs) {i : Nat} (hi : i < 207) (hk : kd i = 3) {v : Int32} {σ' : Sg} (hg : some (sf σ i 0 v) = some σ') (hdg : decode cc pc = .ok (.putfield 9, 3)) (kk : ∀ (H : Heap) (locs : List Loc), va_P D vwCl (WL w σ') H → va_S (AL w) H0 H locs → W p l e R s m args below meth c H locs cells slots Q (F0 m (pc + 3) ls rest)) : W p l e R s m args below meth c H locs cells slots Q (F0 m pc ls (.int v :: .ref (w.1 (i)) :: rest)) := by
  cases hg
  exact q_put hx hb hts inT3 tyX3 tyX3_ok nmX3 hown hK hP hJ hS hi (ce3 hk) rfl 0 (by decide) rfl tw_130 rfl rfl rfl (Nat.le_of_ble_eq_true rfl) (fun j hj => sf_ne hj) (sfe_3_0 hk) hdg kk
theorem gt_X3_20 (hx : p.tables.exec = Jvm.exec) (hb : c.code = cc) (hts : ∀ x ∈ TB, x.before args s = true) (hown : s.vm.findClass RX3 = some m.cls) (hK : KN D w s) (hP : va_P D vwCl (WL w σ) H) {i : Nat} (hi : i < 207) (hk : kd i = 3) (hdg : decode cc pc = .ok (.getfield 20, 3)) (kk : W p l e R s m args below meth c H locs cells slots Q (F0 m (pc + 3) ls (.ref (w.1 (i + 1)) :: rest))) : W p l e R s m args below meth c H locs cells slots Q (F0 m pc ls (.ref (w.1 (i)) :: rest)) := q_get hx hb hts inT3 hown hK hP hi (ce3 hk) rfl 1 (by decide) rfl tw_131 rfl hdg kk
theorem gt_X3_24 (hx : p.tables.exec = Jvm.exec) (hb : c.code = cc) (hts : ∀ x ∈ TB, x.before args s = true) (hown : s.vm.findClass RX3 = some m.cls) (hK : KN D w s) (hP : va_P D vwCl (WL w σ) H) {i : Nat} (hi : i < 207) (hk : kd i = 3) (hdg : decode cc pc = .ok (.getfield 24, 3)) (kk : W p l e R s m args below meth c H locs cells slots Q (F0 m (pc + 3) ls (.ref (w.1 (i + 3)) :: rest))) : W p l e R s m args below meth c H locs cells slots Q (F0 m pc ls (.ref (w.1 (i)) :: rest)) := q_get hx hb hts inT3 hown hK hP hi (ce3 hk) rfl 2 (by decide) rfl tw_132 rfl hdg kk
theorem gt_X4_20 (hx : p.tables.exec = Jvm.exec) (hb : c.code = cc) (hts : ∀ x ∈ TB, x.before args s = true) (hown : s.vm.findClass RX4 = some m.cls) (hK : KN D w s) (hP : va_P D vwCl (WL w σ) H) {i : Nat} (hi : i < 207) (hk : kd i = 4) (hdg : decode cc pc = .ok (.getfield 20, 3)) (kk : W p l e R s m args below meth c H locs cells slots Q (F0 m (pc + 3) ls (.ref (w.1 (i + 1)) :: rest))) : W p l e R s m args below meth c H locs cells slots Q (F0 m pc ls (.ref (w.1 (i)) :: rest)) := q_get hx hb hts inT4 hown hK hP hi (ce4 hk) rfl 0 (by decide) rfl tw_184 rfl hdg kk
theorem gt_X4_27 (hx : p.tables.exec = Jvm.exec) (hb : c.code = cc) (hts : ∀ x ∈ TB, x.before args s = true) (hown : s.vm.findClass RX4 = some m.cls) (hK : KN D w s) (hP : va_P D vwCl (WL w σ) H) {i : Nat} (hi : i < 207) (hk : kd i = 4) (hdg : decode cc pc = .ok (.getfield 27, 3)) (kk : W p l e R s m args below meth c H locs cells slots Q (F0 m (pc + 3) ls (.int (σ i 1) :: rest))) : W p l e R s m args below meth c H locs cells slots Q (F0 m pc ls (.ref (w.1 (i)) :: rest)) := q_get hx hb hts inT4 hown hK hP hi (ce4 hk) rfl 1 (by decide) rfl tw_185 rfl hdg kk
theorem sfe_4_1 {v : Int32} {i : Nat} (hk : kd i = 4) : ce w (sf σ i 1 v) i = .inr (4, [.ref (w.1 (i + 1)), .int (σ i 1), .int (σ i 2)].set 1 (.int v)) := (ce4 hk).trans (by simp [sf, va_up, upd])
theorem pt_X4_27 (hx : p.tables.exec = Jvm.exec) (hb : c.code = cc) (hts : ∀ x ∈ TB, x.before args s = true) (hown : s.vm.findClass RX4 = some m.cls) (hK : KN D w s) (hP : va_P D vwCl (WL w σ) H) (hJ : Inj w) (hS : va_S (AL w) H0 H locs) {i : Nat} (hi : i < 207) (hk : kd i = 4) {v : Int32} {σ' : Sg} (hg : some (sf σ i 1 v) = some σ') (hdg : decode cc pc = .ok (.putfield 27, 3)) (kk : ∀ (H : Heap) (locs : List Loc), va_P D vwCl (WL w σ') H → va_S (AL w) H0 H locs → W p l e R s m args below meth c H locs cells slots Q (F0 m (pc + 3) ls rest)) : W p l e R s m args below meth c H locs cells slots Q (F0 m pc ls (.int v :: .ref (w.1 (i)) :: rest)) := by
  cases hg
  exact q_put hx hb hts inT4 tyX4 tyX4_ok nmX4 hown hK hP hJ hS hi (ce4 hk) rfl 1 (by decide) rfl tw_185 rfl rfl rfl (Nat.le_of_ble_eq_true rfl) (fun j hj => sf_ne hj) (sfe_4_1 hk) hdg kk
theorem gt_X4_31 (hx : p.tables.exec = Jvm.exec) (hb : c.code = cc) (hts : ∀ x ∈ TB, x.before args s = true) (hown : s.vm.findClass RX4 = some m.cls) (hK : KN D w s) (hP : va_P D vwCl (WL w σ) H) {i : Nat} (hi : i < 207) (hk : kd i = 4) (hdg : decode cc pc = .ok (.getfield 31, 3)) (kk : W p l e R s m args below meth c H locs cells slots Q (F0 m (pc + 3) ls (.int (σ i 2) :: rest))) : W p l e R s m args below meth c H locs cells slots Q (F0 m pc ls (.ref (w.1 (i)) :: rest)) := q_get hx hb hts inT4 hown hK hP hi (ce4 hk) rfl 2 (by decide) rfl tw_186 rfl hdg kk
theorem sfe_4_2 {v : Int32} {i : Nat} (hk : kd i = 4) : ce w (sf σ i 2 v) i = .inr (4, [.ref (w.1 (i + 1)), .int (σ i 1), .int (σ i 2)].set 2 (.int v)) := (ce4 hk).trans (by simp [sf, va_up, upd])
theorem pt_X4_31 (hx : p.tables.exec = Jvm.exec) (hb : c.code = cc) (hts : ∀ x ∈ TB, x.before args s = true) (hown : s.vm.findClass RX4 = some m.cls) (hK : KN D w s) (hP : va_P D vwCl (WL w σ) H) (hJ : Inj w) (hS : va_S (AL w) H0 H locs) {i : Nat} (hi : i < 207) (hk : kd i = 4) {v : Int32} {σ' : Sg} (hg : some (sf σ i 2 v) = some σ') (hdg : decode cc pc = .ok (.putfield 31, 3)) (kk : ∀ (H : Heap) (locs : List Loc), va_P D vwCl (WL w σ') H → va_S (AL w) H0 H locs → W p l e R s m args below meth c H locs cells slots Q (F0 m (pc + 3) ls rest)) : W p l e R s m args below meth c H locs cells slots Q (F0 m pc ls (.int v :: .ref (w.1 (i)) :: rest)) := by
  cases hg
  exact q_put hx hb hts inT4 tyX4 tyX4_ok nmX4 hown hK hP hJ hS hi (ce4 hk) rfl 2 (by decide) rfl tw_186 rfl rfl rfl (Nat.le_of_ble_eq_true rfl) (fun j hj => sf_ne hj) (sfe_4_2 hk) hdg kk
theorem gt_X5_12 (hx : p.tables.exec = Jvm.exec) (hb : c.code = cc) (hts : ∀ x ∈ TB, x.before args s = true) (hown : s.vm.findClass RX5 = some m.cls) (hK : KN D w s) (hP : va_P D vwCl (WL w σ) H) {i : Nat} (hi : i < 207) (hk : kd i = 5) (hdg : decode cc pc = .ok (.getfield 12, 3)) (kk : W p l e R s m args below meth c H locs cells slots Q (F0 m (pc + 3) ls (.ref (w.1 (i + 1)) :: rest))) : W p l e R s m args below meth c H locs cells slots Q (F0 m pc ls (.ref (w.1 (i)) :: rest)) := q_get hx hb hts inT5 hown hK hP hi (ce5 hk) rfl 0 (by decide) rfl tw_142 rfl hdg kk
theorem gt_X5_23 (hx : p.tables.exec = Jvm.exec) (hb : c.code = cc) (hts : ∀ x ∈ TB, x.before args s = true) (hown : s.vm.findClass RX5 = some m.cls) (hK : KN D w s) (hP : va_P D vwCl (WL w σ) H) {i : Nat} (hi : i < 207) (hk : kd i = 5) (hdg : decode cc pc = .ok (.getfield 23, 3)) (kk : W p l e R s m args below meth c H locs cells slots Q (F0 m (pc + 3) ls (.ref (w.1 (i + 6)) :: rest))) : W p l e R s m args below meth c H locs cells slots Q (F0 m pc ls (.ref (w.1 (i)) :: rest)) := q_get hx hb hts inT5 hown hK hP hi (ce5 hk) rfl 1 (by decide) rfl tw_143 rfl hdg kk
theorem gt_X5_27 (hx : p.tables.exec = Jvm.exec) (hb : c.code = cc) (hts : ∀ x ∈ TB, x.before args s = true) (hown : s.vm.findClass RX5 = some m.cls) (hK : KN D w s) (hP : va_P D vwCl (WL w σ) H) {i : Nat} (hi : i < 207) (hk : kd i = 5) (hdg : decode cc pc = .ok (.getfield 27, 3)) (kk : W p l e R s m args below meth c H locs cells slots Q (F0 m (pc + 3) ls (.ref (w.1 (i + 8)) :: rest))) : W p l e R s m args below meth c H locs cells slots Q (F0 m pc ls (.ref (w.1 (i)) :: rest)) := q_get hx hb hts inT5 hown hK hP hi (ce5 hk) rfl 2 (by decide) rfl tw_144 rfl hdg kk
theorem gt_X5_30 (hx : p.tables.exec = Jvm.exec) (hb : c.code = cc) (hts : ∀ x ∈ TB, x.before args s = true) (hown : s.vm.findClass RX5 = some m.cls) (hK : KN D w s) (hP : va_P D vwCl (WL w σ) H) {i : Nat} (hi : i < 207) (hk : kd i = 5) (hdg : decode cc pc = .ok (.getfield 30, 3)) (kk : W p l e R s m args below meth c H locs cells slots Q (F0 m (pc + 3) ls (.ref (w.1 (i + 10)) :: rest))) : W p l e R s m args below meth c H locs cells slots Q (F0 m pc ls (.ref (w.1 (i)) :: rest)) := q_get hx hb hts inT5 hown hK hP hi (ce5 hk) rfl 3 (by decide) rfl tw_145 rfl hdg kk
theorem gt_X5_33 (hx : p.tables.exec = Jvm.exec) (hb : c.code = cc) (hts : ∀ x ∈ TB, x.before args s = true) (hown : s.vm.findClass RX5 = some m.cls) (hK : KN D w s) (hP : va_P D vwCl (WL w σ) H) {i : Nat} (hi : i < 207) (hk : kd i = 5) (hdg : decode cc pc = .ok (.getfield 33, 3)) (kk : W p l e R s m args below meth c H locs cells slots Q (F0 m (pc + 3) ls (.ref (w.1 (i + 12)) :: rest))) : W p l e R s m args below meth c H locs cells slots Q (F0 m pc ls (.ref (w.1 (i)) :: rest)) := q_get hx hb hts inT5 hown hK hP hi (ce5 hk) rfl 4 (by decide) rfl tw_146 rfl hdg kk
theorem gt_X5_43 (hx : p.tables.exec = Jvm.exec) (hb : c.code = cc) (hts : ∀ x ∈ TB, x.before args s = true) (hown : s.vm.findClass RX5 = some m.cls) (hK : KN D w s) (hP : va_P D vwCl (WL w σ) H) {i : Nat} (hi : i < 207) (hk : kd i = 5) (hdg : decode cc pc = .ok (.getfield 43, 3)) (kk : W p l e R s m args below meth c H locs cells slots Q (F0 m (pc + 3) ls (.int (σ i 5) :: rest))) : W p l e R s m args below meth c H locs cells slots Q (F0 m pc ls (.ref (w.1 (i)) :: rest)) := q_get hx hb hts inT5 hown hK hP hi (ce5 hk) rfl 5 (by decide) rfl tw_147 rfl hdg kk
theorem sfe_5_5 {v : Int32} {i : Nat} (hk : kd i = 5) : ce w (sf σ i 5 v) i = .inr (5, [.ref (w.1 (i + 1)), .ref (w.1 (i + 6)), .ref (w.1 (i + 8)), .ref (w.1 (i + 10)), .ref (w.1 (i + 12)), .int (σ i 5), .int (σ i 6), .int (σ i 7), .int (σ i 8), .int (σ i 9)].set 5 (.int v)) := (ce5 hk).trans (by simp [sf, va_up, upd])
theorem pt_X5_43 (hx : p.tables.exec = Jvm.exec) (hb : c.code = cc) (hts : ∀ x ∈ TB, x.before args s = true) (hown : s.vm.findClass RX5 = some m.cls) (hK : KN D w s) (hP : va_P D vwCl (WL w σ) H) (hJ : Inj w) (hS : va_S (AL w) H0 H locs) {i : Nat} (hi : i < 207) (hk : kd i = 5) {v : Int32} {σ' : Sg} (hg : some (sf σ i 5 v) = some σ') (hdg : decode cc pc = .ok (.putfield 43, 3)) (kk : ∀ (H : Heap) (locs : List Loc), va_P D vwCl (WL w σ') H → va_S (AL w) H0 H locs → W p l e R s m args below meth c H locs cells slots Q (F0 m (pc + 3) ls rest)) : W p l e R s m args below meth c H locs cells slots Q (F0 m pc ls (.int v :: .ref (w.1 (i)) :: rest)) := by
  cases hg
  exact q_put hx hb hts inT5 tyX5 tyX5_ok nmX5 hown hK hP hJ hS hi (ce5 hk) rfl 5 (by decide) rfl tw_147 rfl rfl rfl (Nat.le_of_ble_eq_true rfl) (fun j hj => sf_ne hj) (sfe_5_5 hk) hdg kk
theorem gt_X5_47 (hx : p.tables.exec = Jvm.exec) (hb : c.code = cc) (hts : ∀ x ∈ TB, x.before args s = true) (hown : s.vm.findClass RX5 = some m.cls) (hK : KN D w s) (hP : va_P D vwCl (WL w σ) H) {i : Nat} (hi : i < 207) (hk : kd i = 5) (hdg : decode cc pc = .ok (.getfield 47, 3)) (kk : W p l e R s m args below meth c H locs cells slots Q (F0 m (pc + 3) ls (.int (σ i 6) :: rest))) : W p l e R s m args below meth c H locs cells slots Q (F0 m pc ls (.ref (w.1 (i)) :: rest)) := q_get hx hb hts inT5 hown hK hP hi (ce5 hk) rfl 6 (by decide) rfl tw_148 rfl hdg kk
theorem sfe_5_6 {v : Int32} {i : Nat} (hk : kd i = 5) : ce w (sf σ i 6 v) i = .inr (5, [.ref (w.1 (i + 1)), .ref (w.1 (i + 6)), .ref (w.1 (i + 8)), .ref (w.1 (i + 10)), .ref (w.1 (i + 12)), .int (σ i 5), .int (σ i 6), .int (σ i 7), .int (σ i 8), .int (σ i 9)].set 6 (.int v)) := (ce5 hk).trans (by simp [sf, va_up, upd])
theorem pt_X5_47 (hx : p.tables.exec = Jvm.exec) (hb : c.code = cc) (hts : ∀ x ∈ TB, x.before args s = true) (hown : s.vm.findClass RX5 = some m.cls) (hK : KN D w s) (hP : va_P D vwCl (WL w σ) H) (hJ : Inj w) (hS : va_S (AL w) H0 H locs) {i : Nat} (hi : i < 207) (hk : kd i = 5) {v : Int32} {σ' : Sg} (hg : some (sf σ i 6 v) = some σ') (hdg : decode cc pc = .ok (.putfield 47, 3)) (kk : ∀ (H : Heap) (locs : List Loc), va_P D vwCl (WL w σ') H → va_S (AL w) H0 H locs → W p l e R s m args below meth c H locs cells slots Q (F0 m (pc + 3) ls rest)) : W p l e R s m args below meth c H locs cells slots Q (F0 m pc ls (.int v :: .ref (w.1 (i)) :: rest)) := by
  cases hg
  exact q_put hx hb hts inT5 tyX5 tyX5_ok nmX5 hown hK hP hJ hS hi (ce5 hk) rfl 6 (by decide) rfl tw_148 rfl rfl rfl (Nat.le_of_ble_eq_true rfl) (fun j hj => sf_ne hj) (sfe_5_6 hk) hdg kk
theorem gt_X5_50 (hx : p.tables.exec = Jvm.exec) (hb : c.code = cc) (hts : ∀ x ∈ TB, x.before args s = true) (hown : s.vm.findClass RX5 = some m.cls) (hK : KN D w s) (hP : va_P D vwCl (WL w σ) H) {i : Nat} (hi : i < 207) (hk : kd i = 5) (hdg : decode cc pc = .ok (.getfield 50, 3)) (kk : W p l e R s m args below meth c H locs cells slots Q (F0 m (pc + 3) ls (.int (σ i 7) :: rest))) : W p l e R s m args below meth c H locs cells slots Q (F0 m pc ls (.ref (w.1 (i)) :: rest)) := q_get hx hb hts inT5 hown hK hP hi (ce5 hk) rfl 7 (by decide) rfl tw_149 rfl hdg kk
theorem sfe_5_7 {v : Int32} {i : Nat} (hk : kd i = 5) : ce w (sf σ i 7 v) i = .inr (5, [.ref (w.1 (i + 1)), .ref (w.1 (i + 6)), .ref (w.1 (i + 8)), .ref (w.1 (i + 10)), .ref (w.1 (i + 12)), .int (σ i 5), .int (σ i 6), .int (σ i 7), .int (σ i 8), .int (σ i 9)].set 7 (.int v)) := (ce5 hk).trans (by simp [sf, va_up, upd])
theorem pt_X5_50 (hx : p.tables.exec = Jvm.exec) (hb : c.code = cc) (hts : ∀ x ∈ TB, x.before args s = true) (hown : s.vm.findClass RX5 = some m.cls) (hK : KN D w s) (hP : va_P D vwCl (WL w σ) H) (hJ : Inj w) (hS : va_S (AL w) H0 H locs) {i : Nat} (hi : i < 207) (hk : kd i = 5) {v : Int32} {σ' : Sg} (hg : some (sf σ i 7 v) = some σ') (hdg : decode cc pc = .ok (.putfield 50, 3)) (kk : ∀ (H : Heap) (locs : List Loc), va_P D vwCl (WL w σ') H → va_S (AL w) H0 H locs → W p l e R s m args below meth c H locs cells slots Q (F0 m (pc + 3) ls rest)) : W p l e R s m args below meth c H locs cells slots Q (F0 m pc ls (.int v :: .ref (w.1 (i)) :: rest)) := by
  cases hg
  exact q_put hx hb hts inT5 tyX5 tyX5_ok nmX5 hown hK hP hJ hS hi (ce5 hk) rfl 7 (by decide) rfl tw_149 rfl rfl rfl (Nat.le_of_ble_eq_true rfl) (fun j hj => sf_ne hj) (sfe_5_7 hk) hdg kk
theorem gt_X5_53 (hx : p.tables.exec = Jvm.exec) (hb : c.code = cc) (hts : ∀ x ∈ TB, x.before args s = true) (hown : s.vm.findClass RX5 = some m.cls) (hK : KN D w s) (hP : va_P D vwCl (WL w σ) H) {i : Nat} (hi : i < 207) (hk : kd i = 5) (hdg : decode cc pc = .ok (.getfield 53, 3)) (kk : W p l e R s m args below meth c H locs cells slots Q (F0 m (pc + 3) ls (.int (σ i 8) :: rest))) : W p l e R s m args below meth c H locs cells slots Q (F0 m pc ls (.ref (w.1 (i)) :: rest)) := q_get hx hb hts inT5 hown hK hP hi (ce5 hk) rfl 8 (by decide) rfl tw_150 rfl hdg kk
theorem sfe_5_8 {v : Int32} {i : Nat} (hk : kd i = 5) : ce w (sf σ i 8 v) i = .inr (5, [.ref (w.1 (i + 1)), .ref (w.1 (i + 6)), .ref (w.1 (i + 8)), .ref (w.1 (i + 10)), .ref (w.1 (i + 12)), .int (σ i 5), .int (σ i 6), .int (σ i 7), .int (σ i 8), .int (σ i 9)].set 8 (.int v)) := (ce5 hk).trans (by simp [sf, va_up, upd])
theorem pt_X5_53 (hx : p.tables.exec = Jvm.exec) (hb : c.code = cc) (hts : ∀ x ∈ TB, x.before args s = true) (hown : s.vm.findClass RX5 = some m.cls) (hK : KN D w s) (hP : va_P D vwCl (WL w σ) H) (hJ : Inj w) (hS : va_S (AL w) H0 H locs) {i : Nat} (hi : i < 207) (hk : kd i = 5) {v : Int32} {σ' : Sg} (hg : some (sf σ i 8 v) = some σ') (hdg : decode cc pc = .ok (.putfield 53, 3)) (kk : ∀ (H : Heap) (locs : List Loc), va_P D vwCl (WL w σ') H → va_S (AL w) H0 H locs → W p l e R s m args below meth c H locs cells slots Q (F0 m (pc + 3) ls rest)) : W p l e R s m args below meth c H locs cells slots Q (F0 m pc ls (.int v :: .ref (w.1 (i)) :: rest)) := by
  cases hg
  exact q_put hx hb hts inT5 tyX5 tyX5_ok nmX5 hown hK hP hJ hS hi (ce5 hk) rfl 8 (by decide) rfl tw_150 rfl rfl rfl (Nat.le_of_ble_eq_true rfl) (fun j hj => sf_ne hj) (sfe_5_8 hk) hdg kk
theorem gt_X5_56 (hx : p.tables.exec = Jvm.exec) (hb : c.code = cc) (hts : ∀ x ∈ TB, x.before args s = true) (hown : s.vm.findClass RX5 = some m.cls) (hK : KN D w s) (hP : va_P D vwCl (WL w σ) H) {i : Nat} (hi : i < 207) (hk : kd i = 5) (hdg : decode cc pc = .ok (.getfield 56, 3)) (kk : W p l e R s m args below meth c H locs cells slots Q (F0 m (pc + 3) ls (.int (σ i 9) :: rest))) : W p l e R s m args below meth c H locs cells slots Q (F0 m pc ls (.ref (w.1 (i)) :: rest)) := q_get hx hb hts inT5 hown hK hP hi (ce5 hk) rfl 9 (by decide) rfl tw_151 rfl hdg kk
theorem sfe_5_9 {v : Int32} {i : Nat} (hk : kd i = 5) : ce w (sf σ i 9 v) i = .inr (5, [.ref (w.1 (i + 1)), .ref (w.1 (i + 6)), .ref (w.1 (i + 8)), .ref (w.1 (i + 10)), .ref (w.1 (i + 12)), .int (σ i 5), .int (σ i 6), .int (σ i 7), .int (σ i 8), .int (σ i 9)].set 9 (.int v)) := (ce5 hk).trans (by simp [sf, va_up, upd])
theorem pt_X5_56 (hx : p.tables.exec = Jvm.exec) (hb : c.code = cc) (hts : ∀ x ∈ TB, x.before args s = true) (hown : s.vm.findClass RX5 = some m.cls) (hK : KN D w s) (hP : va_P D vwCl (WL w σ) H) (hJ : Inj w) (hS : va_S (AL w) H0 H locs) {i : Nat} (hi : i < 207) (hk : kd i = 5) {v : Int32} {σ' : Sg} (hg : some (sf σ i 9 v) = some σ') (hdg : decode cc pc = .ok (.putfield 56, 3)) (kk : ∀ (H : Heap) (locs : List Loc), va_P D vwCl (WL w σ') H → va_S (AL w) H0 H locs → W p l e R s m args below meth c H locs cells slots Q (F0 m (pc + 3) ls rest)) : W p l e R s m args below meth c H locs cells slots Q (F0 m pc ls (.int v :: .ref (w.1 (i)) :: rest)) := by
  cases hg
  exact q_put hx hb hts inT5 tyX5 tyX5_ok nmX5 hown hK hP hJ hS hi (ce5 hk) rfl 9 (by decide) rfl tw_151 rfl rfl rfl (Nat.le_of_ble_eq_true rfl) (fun j hj => sf_ne hj) (sfe_5_9 hk) hdg kk
theorem gt_X7_7 (hx : p.tables.exec = Jvm.exec) (hb : c.code = cc) (hts : ∀ x ∈ TB, x.before args s = true) (hown : s.vm.findClass RX7 = some m.cls) (hK : KN D w s) (hP : va_P D vwCl (WL w σ) H) (hdg : decode cc pc = .ok (.getfield 7, 3)) (kk : W p l e R s m args below meth c H locs cells slots Q (F0 m (pc + 3) ls (.ref (w.1 185) :: rest))) : W p l e R s m args below meth c H locs cells slots Q (F0 m pc ls (.ref (w.1 (184)) :: rest)) := q_get hx hb hts inT7 hown hK hP o184 (ce7 kd184) rfl 0 (by decide) rfl tw_863 rfl hdg kk
theorem gt_X7_13 (hx : p.tables.exec = Jvm.exec) (hb : c.code = cc) (hts : ∀ x ∈ TB, x.before args s = true) (hown : s.vm.findClass RX7 = some m.cls) (hK : KN D w s) (hP : va_P D vwCl (WL w σ) H) (hdg : decode cc pc = .ok (.getfield 13, 3)) (kk : W p l e R s m args below meth c H locs cells slots Q (F0 m (pc + 3) ls (.ref (w.1 186) :: rest))) : W p l e R s m args below meth c H locs cells slots Q (F0 m pc ls (.ref (w.1 (184)) :: rest)) := q_get hx hb hts inT7 hown hK hP o184 (ce7 kd184) rfl 2 (by decide) rfl tw_865 rfl hdg kk
theorem gt_X7_17 (hx : p.tables.exec = Jvm.exec) (hb : c.code = cc) (hts : ∀ x ∈ TB, x.before args s = true) (hown : s.vm.findClass RX7 = some m.cls) (hK : KN D w s) (hP : va_P D vwCl (WL w σ) H) (hdg : decode cc pc = .ok (.getfield 17, 3)) (kk : W p l e R s m args below meth c H locs cells slots Q (F0 m (pc + 3) ls (.ref (w.1 187) :: rest))) : W p l e R s m args below meth c H locs cells slots Q (F0 m pc ls (.ref (w.1 (184)) :: rest)) := q_get hx hb hts inT7 hown hK hP o184 (ce7 kd184) rfl 3 (by decide) rfl tw_866 rfl hdg kk
theorem gt_X7_20 (hx : p.tables.exec = Jvm.exec) (hb : c.code = cc) (hts : ∀ x ∈ TB, x.before args s = true) (hown : s.vm.findClass RX7 = some m.cls) (hK : KN D w s) (hP : va_P D vwCl (WL w σ) H) (hdg : decode cc pc = .ok (.getfield 20, 3)) (kk : W p l e R s m args below meth c H locs cells slots Q (F0 m (pc + 3) ls (.ref (w.1 188) :: rest))) : W p l e R s m args below meth c H locs cells slots Q (F0 m pc ls (.ref (w.1 (184)) :: rest)) := q_get hx hb hts inT7 hown hK hP o184 (ce7 kd184) rfl 4 (by decide) rfl tw_867 rfl hdg kk
theorem gt_X7_23 (hx : p.tables.exec = Jvm.exec) (hb : c.code = cc) (hts : ∀ x ∈ TB, x.before args s = true) (hown : s.vm.findClass RX7 = some m.cls) (hK : KN D w s) (hP : va_P D vwCl (WL w σ) H) (hdg : decode cc pc = .ok (.getfield 23, 3)) (kk : W p l e R s m args below meth c H locs cells slots Q (F0 m (pc + 3) ls (.ref (w.1 189) :: rest))) : W p l e R s m args below meth c H locs cells slots Q (F0 m pc ls (.ref (w.1 (184)) :: rest)) := q_get hx hb hts inT7 hown hK hP o184 (ce7 kd184) rfl 5 (by decide) rfl tw_868 rfl hdg kk
theorem gt_X7_26 (hx : p.tables.exec = Jvm.exec) (hb : c.code = cc) (hts : ∀ x ∈ TB, x.before args s = true) (hown : s.vm.findClass RX7 = some m.cls) (hK : KN D w s) (hP : va_P D vwCl (WL w σ) H) (hdg : decode cc pc = .ok (.getfield 26, 3)) (kk : W p l e R s m args below meth c H locs cells slots Q (F0 m (pc + 3) ls (.ref (w.1 190) :: rest))) : W p l e R s m args below meth c H locs cells slots Q (F0 m pc ls (.ref (w.1 (184)) :: rest)) := q_get hx hb hts inT7 hown hK hP o184 (ce7 kd184) rfl 6 (by decide) rfl tw_869 rfl hdg kk
theorem gt_X7_29 (hx : p.tables.exec = Jvm.exec) (hb : c.code = cc) (hts : ∀ x ∈ TB, x.before args s = true) (hown : s.vm.findClass RX7 = some m.cls) (hK : KN D w s) (hP : va_P D vwCl (WL w σ) H) (hdg : decode cc pc = .ok (.getfield 29, 3)) (kk : W p l e R s m args below meth c H locs cells slots Q (F0 m (pc + 3) ls (.ref (w.1 191) :: rest))) : W p l e R s m args below meth c H locs cells slots Q (F0 m pc ls (.ref (w.1 (184)) :: rest)) := q_get hx hb hts inT7 hown hK hP o184 (ce7 kd184) rfl 7 (by decide) rfl tw_870 rfl hdg kk
theorem gt_X7_32 (hx : p.tables.exec = Jvm.exec) (hb : c.code = cc) (hts : ∀ x ∈ TB, x.before args s = true) (hown : s.vm.findClass RX7 = some m.cls) (hK : KN D w s) (hP : va_P D vwCl (WL w σ) H) (hdg : decode cc pc = .ok (.getfield 32, 3)) (kk : W p l e R s m args below meth c H locs cells slots Q (F0 m (pc + 3) ls (.ref (w.1 192) :: rest))) : W p l e R s m args below meth c H locs cells slots Q (F0 m pc ls (.ref (w.1 (184)) :: rest)) := q_get hx hb hts inT7 hown hK hP o184 (ce7 kd184) rfl 8 (by decide) rfl tw_871 rfl hdg kk
theorem gt_X7_35 (hx : p.tables.exec = Jvm.exec) (hb : c.code = cc) (hts : ∀ x ∈ TB, x.before args s = true) (hown : s.vm.findClass RX7 = some m.cls) (hK : KN D w s) (hP : va_P D vwCl (WL w σ) H) (hdg : decode cc pc = .ok (.getfield 35, 3)) (kk : W p l e R s m args below meth c H locs cells slots Q (F0 m (pc + 3) ls (.ref (w.1 193) :: rest))) : W p l e R s m args below meth c H locs cells slots Q (F0 m pc ls (.ref (w.1 (184)) :: rest)) := q_get hx hb hts inT7 hown hK hP o184 (ce7 kd184) rfl 9 (by decide) rfl tw_872 rfl hdg kk
theorem gt_X7_38 (hx : p.tables.exec = Jvm.exec) (hb : c.code = cc) (hts : ∀ x ∈ TB, x.before args s = true) (hown : s.vm.findClass RX7 = some m.cls) (hK : KN D w s) (hP : va_P D vwCl (WL w σ) H) (hdg : decode cc pc = .ok (.getfield 38, 3)) (kk : W p l e R s m args below meth c H locs cells slots Q (F0 m (pc + 3) ls (.ref (w.1 194) :: rest))) : W p l e R s m args below meth c H locs cells slots Q (F0 m pc ls (.ref (w.1 (184)) :: rest)) := q_get hx hb hts inT7 hown hK hP o184 (ce7 kd184) rfl 10 (by decide) rfl tw_873 rfl hdg kk
theorem gt_X7_41 (hx : p.tables.exec = Jvm.exec) (hb : c.code = cc) (hts : ∀ x ∈ TB, x.before args s = true) (hown : s.vm.findClass RX7 = some m.cls) (hK : KN D w s) (hP : va_P D vwCl (WL w σ) H) (hdg : decode cc pc = .ok (.getfield 41, 3)) (kk : W p l e R s m args below meth c H locs cells slots Q (F0 m (pc + 3) ls (.ref (w.1 195) :: rest))) : W p l e R s m args below meth c H locs cells slots Q (F0 m pc ls (.ref (w.1 (184)) :: rest)) := q_get hx hb hts inT7 hown hK hP o184 (ce7 kd184) rfl 14 (by decide) rfl tw_877 rfl hdg kk
theorem gt_X7_44 (hx : p.tables.exec = Jvm.exec) (hb : c.code = cc) (hts : ∀ x ∈ TB, x.before args s = true) (hown : s.vm.findClass RX7 = some m.cls) (hK : KN D w s) (hP : va_P D vwCl (WL w σ) H) (hdg : decode cc pc = .ok (.getfield 44, 3)) (kk : W p l e R s m args below meth c H locs cells slots Q (F0 m (pc + 3) ls (.ref (w.1 196) :: rest))) : W p l e R s m args below meth c H locs cells slots Q (F0 m pc ls (.ref (w.1 (184)) :: rest)) := q_get hx hb hts inT7 hown hK hP o184 (ce7 kd184) rfl 15 (by decide) rfl tw_878 rfl hdg kk
theorem gt_X7_47 (hx : p.tables.exec = Jvm.exec) (hb : c.code = cc) (hts : ∀ x ∈ TB, x.before args s = true) (hown : s.vm.findClass RX7 = some m.cls) (hK : KN D w s) (hP : va_P D vwCl (WL w σ) H) (hdg : decode cc pc = .ok (.getfield 47, 3)) (kk : W p l e R s m args below meth c H locs cells slots Q (F0 m (pc + 3) ls (.ref (w.1 197) :: rest))) : W p l e R s m args below meth c H locs cells slots Q (F0 m pc ls (.ref (w.1 (184)) :: rest)) := q_get hx hb hts inT7 hown hK hP o184 (ce7 kd184) rfl 17 (by decide) rfl tw_880 rfl hdg kk
theorem gt_X7_50 (hx : p.tables.exec = Jvm.exec) (hb : c.code = cc) (hts : ∀ x ∈ TB, x.before args s = true) (hown : s.vm.findClass RX7 = some m.cls) (hK : KN D w s) (hP : va_P D vwCl (WL w σ) H) (hdg : decode cc pc = .ok (.getfield 50, 3)) (kk : W p l e R s m args below meth c H locs cells slots Q (F0 m (pc + 3) ls (.ref (w.1 198) :: rest))) : W p l e R s m args below meth c H locs cells slots Q (F0 m pc ls (.ref (w.1 (184)) :: rest)) := q_get hx hb hts inT7 hown hK hP o184 (ce7 kd184) rfl 19 (by decide) rfl tw_882 rfl hdg kk
theorem gt_X7_53 (hx : p.tables.exec = Jvm.exec) (hb : c.code = cc) (hts : ∀ x ∈ TB, x.before args s = true) (hown : s.vm.findClass RX7 = some m.cls) (hK : KN D w s) (hP : va_P D vwCl (WL w σ) H) (hdg : decode cc pc = .ok (.getfield 53, 3)) (kk : W p l e R s m args below meth c H locs cells slots Q (F0 m (pc + 3) ls (.ref (w.1 199) :: rest))) : W p l e R s m args below meth c H locs cells slots Q (F0 m pc ls (.ref (w.1 (184)) :: rest)) := q_get hx hb hts inT7 hown hK hP o184 (ce7 kd184) rfl 20 (by decide) rfl tw_883 rfl hdg kk
theorem gt_X7_56 (hx : p.tables.exec = Jvm.exec) (hb : c.code = cc) (hts : ∀ x ∈ TB, x.before args s = true) (hown : s.vm.findClass RX7 = some m.cls) (hK : KN D w s) (hP : va_P D vwCl (WL w σ) H) (hdg : decode cc pc = .ok (.getfield 56, 3)) (kk : W p l e R s m args below meth c H locs cells slots Q (F0 m (pc + 3) ls (.ref (w.1 200) :: rest))) : W p l e R s m args below meth c H locs cells slots Q (F0 m pc ls (.ref (w.1 (184)) :: rest)) := q_get hx hb hts inT7 hown hK hP o184 (ce7 kd184) rfl 24 (by decide) rfl tw_887 rfl hdg kk
theorem gt_X7_59 (hx : p.tables.exec = Jvm.exec) (hb : c.code = cc) (hts : ∀ x ∈ TB, x.before args s = true) (hown : s.vm.findClass RX7 = some m.cls) (hK : KN D w s) (hP : va_P D vwCl (WL w σ) H) (hdg : decode cc pc = .ok (.getfield 59, 3)) (kk : W p l e R s m args below meth c H locs cells slots Q (F0 m (pc + 3) ls (.ref (w.1 201) :: rest))) : W p l e R s m args below meth c H locs cells slots Q (F0 m pc ls (.ref (w.1 (184)) :: rest)) := q_get hx hb hts inT7 hown hK hP o184 (ce7 kd184) rfl 25 (by decide) rfl tw_888 rfl hdg kk
theorem gt_X7_62 (hx : p.tables.exec = Jvm.exec) (hb : c.code = cc) (hts : ∀ x ∈ TB, x.before args s = true) (hown : s.vm.findClass RX7 = some m.cls) (hK : KN D w s) (hP : va_P D vwCl (WL w σ) H) (hdg : decode cc pc = .ok (.getfield 62, 3)) (kk : W p l e R s m args below meth c H locs cells slots Q (F0 m (pc + 3) ls (.ref (w.1 202) :: rest))) : W p l e R s m args below meth c H locs cells slots Q (F0 m pc ls (.ref (w.1 (184)) :: rest)) := q_get hx hb hts inT7 hown hK hP o184 (ce7 kd184) rfl 26 (by decide) rfl tw_889 rfl hdg kk
theorem gt_X7_65 (hx : p.tables.exec = Jvm.exec) (hb : c.code = cc) (hts : ∀ x ∈ TB, x.before args s = true) (hown : s.vm.findClass RX7 = some m.cls) (hK : KN D w s) (hP : va_P D vwCl (WL w σ) H) (hdg : decode cc pc = .ok (.getfield 65, 3)) (kk : W p l e R s m args below meth c H locs cells slots Q (F0 m (pc + 3) ls (.ref (w.1 203) :: rest))) : W p l e R s m args below meth c H locs cells slots Q (F0 m pc ls (.ref (w.1 (184)) :: rest)) := q_get hx hb hts inT7 hown hK hP o184 (ce7 kd184) rfl 27 (by decide) rfl tw_890 rfl hdg kk
theorem gt_X7_68 (hx : p.tables.exec = Jvm.exec) (hb : c.code = cc) (hts : ∀ x ∈ TB, x.before args s = true) (hown : s.vm.findClass RX7 = some m.cls) (hK : KN D w s) (hP : va_P D vwCl (WL w σ) H) (hdg : decode cc pc = .ok (.getfield 68, 3)) (kk : W p l e R s m args below meth c H locs cells slots Q (F0 m (pc + 3) ls (.ref (w.1 204) :: rest))) : W p l e R s m args below meth c H locs cells slots Q (F0 m pc ls (.ref (w.1 (184)) :: rest)) := q_get hx hb hts inT7 hown hK hP o184 (ce7 kd184) rfl 29 (by decide) rfl tw_892 rfl hdg kk
theorem gt_X7_71 (hx : p.tables.exec = Jvm.exec) (hb : c.code = cc) (hts : ∀ x ∈ TB, x.before args s = true) (hown : s.vm.findClass RX7 = some m.cls) (hK : KN D w s) (hP : va_P D vwCl (WL w σ) H) (hdg : decode cc pc = .ok (.getfield 71, 3)) (kk : W p l e R s m args below meth c H locs cells slots Q (F0 m (pc + 3) ls (.ref (w.1 205) :: rest))) : W p l e R s m args below meth c H locs cells slots Q (F0 m pc ls (.ref (w.1 (184)) :: rest)) := q_get hx hb hts inT7 hown hK hP o184 (ce7 kd184) rfl 30 (by decide) rfl tw_893 rfl hdg kk
theorem gt_X7_74 (hx : p.tables.exec = Jvm.exec) (hb : c.code = cc) (hts : ∀ x ∈ TB, x.before args s = true) (hown : s.vm.findClass RX7 = some m.cls) (hK : KN D w s) (hP : va_P D vwCl (WL w σ) H) (hdg : decode cc pc = .ok (.getfield 74, 3)) (kk : W p l e R s m args below meth c H locs cells slots Q (F0 m (pc + 3) ls (.ref (w.1 206) :: rest))) : W p l e R s m args below meth c H locs cells slots Q (F0 m pc ls (.ref (w.1 (184)) :: rest)) := q_get hx hb hts inT7 hown hK hP o184 (ce7 kd184) rfl 31 (by decide) rfl tw_894 rfl hdg kk
theorem gt_X7_87 (hx : p.tables.exec = Jvm.exec) (hb : c.code = cc) (hts : ∀ x ∈ TB, x.before args s = true) (hown : s.vm.findClass RX7 = some m.cls) (hK : KN D w s) (hP : va_P D vwCl (WL w σ) H) (hdg : decode cc pc = .ok (.getfield 87, 3)) (kk : W p l e R s m args below meth c H locs cells slots Q (F0 m (pc + 3) ls (.int (σ 184 1) :: rest))) : W p l e R s m args below meth c H locs cells slots Q (F0 m pc ls (.ref (w.1 (184)) :: rest)) := q_get hx hb hts inT7 hown hK hP o184 (ce7 kd184) rfl 1 (by decide) rfl tw_864 rfl hdg kk
theorem sfe_7_1 {v : Int32} {i : Nat} (hk : kd i = 7) : ce w (sf σ i 1 v) i = .inr (7, [.ref (w.1 185), .int (σ i 1), .ref (w.1 186), .ref (w.1 187), .ref (w.1 188), .ref (w.1 189), .ref (w.1 190), .ref (w.1 191), .ref (w.1 192), .ref (w.1 193), .ref (w.1 194), .int (σ i 11), .int (σ i 12), .int (σ i 13), .ref (w.1 195), .ref (w.1 196), .int (σ i 16), .ref (w.1 197), .int (σ i 18), .ref (w.1 198), .ref (w.1 199), .int (σ i 21), .int (σ i 22), .int (σ i 23), .ref (w.1 200), .ref (w.1 201), .ref (w.1 202), .ref (w.1 203), .int (σ i 28), .ref (w.1 204), .ref (w.1 205), .ref (w.1 206), .int (σ i 32)].set 1 (.int v)) := (ce7 hk).trans (by simp [sf, va_up, upd])
theorem pt_X7_87 (hx : p.tables.exec = Jvm.exec) (hb : c.code = cc) (hts : ∀ x ∈ TB, x.before args s = true) (hown : s.vm.findClass RX7 = some m.cls) (hK : KN D w s) (hP : va_P D vwCl (WL w σ) H) (hJ : Inj w) (hS : va_S (AL w) H0 H locs) {v : Int32} {σ' : Sg} (hg : some (sf σ 184 1 v) = some σ') (hdg : decode cc pc = .ok (.putfield 87, 3)) (kk : ∀ (H : Heap) (locs : List Loc), va_P D vwCl (WL w σ') H → va_S (AL w) H0 H locs → W p l e R s m args below meth c H locs cells slots Q (F0 m (pc + 3) ls rest)) : W p l e R s m args below meth c H locs cells slots Q (F0 m pc ls (.int v :: .ref (w.1 (184)) :: rest)) := by
  cases hg
  exact q_put hx hb hts inT7 tyX7 tyX7_ok nmX7 hown hK hP hJ hS o184 (ce7 kd184) rfl 1 (by decide) rfl tw_864 rfl rfl rfl (Nat.le_of_ble_eq_true rfl) (fun j hj => sf_ne hj) (sfe_7_1 kd184) hdg kk
theorem gt_X7_91 (hx : p.tables.exec = Jvm.exec) (hb : c.code = cc) (hts : ∀ x ∈ TB, x.before args s = true) (hown : s.vm.findClass RX7 = some m.cls) (hK : KN D w s) (hP : va_P D vwCl (WL w σ) H) (hdg : decode cc pc = .ok (.getfield 91, 3)) (kk : W p l e R s m args below meth c H locs cells slots Q (F0 m (pc + 3) ls (.int (σ 184 11) :: rest))) : W p l e R s m args below meth c H locs cells slots Q (F0 m pc ls (.ref (w.1 (184)) :: rest)) := q_get hx hb hts inT7 hown hK hP o184 (ce7 kd184) rfl 11 (by decide) rfl tw_874 rfl hdg kk
theorem sfe_7_11 {v : Int32} {i : Nat} (hk : kd i = 7) : ce w (sf σ i 11 v) i = .inr (7, [.ref (w.1 185), .int (σ i 1), .ref (w.1 186), .ref (w.1 187), .ref (w.1 188), .ref (w.1 189), .ref (w.1 190), .ref (w.1 191), .ref (w.1 192), .ref (w.1 193), .ref (w.1 194), .int (σ i 11), .int (σ i 12), .int (σ i 13), .ref (w.1 195), .ref (w.1 196), .int (σ i 16), .ref (w.1 197), .int (σ i 18), .ref (w.1 198), .ref (w.1 199), .int (σ i 21), .int (σ i 22), .int (σ i 23), .ref (w.1 200), .ref (w.1 201), .ref (w.1 202), .ref (w.1 203), .int (σ i 28), .ref (w.1 204), .ref (w.1 205), .ref (w.1 206), .int (σ i 32)].set 11 (.int v)) := (ce7 hk).trans (by simp [sf, va_up, upd])
theorem pt_X7_91 (hx : p.tables.exec = Jvm.exec) (hb : c.code = cc) (hts : ∀ x ∈ TB, x.before args s = true) (hown : s.vm.findClass RX7 = some m.cls) (hK : KN D w s) (hP : va_P D vwCl (WL w σ) H) (hJ : Inj w) (hS : va_S (AL w) H0 H locs) {v : Int32} {σ' : Sg} (hg : some (sf σ 184 11 v) = some σ') (hdg : decode cc pc = .ok (.putfield 91, 3)) (kk : ∀ (H : Heap) (locs : List Loc), va_P D vwCl (WL w σ') H → va_S (AL w) H0 H locs → W p l e R s m args below meth c H locs cells slots Q (F0 m (pc + 3) ls rest)) : W p l e R s m args below meth c H locs cells slots Q (F0 m pc ls (.int v :: .ref (w.1 (184)) :: rest)) := by
  cases hg
  exact q_put hx hb hts inT7 tyX7 tyX7_ok nmX7 hown hK hP hJ hS o184 (ce7 kd184) rfl 11 (by decide) rfl tw_874 rfl rfl rfl (Nat.le_of_ble_eq_true rfl) (fun j hj => sf_ne hj) (sfe_7_11 kd184) hdg kk
theorem gt_X7_98 (hx : p.tables.exec = Jvm.exec) (hb : c.code = cc) (hts : ∀ x ∈ TB, x.before args s = true) (hown : s.vm.findClass RX7 = some m.cls) (hK : KN D w s) (hP : va_P D vwCl (WL w σ) H) (hdg : decode cc pc = .ok (.getfield 98, 3)) (kk : W p l e R s m args below meth c H locs cells slots Q (F0 m (pc + 3) ls (.int (σ 184 12) :: rest))) : W p l e R s m args below meth c H locs cells slots Q (F0 m pc ls (.ref (w.1 (184)) :: rest)) := q_get hx hb hts inT7 hown hK hP o184 (ce7 kd184) rfl 12 (by decide) rfl tw_875 rfl hdg kk
theorem sfe_7_12 {v : Int32} {i : Nat} (hk : kd i = 7) : ce w (sf σ i 12 v) i = .inr (7, [.ref (w.1 185), .int (σ i 1), .ref (w.1 186), .ref (w.1 187), .ref (w.1 188), .ref (w.1 189), .ref (w.1 190), .ref (w.1 191), .ref (w.1 192), .ref (w.1 193), .ref (w.1 194), .int (σ i 11), .int (σ i 12), .int (σ i 13), .ref (w.1 195), .ref (w.1 196), .int (σ i 16), .ref (w.1 197), .int (σ i 18), .ref (w.1 198), .ref (w.1 199), .int (σ i 21), .int (σ i 22), .int (σ i 23), .ref (w.1 200), .ref (w.1 201), .ref (w.1 202), .ref (w.1 203), .int (σ i 28), .ref (w.1 204), .ref (w.1 205), .ref (w.1 206), .int (σ i 32)].set 12 (.int v)) := (ce7 hk).trans (by simp [sf, va_up, upd])
theorem pt_X7_98 (hx : p.tables.exec = Jvm.exec) (hb : c.code = cc) (hts : ∀ x ∈ TB, x.before args s = true) (hown : s.vm.findClass RX7 = some m.cls) (hK : KN D w s) (hP : va_P D vwCl (WL w σ) H) (hJ : Inj w) (hS : va_S (AL w) H0 H locs) {v : Int32} {σ' : Sg} (hz : narrow .boolean (.int v) = .int v ∧ fits .boolean (.int v) = true) (hg : some (sf σ 184 12 v) = some σ') (hdg : decode cc pc = .ok (.putfield 98, 3)) (kk : ∀ (H : Heap) (locs : List Loc), va_P D vwCl (WL w σ') H → va_S (AL w) H0 H locs → W p l e R s m args below meth c H locs cells slots Q (F0 m (pc + 3) ls rest)) : W p l e R s m args below meth c H locs cells slots Q (F0 m pc ls (.int v :: .ref (w.1 (184)) :: rest)) := by
  cases hg
  exact q_put hx hb hts inT7 tyX7 tyX7_ok nmX7 hown hK hP hJ hS o184 (ce7 kd184) rfl 12 (by decide) rfl tw_875 rfl hz.1 hz.2 (Nat.le_of_ble_eq_true rfl) (fun j hj => sf_ne hj) (sfe_7_12 kd184) hdg kk
theorem gt_X7_114 (hx : p.tables.exec = Jvm.exec) (hb : c.code = cc) (hts : ∀ x ∈ TB, x.before args s = true) (hown : s.vm.findClass RX7 = some m.cls) (hK : KN D w s) (hP : va_P D vwCl (WL w σ) H) (hdg : decode cc pc = .ok (.getfield 114, 3)) (kk : W p l e R s m args below meth c H locs cells slots Q (F0 m (pc + 3) ls (.int (σ 184 13) :: rest))) : W p l e R s m args below meth c H locs cells slots Q (F0 m pc ls (.ref (w.1 (184)) :: rest)) := q_get hx hb hts inT7 hown hK hP o184 (ce7 kd184) rfl 13 (by decide) rfl tw_876 rfl hdg kk
theorem sfe_7_13 {v : Int32} {i : Nat} (hk : kd i = 7) : ce w (sf σ i 13 v) i = .inr (7, [.ref (w.1 185), .int (σ i 1), .ref (w.1 186), .ref (w.1 187), .ref (w.1 188), .ref (w.1 189), .ref (w.1 190), .ref (w.1 191), .ref (w.1 192), .ref (w.1 193), .ref (w.1 194), .int (σ i 11), .int (σ i 12), .int (σ i 13), .ref (w.1 195), .ref (w.1 196), .int (σ i 16), .ref (w.1 197), .int (σ i 18), .ref (w.1 198), .ref (w.1 199), .int (σ i 21), .int (σ i 22), .int (σ i 23), .ref (w.1 200), .ref (w.1 201), .ref (w.1 202), .ref (w.1 203), .int (σ i 28), .ref (w.1 204), .ref (w.1 205), .ref (w.1 206), .int (σ i 32)].set 13 (.int v)) := (ce7 hk).trans (by simp [sf, va_up, upd])
theorem pt_X7_114 (hx : p.tables.exec = Jvm.exec) (hb : c.code = cc) (hts : ∀ x ∈ TB, x.before args s = true) (hown : s.vm.findClass RX7 = some m.cls) (hK : KN D w s) (hP : va_P D vwCl (WL w σ) H) (hJ : Inj w) (hS : va_S (AL w) H0 H locs) {v : Int32} {σ' : Sg} (hg : some (sf σ 184 13 v) = some σ') (hdg : decode cc pc = .ok (.putfield 114, 3)) (kk : ∀ (H : Heap) (locs : List Loc), va_P D vwCl (WL w σ') H → va_S (AL w) H0 H locs → W p l e R s m args below meth c H locs cells slots Q (F0 m (pc + 3) ls rest)) : W p l e R s m args below meth c H locs cells slots Q (F0 m pc ls (.int v :: .ref (w.1 (184)) :: rest)) := by
  cases hg
  exact q_put hx hb hts inT7 tyX7 tyX7_ok nmX7 hown hK hP hJ hS o184 (ce7 kd184) rfl 13 (by decide) rfl tw_876 rfl rfl rfl (Nat.le_of_ble_eq_true rfl) (fun j hj => sf_ne hj) (sfe_7_13 kd184) hdg kk
theorem gt_X7_154 (hx : p.tables.exec = Jvm.exec) (hb : c.code = cc) (hts : ∀ x ∈ TB, x.before args s = true) (hown : s.vm.findClass RX7 = some m.cls) (hK : KN D w s) (hP : va_P D vwCl (WL w σ) H) (hdg : decode cc pc = .ok (.getfield 154, 3)) (kk : W p l e R s m args below meth c H locs cells slots Q (F0 m (pc + 3) ls (.int (σ 184 16) :: rest))) : W p l e R s m args below meth c H locs cells slots Q (F0 m pc ls (.ref (w.1 (184)) :: rest)) := q_get hx hb hts inT7 hown hK hP o184 (ce7 kd184) rfl 16 (by decide) rfl tw_879 rfl hdg kk
theorem sfe_7_16 {v : Int32} {i : Nat} (hk : kd i = 7) : ce w (sf σ i 16 v) i = .inr (7, [.ref (w.1 185), .int (σ i 1), .ref (w.1 186), .ref (w.1 187), .ref (w.1 188), .ref (w.1 189), .ref (w.1 190), .ref (w.1 191), .ref (w.1 192), .ref (w.1 193), .ref (w.1 194), .int (σ i 11), .int (σ i 12), .int (σ i 13), .ref (w.1 195), .ref (w.1 196), .int (σ i 16), .ref (w.1 197), .int (σ i 18), .ref (w.1 198), .ref (w.1 199), .int (σ i 21), .int (σ i 22), .int (σ i 23), .ref (w.1 200), .ref (w.1 201), .ref (w.1 202), .ref (w.1 203), .int (σ i 28), .ref (w.1 204), .ref (w.1 205), .ref (w.1 206), .int (σ i 32)].set 16 (.int v)) := (ce7 hk).trans (by simp [sf, va_up, upd])
theorem pt_X7_154 (hx : p.tables.exec = Jvm.exec) (hb : c.code = cc) (hts : ∀ x ∈ TB, x.before args s = true) (hown : s.vm.findClass RX7 = some m.cls) (hK : KN D w s) (hP : va_P D vwCl (WL w σ) H) (hJ : Inj w) (hS : va_S (AL w) H0 H locs) {v : Int32} {σ' : Sg} (hg : some (sf σ 184 16 v) = some σ') (hdg : decode cc pc = .ok (.putfield 154, 3)) (kk : ∀ (H : Heap) (locs : List Loc), va_P D vwCl (WL w σ') H → va_S (AL w) H0 H locs → W p l e R s m args below meth c H locs cells slots Q (F0 m (pc + 3) ls rest)) : W p l e R s m args below meth c H locs cells slots Q (F0 m pc ls (.int v :: .ref (w.1 (184)) :: rest)) := by
  cases hg
  exact q_put hx hb hts inT7 tyX7 tyX7_ok nmX7 hown hK hP hJ hS o184 (ce7 kd184) rfl 16 (by decide) rfl tw_879 rfl rfl rfl (Nat.le_of_ble_eq_true rfl) (fun j hj => sf_ne hj) (sfe_7_16 kd184) hdg kk
theorem gt_X7_157 (hx : p.tables.exec = Jvm.exec) (hb : c.code = cc) (hts : ∀ x ∈ TB, x.before args s = true) (hown : s.vm.findClass RX7 = some m.cls) (hK : KN D w s) (hP : va_P D vwCl (WL w σ) H) (hdg : decode cc pc = .ok (.getfield 157, 3)) (kk : W p l e R s m args below meth c H locs cells slots Q (F0 m (pc + 3) ls (.int (σ 184 18) :: rest))) : W p l e R s m args below meth c H locs cells slots Q (F0 m pc ls (.ref (w.1 (184)) :: rest)) := q_get hx hb hts inT7 hown hK hP o184 (ce7 kd184) rfl 18 (by decide) rfl tw_881 rfl hdg kk
theorem sfe_7_18 {v : Int32} {i : Nat} (hk : kd i = 7) : ce w (sf σ i 18 v) i = .inr (7, [.ref (w.1 185), .int (σ i 1), .ref (w.1 186), .ref (w.1 187), .ref (w.1 188), .ref (w.1 189), .ref (w.1 190), .ref (w.1 191), .ref (w.1 192), .ref (w.1 193), .ref (w.1 194), .int (σ i 11), .int (σ i 12), .int (σ i 13), .ref (w.1 195), .ref (w.1 196), .int (σ i 16), .ref (w.1 197), .int (σ i 18), .ref (w.1 198), .ref (w.1 199), .int (σ i 21), .int (σ i 22), .int (σ i 23), .ref (w.1 200), .ref (w.1 201), .ref (w.1 202), .ref (w.1 203), .int (σ i 28), .ref (w.1 204), .ref (w.1 205), .ref (w.1 206), .int (σ i 32)].set 18 (.int v)) := (ce7 hk).trans (by simp [sf, va_up, upd])
theorem pt_X7_157 (hx : p.tables.exec = Jvm.exec) (hb : c.code = cc) (hts : ∀ x ∈ TB, x.before args s = true) (hown : s.vm.findClass RX7 = some m.cls) (hK : KN D w s) (hP : va_P D vwCl (WL w σ) H) (hJ : Inj w) (hS : va_S (AL w) H0 H locs) {v : Int32} {σ' : Sg} (hg : some (sf σ 184 18 v) = some σ') (hdg : decode cc pc = .ok (.putfield 157, 3)) (kk : ∀ (H : Heap) (locs : List Loc), va_P D vwCl (WL w σ') H → va_S (AL w) H0 H locs → W p l e R s m args below meth c H locs cells slots Q (F0 m (pc + 3) ls rest)) : W p l e R s m args below meth c H locs cells slots Q (F0 m pc ls (.int v :: .ref (w.1 (184)) :: rest)) := by
  cases hg
  exact q_put hx hb hts inT7 tyX7 tyX7_ok nmX7 hown hK hP hJ hS o184 (ce7 kd184) rfl 18 (by decide) rfl tw_881 rfl rfl rfl (Nat.le_of_ble_eq_true rfl) (fun j hj => sf_ne hj) (sfe_7_18 kd184) hdg kk
theorem gt_X7_160 (hx : p.tables.exec = Jvm.exec) (hb : c.code = cc) (hts : ∀ x ∈ TB, x.before args s = true) (hown : s.vm.findClass RX7 = some m.cls) (hK : KN D w s) (hP : va_P D vwCl (WL w σ) H) (hdg : decode cc pc = .ok (.getfield 160, 3)) (kk : W p l e R s m args below meth c H locs cells slots Q (F0 m (pc + 3) ls (.int (σ 184 28) :: rest))) : W p l e R s m args below meth c H locs cells slots Q (F0 m pc ls (.ref (w.1 (184)) :: rest)) := q_get hx hb hts inT7 hown hK hP o184 (ce7 kd184) rfl 28 (by decide) rfl tw_891 rfl hdg kk
theorem sfe_7_28 {v : Int32} {i : Nat} (hk : kd i = 7) : ce w (sf σ i 28 v) i = .inr (7, [.ref (w.1 185), .int (σ i 1), .ref (w.1 186), .ref (w.1 187), .ref (w.1 188), .ref (w.1 189), .ref (w.1 190), .ref (w.1 191), .ref (w.1 192), .ref (w.1 193), .ref (w.1 194), .int (σ i 11), .int (σ i 12), .int (σ i 13), .ref (w.1 195), .ref (w.1 196), .int (σ i 16), .ref (w.1 197), .int (σ i 18), .ref (w.1 198), .ref (w.1 199), .int (σ i 21), .int (σ i 22), .int (σ i 23), .ref (w.1 200), .ref (w.1 201), .ref (w.1 202), .ref (w.1 203), .int (σ i 28), .ref (w.1 204), .ref (w.1 205), .ref (w.1 206), .int (σ i 32)].set 28 (.int v)) := (ce7 hk).trans (by simp [sf, va_up, upd])
theorem pt_X7_160 (hx : p.tables.exec = Jvm.exec) (hb : c.code = cc) (hts : ∀ x ∈ TB, x.before args s = true) (hown : s.vm.findClass RX7 = some m.cls) (hK : KN D w s) (hP : va_P D vwCl (WL w σ) H) (hJ : Inj w) (hS : va_S (AL w) H0 H locs) {v : Int32} {σ' : Sg} (hg : some (sf σ 184 28 v) = some σ') (hdg : decode cc pc = .ok (.putfield 160, 3)) (kk : ∀ (H : Heap) (locs : List Loc), va_P D vwCl (WL w σ') H → va_S (AL w) H0 H locs → W p l e R s m args below meth c H locs cells slots Q (F0 m (pc + 3) ls rest)) : W p l e R s m args below meth c H locs cells slots Q (F0 m pc ls (.int v :: .ref (w.1 (184)) :: rest)) := by
  cases hg
  exact q_put hx hb hts inT7 tyX7 tyX7_ok nmX7 hown hK hP hJ hS o184 (ce7 kd184) rfl 28 (by decide) rfl tw_891 rfl rfl rfl (Nat.le_of_ble_eq_true rfl) (fun j hj => sf_ne hj) (sfe_7_28 kd184) hdg kk
theorem gt_X7_163 (hx : p.tables.exec = Jvm.exec) (hb : c.code = cc) (hts : ∀ x ∈ TB, x.before args s = true) (hown : s.vm.findClass RX7 = some m.cls) (hK : KN D w s) (hP : va_P D vwCl (WL w σ) H) (hdg : decode cc pc = .ok (.getfield 163, 3)) (kk : W p l e R s m args below meth c H locs cells slots Q (F0 m (pc + 3) ls (.int (σ 184 32) :: rest))) : W p l e R s m args below meth c H locs cells slots Q (F0 m pc ls (.ref (w.1 (184)) :: rest)) := q_get hx hb hts inT7 hown hK hP o184 (ce7 kd184) rfl 32 (by decide) rfl tw_895 rfl hdg kk
theorem sfe_7_32 {v : Int32} {i : Nat} (hk : kd i = 7) : ce w (sf σ i 32 v) i = .inr (7, [.ref (w.1 185), .int (σ i 1), .ref (w.1 186), .ref (w.1 187), .ref (w.1 188), .ref (w.1 189), .ref (w.1 190), .ref (w.1 191), .ref (w.1 192), .ref (w.1 193), .ref (w.1 194), .int (σ i 11), .int (σ i 12), .int (σ i 13), .ref (w.1 195), .ref (w.1 196), .int (σ i 16), .ref (w.1 197), .int (σ i 18), .ref (w.1 198), .ref (w.1 199), .int (σ i 21), .int (σ i 22), .int (σ i 23), .ref (w.1 200), .ref (w.1 201), .ref (w.1 202), .ref (w.1 203), .int (σ i 28), .ref (w.1 204), .ref (w.1 205), .ref (w.1 206), .int (σ i 32)].set 32 (.int v)) := (ce7 hk).trans (by simp [sf, va_up, upd])
theorem pt_X7_163 (hx : p.tables.exec = Jvm.exec) (hb : c.code = cc) (hts : ∀ x ∈ TB, x.before args s = true) (hown : s.vm.findClass RX7 = some m.cls) (hK : KN D w s) (hP : va_P D vwCl (WL w σ) H) (hJ : Inj w) (hS : va_S (AL w) H0 H locs) {v : Int32} {σ' : Sg} (hg : some (sf σ 184 32 v) = some σ') (hdg : decode cc pc = .ok (.putfield 163, 3)) (kk : ∀ (H : Heap) (locs : List Loc), va_P D vwCl (WL w σ') H → va_S (AL w) H0 H locs → W p l e R s m args below meth c H locs cells slots Q (F0 m (pc + 3) ls rest)) : W p l e R s m args below meth c H locs cells slots Q (F0 m pc ls (.int v :: .ref (w.1 (184)) :: rest)) := by
  cases hg
  exact q_put hx hb hts inT7 tyX7 tyX7_ok nmX7 hown hK hP hJ hS o184 (ce7 kd184) rfl 32 (by decide) rfl tw_895 rfl rfl rfl (Nat.le_of_ble_eq_true rfl) (fun j hj => sf_ne hj) (sfe_7_32 kd184) hdg kk
theorem gt_X7_171 (hx : p.tables.exec = Jvm.exec) (hb : c.code = cc) (hts : ∀ x ∈ TB, x.before args s = true) (hown : s.vm.findClass RX7 = some m.cls) (hK : KN D w s) (hP : va_P D vwCl (WL w σ) H) (hdg : decode cc pc = .ok (.getfield 171, 3)) (kk : W p l e R s m args below meth c H locs cells slots Q (F0 m (pc + 3) ls (.int (σ 184 21) :: rest))) : W p l e R s m args below meth c H locs cells slots Q (F0 m pc ls (.ref (w.1 (184)) :: rest)) := q_get hx hb hts inT7 hown hK hP o184 (ce7 kd184) rfl 21 (by decide) rfl tw_884 rfl hdg kk
theorem sfe_7_21 {v : Int32} {i : Nat} (hk : kd i = 7) : ce w (sf σ i 21 v) i = .inr (7, [.ref (w.1 185), .int (σ i 1), .ref (w.1 186), .ref (w.1 187), .ref (w.1 188), .ref (w.1 189), .ref (w.1 190), .ref (w.1 191), .ref (w.1 192), .ref (w.1 193), .ref (w.1 194), .int (σ i 11), .int (σ i 12), .int (σ i 13), .ref (w.1 195), .ref (w.1 196), .int (σ i 16), .ref (w.1 197), .int (σ i 18), .ref (w.1 198), .ref (w.1 199), .int (σ i 21), .int (σ i 22), .int (σ i 23), .ref (w.1 200), .ref (w.1 201), .ref (w.1 202), .ref (w.1 203), .int (σ i 28), .ref (w.1 204), .ref (w.1 205), .ref (w.1 206), .int (σ i 32)].set 21 (.int v)) := (ce7 hk).trans (by simp [sf, va_up, upd])
theorem pt_X7_171 (hx : p.tables.exec = Jvm.exec) (hb : c.code = cc) (hts : ∀ x ∈ TB, x.before args s = true) (hown : s.vm.findClass RX7 = some m.cls) (hK : KN D w s) (hP : va_P D vwCl (WL w σ) H) (hJ : Inj w) (hS : va_S (AL w) H0 H locs) {v : Int32} {σ' : Sg} (hg : some (sf σ 184 21 v) = some σ') (hdg : decode cc pc = .ok (.putfield 171, 3)) (kk : ∀ (H : Heap) (locs : List Loc), va_P D vwCl (WL w σ') H → va_S (AL w) H0 H locs → W p l e R s m args below meth c H locs cells slots Q (F0 m (pc + 3) ls rest)) : W p l e R s m args below meth c H locs cells slots Q (F0 m pc ls (.int v :: .ref (w.1 (184)) :: rest)) := by
  cases hg
  exact q_put hx hb hts inT7 tyX7 tyX7_ok nmX7 hown hK hP hJ hS o184 (ce7 kd184) rfl 21 (by decide) rfl tw_884 rfl rfl rfl (Nat.le_of_ble_eq_true rfl) (fun j hj => sf_ne hj) (sfe_7_21 kd184) hdg kk
theorem gt_X7_181 (hx : p.tables.exec = Jvm.exec) (hb : c.code = cc) (hts : ∀ x ∈ TB, x.before args s = true) (hown : s.vm.findClass RX7 = some m.cls) (hK : KN D w s) (hP : va_P D vwCl (WL w σ) H) (hdg : decode cc pc = .ok (.getfield 181, 3)) (kk : W p l e R s m args below meth c H locs cells slots Q (F0 m (pc + 3) ls (.int (σ 184 23) :: rest))) : W p l e R s m args below meth c H locs cells slots Q (F0 m pc ls (.ref (w.1 (184)) :: rest)) := q_get hx hb hts inT7 hown hK hP o184 (ce7 kd184) rfl 23 (by decide) rfl tw_886 rfl hdg kk
theorem sfe_7_23 {v : Int32} {i : Nat} (hk : kd i = 7) : ce w (sf σ i 23 v) i = .inr (7, [.ref (w.1 185), .int (σ i 1), .ref (w.1 186), .ref (w.1 187), .ref (w.1 188), .ref (w.1 189), .ref (w.1 190), .ref (w.1 191), .ref (w.1 192), .ref (w.1 193), .ref (w.1 194), .int (σ i 11), .int (σ i 12), .int (σ i 13), .ref (w.1 195), .ref (w.1 196), .int (σ i 16), .ref (w.1 197), .int (σ i 18), .ref (w.1 198), .ref (w.1 199), .int (σ i 21), .int (σ i 22), .int (σ i 23), .ref (w.1 200), .ref (w.1 201), .ref (w.1 202), .ref (w.1 203), .int (σ i 28), .ref (w.1 204), .ref (w.1 205), .ref (w.1 206), .int (σ i 32)].set 23 (.int v)) := (ce7 hk).trans (by simp [sf, va_up, upd])
theorem pt_X7_181 (hx : p.tables.exec = Jvm.exec) (hb : c.code = cc) (hts : ∀ x ∈ TB, x.before args s = true) (hown : s.vm.findClass RX7 = some m.cls) (hK : KN D w s) (hP : va_P D vwCl (WL w σ) H) (hJ : Inj w) (hS : va_S (AL w) H0 H locs) {v : Int32} {σ' : Sg} (hz : narrow .boolean (.int v) = .int v ∧ fits .boolean (.int v) = true) (hg : some (sf σ 184 23 v) = some σ') (hdg : decode cc pc = .ok (.putfield 181, 3)) (kk : ∀ (H : Heap) (locs : List Loc), va_P D vwCl (WL w σ') H → va_S (AL w) H0 H locs → W p l e R s m args below meth c H locs cells slots Q (F0 m (pc + 3) ls rest)) : W p l e R s m args below meth c H locs cells slots Q (F0 m pc ls (.int v :: .ref (w.1 (184)) :: rest)) := by
  cases hg
  exact q_put hx hb hts inT7 tyX7 tyX7_ok nmX7 hown hK hP hJ hS o184 (ce7 kd184) rfl 23 (by decide) rfl tw_886 rfl hz.1 hz.2 (Nat.le_of_ble_eq_true rfl) (fun j hj => sf_ne hj) (sfe_7_23 kd184) hdg kk
theorem gt_X7_192 (hx : p.tables.exec = Jvm.exec) (hb : c.code = cc) (hts : ∀ x ∈ TB, x.before args s = true) (hown : s.vm.findClass RX7 = some m.cls) (hK : KN D w s) (hP : va_P D vwCl (WL w σ) H) (hdg : decode cc pc = .ok (.getfield 192, 3)) (kk : W p l e R s m args below meth c H locs cells slots Q (F0 m (pc + 3) ls (.int (σ 184 22) :: rest))) : W p l e R s m args below meth c H locs cells slots Q (F0 m pc ls (.ref (w.1 (184)) :: rest)) := q_get hx hb hts inT7 hown hK hP o184 (ce7 kd184) rfl 22 (by decide) rfl tw_885 rfl hdg kk
theorem sfe_7_22 {v : Int32} {i : Nat} (hk : kd i = 7) : ce w (sf σ i 22 v) i = .inr (7, [.ref (w.1 185), .int (σ i 1), .ref (w.1 186), .ref (w.1 187), .ref (w.1 188), .ref (w.1 189), .ref (w.1 190), .ref (w.1 191), .ref (w.1 192), .ref (w.1 193), .ref (w.1 194), .int (σ i 11), .int (σ i 12), .int (σ i 13), .ref (w.1 195), .ref (w.1 196), .int (σ i 16), .ref (w.1 197), .int (σ i 18), .ref (w.1 198), .ref (w.1 199), .int (σ i 21), .int (σ i 22), .int (σ i 23), .ref (w.1 200), .ref (w.1 201), .ref (w.1 202), .ref (w.1 203), .int (σ i 28), .ref (w.1 204), .ref (w.1 205), .ref (w.1 206), .int (σ i 32)].set 22 (.int v)) := (ce7 hk).trans (by simp [sf, va_up, upd])
theorem pt_X7_192 (hx : p.tables.exec = Jvm.exec) (hb : c.code = cc) (hts : ∀ x ∈ TB, x.before args s = true) (hown : s.vm.findClass RX7 = some m.cls) (hK : KN D w s) (hP : va_P D vwCl (WL w σ) H) (hJ : Inj w) (hS : va_S (AL w) H0 H locs) {v : Int32} {σ' : Sg} (hg : some (sf σ 184 22 v) = some σ') (hdg : decode cc pc = .ok (.putfield 192, 3)) (kk : ∀ (H : Heap) (locs : List Loc), va_P D vwCl (WL w σ') H → va_S (AL w) H0 H locs → W p l e R s m args below meth c H locs cells slots Q (F0 m (pc + 3) ls rest)) : W p l e R s m args below meth c H locs cells slots Q (F0 m pc ls (.int v :: .ref (w.1 (184)) :: rest)) := by
  cases hg
  exact q_put hx hb hts inT7 tyX7 tyX7_ok nmX7 hown hK hP hJ hS o184 (ce7 kd184) rfl 22 (by decide) rfl tw_885 rfl rfl rfl (Nat.le_of_ble_eq_true rfl) (fun j hj => sf_ne hj) (sfe_7_22 kd184) hdg kk
end GP
theorem hw_X1_27 : Cond.methodLink RX1 27 yX0_put ∈ TB ∧ Cond.instanceMethod yX0_put ∈ TB ∧ Cond.selects RX0 yX0_put yX0_put ∈ TB ∧ Cond.initialized RX0 ∈ TB ∧ Cond.code yX0_put cX0_put 5 none ∈ TB := ⟨tw_262, tw_263, tw_264, tw_56, tw_265⟩
theorem hw_X1_31 : Cond.methodLink RX1 31 yX5_clear ∈ TB ∧ Cond.instanceMethod yX5_clear ∈ TB ∧ Cond.selects RX5 yX5_clear yX5_clear ∈ TB ∧ Cond.initialized RX5 ∈ TB ∧ Cond.code yX5_clear cX5_clear 1 none ∈ TB := ⟨tw_270, tw_271, tw_272, tw_58, tw_273⟩
theorem hw_X1_39 : Cond.methodLink RX1 39 yX1_readItem ∈ TB ∧ Cond.instanceMethod yX1_readItem ∈ TB ∧ Cond.selects RX1 yX1_readItem yX1_readItem ∈ TB ∧ Cond.initialized RX1 ∈ TB ∧ Cond.code yX1_readItem cX1_readItem 7 (some .boolean) ∈ TB := ⟨tw_284, tw_286, tw_0, tw_55, tw_287⟩
theorem hw_X1_43 : Cond.methodLink RX1 43 yX1_letterHere ∈ TB ∧ Cond.instanceMethod yX1_letterHere ∈ TB ∧ Cond.selects RX1 yX1_letterHere yX1_letterHere ∈ TB ∧ Cond.initialized RX1 ∈ TB ∧ Cond.code yX1_letterHere cX1_letterHere 1 (some .int) ∈ TB := ⟨tw_288, tw_290, tw_1, tw_55, tw_291⟩
theorem hw_X1_47 : Cond.methodLink RX1 47 yX1_numbersBehind ∈ TB ∧ Cond.static yX1_numbersBehind ∈ TB ∧ Cond.initialized yX1_numbersBehind.cls ∈ TB ∧ Cond.code yX1_numbersBehind cX1_numbersBehind 1 (some .int) ∈ TB := ⟨tw_296, tw_297, tw_55, tw_298⟩
theorem hw_X1_51 : Cond.methodLink RX1 51 yX1_readNumbers ∈ TB ∧ Cond.instanceMethod yX1_readNumbers ∈ TB ∧ Cond.selects RX1 yX1_readNumbers yX1_readNumbers ∈ TB ∧ Cond.initialized RX1 ∈ TB ∧ Cond.code yX1_readNumbers cX1_readNumbers 5 (some .boolean) ∈ TB := ⟨tw_299, tw_301, tw_2, tw_55, tw_302⟩
theorem hw_X1_55 : Cond.methodLink RX1 55 yX0_at ∈ TB ∧ Cond.instanceMethod yX0_at ∈ TB ∧ Cond.selects RX0 yX0_at yX0_at ∈ TB ∧ Cond.initialized RX0 ∈ TB ∧ Cond.code yX0_at cX0_at 5 (some .int) ∈ TB := ⟨tw_292, tw_293, tw_294, tw_56, tw_295⟩
theorem hw_X1_59 : Cond.methodLink RX1 59 yX5_tellTowns ∈ TB ∧ Cond.instanceMethod yX5_tellTowns ∈ TB ∧ Cond.selects RX5 yX5_tellTowns yX5_tellTowns ∈ TB ∧ Cond.initialized RX5 ∈ TB ∧ Cond.code yX5_tellTowns cX5_tellTowns 2 (some .boolean) ∈ TB := ⟨tw_307, tw_308, tw_309, tw_58, tw_310⟩
theorem hw_X1_62 : Cond.methodLink RX1 62 yX5_tellRoad ∈ TB ∧ Cond.instanceMethod yX5_tellRoad ∈ TB ∧ Cond.selects RX5 yX5_tellRoad yX5_tellRoad ∈ TB ∧ Cond.initialized RX5 ∈ TB ∧ Cond.code yX5_tellRoad cX5_tellRoad 4 (some .boolean) ∈ TB := ⟨tw_311, tw_312, tw_313, tw_58, tw_314⟩
theorem hw_X1_66 : Cond.methodLink RX1 66 yX5_tellPost ∈ TB ∧ Cond.instanceMethod yX5_tellPost ∈ TB ∧ Cond.selects RX5 yX5_tellPost yX5_tellPost ∈ TB ∧ Cond.initialized RX5 ∈ TB ∧ Cond.code yX5_tellPost cX5_tellPost 5 (some .boolean) ∈ TB := ⟨tw_332, tw_333, tw_334, tw_58, tw_335⟩
theorem hw_X1_69 : Cond.methodLink RX1 69 yX5_tellWalker ∈ TB ∧ Cond.instanceMethod yX5_tellWalker ∈ TB ∧ Cond.selects RX5 yX5_tellWalker yX5_tellWalker ∈ TB ∧ Cond.initialized RX5 ∈ TB ∧ Cond.code yX5_tellWalker cX5_tellWalker 3 (some .boolean) ∈ TB := ⟨tw_337, tw_338, tw_339, tw_58, tw_340⟩
theorem hw_X1_73 : Cond.methodLink RX1 73 yX1_readFigure ∈ TB ∧ Cond.instanceMethod yX1_readFigure ∈ TB ∧ Cond.selects RX1 yX1_readFigure yX1_readFigure ∈ TB ∧ Cond.initialized RX1 ∈ TB ∧ Cond.code yX1_readFigure cX1_readFigure 2 (some .int) ∈ TB := ⟨tw_303, tw_305, tw_3, tw_55, tw_306⟩
theorem hw_X2_24 : Cond.methodLink RX2 24 yX0_at ∈ TB ∧ Cond.instanceMethod yX0_at ∈ TB ∧ Cond.selects RX0 yX0_at yX0_at ∈ TB ∧ Cond.initialized RX0 ∈ TB ∧ Cond.code yX0_at cX0_at 5 (some .int) ∈ TB := ⟨tw_706, tw_293, tw_294, tw_56, tw_295⟩
theorem hw_X2_28 : Cond.methodLink RX2 28 yX0_put ∈ TB ∧ Cond.instanceMethod yX0_put ∈ TB ∧ Cond.selects RX0 yX0_put yX0_put ∈ TB ∧ Cond.initialized RX0 ∈ TB ∧ Cond.code yX0_put cX0_put 5 none ∈ TB := ⟨tw_689, tw_263, tw_264, tw_56, tw_265⟩
theorem hw_X3_27 : Cond.methodLink RX3 27 yX0_become ∈ TB ∧ Cond.instanceMethod yX0_become ∈ TB ∧ Cond.selects RX0 yX0_become yX0_become ∈ TB ∧ Cond.initialized RX0 ∈ TB ∧ Cond.code yX0_become cX0_become 2 none ∈ TB := ⟨tw_426, tw_427, tw_428, tw_56, tw_429⟩
theorem hw_X3_40 : Cond.methodLink RX3 40 yX0_fill ∈ TB ∧ Cond.instanceMethod yX0_fill ∈ TB ∧ Cond.selects RX0 yX0_fill yX0_fill ∈ TB ∧ Cond.initialized RX0 ∈ TB ∧ Cond.code yX0_fill cX0_fill 3 none ∈ TB := ⟨tw_280, tw_281, tw_282, tw_56, tw_283⟩
theorem hw_X3_44 : Cond.methodLink RX3 44 yX3_set ∈ TB ∧ Cond.instanceMethod yX3_set ∈ TB ∧ Cond.selects RX3 yX3_set yX3_set ∈ TB ∧ Cond.initialized RX3 ∈ TB ∧ Cond.code yX3_set cX3_set 4 none ∈ TB := ⟨tw_578, tw_328, tw_329, tw_59, tw_330⟩
theorem hw_X3_48 : Cond.methodLink RX3 48 yX3_survey ∈ TB ∧ Cond.instanceMethod yX3_survey ∈ TB ∧ Cond.selects RX3 yX3_survey yX3_survey ∈ TB ∧ Cond.initialized RX3 ∈ TB ∧ Cond.code yX3_survey cX3_survey 4 none ∈ TB := ⟨tw_579, tw_346, tw_347, tw_59, tw_348⟩
theorem hw_X3_51 : Cond.methodLink RX3 51 yX0_put ∈ TB ∧ Cond.instanceMethod yX0_put ∈ TB ∧ Cond.selects RX0 yX0_put yX0_put ∈ TB ∧ Cond.initialized RX0 ∈ TB ∧ Cond.code yX0_put cX0_put 5 none ∈ TB := ⟨tw_331, tw_263, tw_264, tw_56, tw_265⟩
theorem hw_X3_54 : Cond.methodLink RX3 54 yX0_at ∈ TB ∧ Cond.instanceMethod yX0_at ∈ TB ∧ Cond.selects RX0 yX0_at yX0_at ∈ TB ∧ Cond.initialized RX0 ∈ TB ∧ Cond.code yX0_at cX0_at 5 (some .int) ∈ TB := ⟨tw_349, tw_293, tw_294, tw_56, tw_295⟩
theorem hw_X3_57 : Cond.methodLink RX3 57 yX3_shorten ∈ TB ∧ Cond.instanceMethod yX3_shorten ∈ TB ∧ Cond.selects RX3 yX3_shorten yX3_shorten ∈ TB ∧ Cond.initialized RX3 ∈ TB ∧ Cond.code yX3_shorten cX3_shorten 7 none ∈ TB := ⟨tw_350, tw_352, tw_4, tw_59, tw_353⟩
theorem hw_X4_34 : Cond.methodLink RX4 34 yX5_become ∈ TB ∧ Cond.instanceMethod yX5_become ∈ TB ∧ Cond.selects RX5 yX5_become yX5_become ∈ TB ∧ Cond.initialized RX5 ∈ TB ∧ Cond.code yX5_become cX5_become 2 none ∈ TB := ⟨tw_535, tw_419, tw_420, tw_58, tw_421⟩
theorem hw_X5_102 : Cond.methodLink RX5 102 yX5_turnsOf ∈ TB ∧ Cond.instanceMethod yX5_turnsOf ∈ TB ∧ Cond.selects RX5 yX5_turnsOf yX5_turnsOf ∈ TB ∧ Cond.initialized RX5 ∈ TB ∧ Cond.code yX5_turnsOf cX5_turnsOf 3 (some .int) ∈ TB := ⟨tw_492, tw_494, tw_5, tw_58, tw_495⟩
theorem hw_X5_105 : Cond.methodLink RX5 105 yX3_turned ∈ TB ∧ Cond.instanceMethod yX3_turned ∈ TB ∧ Cond.selects RX3 yX3_turned yX3_turned ∈ TB ∧ Cond.initialized RX3 ∈ TB ∧ Cond.code yX3_turned cX3_turned 5 (some .int) ∈ TB := ⟨tw_499, tw_500, tw_501, tw_59, tw_502⟩
theorem hw_X5_108 : Cond.methodLink RX5 108 yX5_stepFrom ∈ TB ∧ Cond.instanceMethod yX5_stepFrom ∈ TB ∧ Cond.selects RX5 yX5_stepFrom yX5_stepFrom ∈ TB ∧ Cond.initialized RX5 ∈ TB ∧ Cond.code yX5_stepFrom cX5_stepFrom 5 (some .int) ∈ TB := ⟨tw_540, tw_542, tw_6, tw_58, tw_543⟩
theorem hw_X5_111 : Cond.methodLink RX5 111 yX5_lowestPostIn ∈ TB ∧ Cond.instanceMethod yX5_lowestPostIn ∈ TB ∧ Cond.selects RX5 yX5_lowestPostIn yX5_lowestPostIn ∈ TB ∧ Cond.initialized RX5 ∈ TB ∧ Cond.code yX5_lowestPostIn cX5_lowestPostIn 3 (some .int) ∈ TB := ⟨tw_544, tw_545, tw_546, tw_58, tw_547⟩
theorem hw_X5_114 : Cond.methodLink RX5 114 yX3_nearest ∈ TB ∧ Cond.instanceMethod yX3_nearest ∈ TB ∧ Cond.selects RX3 yX3_nearest yX3_nearest ∈ TB ∧ Cond.initialized RX3 ∈ TB ∧ Cond.code yX3_nearest cX3_nearest 6 (some .int) ∈ TB := ⟨tw_548, tw_549, tw_550, tw_59, tw_551⟩
theorem hw_X5_117 : Cond.methodLink RX5 117 yX5_pointing ∈ TB ∧ Cond.instanceMethod yX5_pointing ∈ TB ∧ Cond.selects RX5 yX5_pointing yX5_pointing ∈ TB ∧ Cond.initialized RX5 ∈ TB ∧ Cond.code yX5_pointing cX5_pointing 7 (some .int) ∈ TB := ⟨tw_552, tw_489, tw_490, tw_58, tw_491⟩
theorem hw_X5_120 : Cond.methodLink RX5 120 yX3_between ∈ TB ∧ Cond.instanceMethod yX3_between ∈ TB ∧ Cond.selects RX3 yX3_between yX3_between ∈ TB ∧ Cond.initialized RX3 ∈ TB ∧ Cond.code yX3_between cX3_between 3 (some .int) ∈ TB := ⟨tw_553, tw_452, tw_453, tw_59, tw_454⟩
theorem hw_X5_123 : Cond.methodLink RX5 123 yX5_retirePost ∈ TB ∧ Cond.instanceMethod yX5_retirePost ∈ TB ∧ Cond.selects RX5 yX5_retirePost yX5_retirePost ∈ TB ∧ Cond.initialized RX5 ∈ TB ∧ Cond.code yX5_retirePost cX5_retirePost 3 none ∈ TB := ⟨tw_566, tw_567, tw_568, tw_58, tw_569⟩
theorem hw_X5_126 : Cond.methodLink RX5 126 yX3_firstStep ∈ TB ∧ Cond.instanceMethod yX3_firstStep ∈ TB ∧ Cond.selects RX3 yX3_firstStep yX3_firstStep ∈ TB ∧ Cond.initialized RX3 ∈ TB ∧ Cond.code yX3_firstStep cX3_firstStep 7 (some .int) ∈ TB := ⟨tw_359, tw_360, tw_361, tw_59, tw_362⟩
theorem hw_X5_129 : Cond.methodLink RX5 129 yX3_pathMiles ∈ TB ∧ Cond.instanceMethod yX3_pathMiles ∈ TB ∧ Cond.selects RX3 yX3_pathMiles yX3_pathMiles ∈ TB ∧ Cond.initialized RX3 ∈ TB ∧ Cond.code yX3_pathMiles cX3_pathMiles 3 (some .int) ∈ TB := ⟨tw_363, tw_364, tw_365, tw_59, tw_366⟩
theorem hw_X5_36 : Cond.methodLink RX5 36 yX3_become ∈ TB ∧ Cond.instanceMethod yX3_become ∈ TB ∧ Cond.selects RX3 yX3_become yX3_become ∈ TB ∧ Cond.initialized RX3 ∈ TB ∧ Cond.code yX3_become cX3_become 2 none ∈ TB := ⟨tw_422, tw_423, tw_424, tw_59, tw_425⟩
theorem hw_X5_40 : Cond.methodLink RX5 40 yX0_become ∈ TB ∧ Cond.instanceMethod yX0_become ∈ TB ∧ Cond.selects RX0 yX0_become yX0_become ∈ TB ∧ Cond.initialized RX0 ∈ TB ∧ Cond.code yX0_become cX0_become 2 none ∈ TB := ⟨tw_433, tw_427, tw_428, tw_56, tw_429⟩
theorem hw_X5_59 : Cond.methodLink RX5 59 yX3_clear ∈ TB ∧ Cond.instanceMethod yX3_clear ∈ TB ∧ Cond.selects RX3 yX3_clear yX3_clear ∈ TB ∧ Cond.initialized RX3 ∈ TB ∧ Cond.code yX3_clear cX3_clear 2 none ∈ TB := ⟨tw_274, tw_275, tw_276, tw_59, tw_277⟩
theorem hw_X5_63 : Cond.methodLink RX5 63 yX5_areTwoTowns ∈ TB ∧ Cond.instanceMethod yX5_areTwoTowns ∈ TB ∧ Cond.selects RX5 yX5_areTwoTowns yX5_areTwoTowns ∈ TB ∧ Cond.initialized RX5 ∈ TB ∧ Cond.code yX5_areTwoTowns cX5_areTwoTowns 3 (some .boolean) ∈ TB := ⟨tw_315, tw_316, tw_317, tw_58, tw_318⟩
theorem hw_X5_67 : Cond.methodLink RX5 67 yX3_set ∈ TB ∧ Cond.instanceMethod yX3_set ∈ TB ∧ Cond.selects RX3 yX3_set yX3_set ∈ TB ∧ Cond.initialized RX3 ∈ TB ∧ Cond.code yX3_set cX3_set 4 none ∈ TB := ⟨tw_327, tw_328, tw_329, tw_59, tw_330⟩
theorem hw_X5_71 : Cond.methodLink RX5 71 yX5_isTown ∈ TB ∧ Cond.instanceMethod yX5_isTown ∈ TB ∧ Cond.selects RX5 yX5_isTown yX5_isTown ∈ TB ∧ Cond.initialized RX5 ∈ TB ∧ Cond.code yX5_isTown cX5_isTown 2 (some .boolean) ∈ TB := ⟨tw_319, tw_320, tw_321, tw_58, tw_322⟩
theorem hw_X5_75 : Cond.methodLink RX5 75 yX0_put ∈ TB ∧ Cond.instanceMethod yX0_put ∈ TB ∧ Cond.selects RX0 yX0_put yX0_put ∈ TB ∧ Cond.initialized RX0 ∈ TB ∧ Cond.code yX0_put cX0_put 5 none ∈ TB := ⟨tw_336, tw_263, tw_264, tw_56, tw_265⟩
theorem hw_X5_78 : Cond.methodLink RX5 78 yX3_survey ∈ TB ∧ Cond.instanceMethod yX3_survey ∈ TB ∧ Cond.selects RX3 yX3_survey yX3_survey ∈ TB ∧ Cond.initialized RX3 ∈ TB ∧ Cond.code yX3_survey cX3_survey 4 none ∈ TB := ⟨tw_345, tw_346, tw_347, tw_59, tw_348⟩
theorem hw_X5_81 : Cond.methodLink RX5 81 yX5_paintPost ∈ TB ∧ Cond.instanceMethod yX5_paintPost ∈ TB ∧ Cond.selects RX5 yX5_paintPost yX5_paintPost ∈ TB ∧ Cond.initialized RX5 ∈ TB ∧ Cond.code yX5_paintPost cX5_paintPost 6 (some .int) ∈ TB := ⟨tw_354, tw_355, tw_356, tw_58, tw_357⟩
theorem hw_X5_85 : Cond.methodLink RX5 85 yX3_towns ∈ TB ∧ Cond.instanceMethod yX3_towns ∈ TB ∧ Cond.selects RX3 yX3_towns yX3_towns ∈ TB ∧ Cond.initialized RX3 ∈ TB ∧ Cond.code yX3_towns cX3_towns 1 (some .int) ∈ TB := ⟨tw_323, tw_324, tw_325, tw_59, tw_326⟩
theorem hw_X5_89 : Cond.methodLink RX5 89 yX0_at ∈ TB ∧ Cond.instanceMethod yX0_at ∈ TB ∧ Cond.selects RX0 yX0_at yX0_at ∈ TB ∧ Cond.initialized RX0 ∈ TB ∧ Cond.code yX0_at cX0_at 5 (some .int) ∈ TB := ⟨tw_358, tw_293, tw_294, tw_56, tw_295⟩
theorem hw_X5_93 : Cond.static yX6_hasBit ∈ TB ∧ Cond.initialized yX6_hasBit.cls ∈ TB ∧ Cond.code yX6_hasBit cX6_hasBit 2 (some .boolean) ∈ TB := ⟨tw_497, tw_54, tw_498⟩
theorem hw_X5_96 : Cond.methodLink RX5 96 yX5_isRetired ∈ TB ∧ Cond.instanceMethod yX5_isRetired ∈ TB ∧ Cond.selects RX5 yX5_isRetired yX5_isRetired ∈ TB ∧ Cond.initialized RX5 ∈ TB ∧ Cond.code yX5_isRetired cX5_isRetired 2 (some .boolean) ∈ TB := ⟨tw_562, tw_563, tw_564, tw_58, tw_565⟩
theorem hw_X5_99 : Cond.methodLink RX5 99 yX5_hasCome ∈ TB ∧ Cond.instanceMethod yX5_hasCome ∈ TB ∧ Cond.selects RX5 yX5_hasCome yX5_hasCome ∈ TB ∧ Cond.initialized RX5 ∈ TB ∧ Cond.code yX5_hasCome cX5_hasCome 2 (some .boolean) ∈ TB := ⟨tw_644, tw_520, tw_521, tw_58, tw_522⟩
theorem hw_X6_101 : Cond.methodLink RX6 101 yX5_isPost ∈ TB ∧ Cond.instanceMethod yX5_isPost ∈ TB ∧ Cond.selects RX5 yX5_isPost yX5_isPost ∈ TB ∧ Cond.initialized RX5 ∈ TB ∧ Cond.code yX5_isPost cX5_isPost 2 (some .boolean) ∈ TB := ⟨tw_459, tw_460, tw_461, tw_58, tw_462⟩
theorem hw_X6_105 : Cond.methodLink RX6 105 yX5_kindOf ∈ TB ∧ Cond.instanceMethod yX5_kindOf ∈ TB ∧ Cond.selects RX5 yX5_kindOf yX5_kindOf ∈ TB ∧ Cond.initialized RX5 ∈ TB ∧ Cond.code yX5_kindOf cX5_kindOf 2 (some .int) ∈ TB := ⟨tw_463, tw_464, tw_465, tw_58, tw_466⟩
theorem hw_X6_108 : Cond.methodLink RX6 108 yX5_townOf ∈ TB ∧ Cond.instanceMethod yX5_townOf ∈ TB ∧ Cond.selects RX5 yX5_townOf yX5_townOf ∈ TB ∧ Cond.initialized RX5 ∈ TB ∧ Cond.code yX5_townOf cX5_townOf 2 (some .int) ∈ TB := ⟨tw_467, tw_468, tw_469, tw_58, tw_470⟩
theorem hw_X6_111 : Cond.methodLink RX6 111 yX5_ageOf ∈ TB ∧ Cond.instanceMethod yX5_ageOf ∈ TB ∧ Cond.selects RX5 yX5_ageOf yX5_ageOf ∈ TB ∧ Cond.initialized RX5 ∈ TB ∧ Cond.code yX5_ageOf cX5_ageOf 2 (some .int) ∈ TB := ⟨tw_471, tw_472, tw_473, tw_58, tw_474⟩
theorem hw_X6_114 : Cond.methodLink RX6 114 yX5_isTown ∈ TB ∧ Cond.instanceMethod yX5_isTown ∈ TB ∧ Cond.selects RX5 yX5_isTown yX5_isTown ∈ TB ∧ Cond.initialized RX5 ∈ TB ∧ Cond.code yX5_isTown cX5_isTown 2 (some .boolean) ∈ TB := ⟨tw_479, tw_320, tw_321, tw_58, tw_322⟩
theorem hw_X6_117 : Cond.methodLink RX6 117 yX5_armOf ∈ TB ∧ Cond.instanceMethod yX5_armOf ∈ TB ∧ Cond.selects RX5 yX5_armOf yX5_armOf ∈ TB ∧ Cond.initialized RX5 ∈ TB ∧ Cond.code yX5_armOf cX5_armOf 3 (some .int) ∈ TB := ⟨tw_480, tw_481, tw_482, tw_58, tw_483⟩
theorem hw_X6_120 : Cond.methodLink RX6 120 yX5_milesOf ∈ TB ∧ Cond.instanceMethod yX5_milesOf ∈ TB ∧ Cond.selects RX5 yX5_milesOf yX5_milesOf ∈ TB ∧ Cond.initialized RX5 ∈ TB ∧ Cond.code yX5_milesOf cX5_milesOf 3 (some .int) ∈ TB := ⟨tw_484, tw_485, tw_486, tw_58, tw_487⟩
theorem hw_X6_123 : Cond.methodLink RX6 123 yX5_pointing ∈ TB ∧ Cond.instanceMethod yX5_pointing ∈ TB ∧ Cond.selects RX5 yX5_pointing yX5_pointing ∈ TB ∧ Cond.initialized RX5 ∈ TB ∧ Cond.code yX5_pointing cX5_pointing 7 (some .int) ∈ TB := ⟨tw_488, tw_489, tw_490, tw_58, tw_491⟩
theorem hw_X6_126 : Cond.methodLink RX6 126 yX5_isWalker ∈ TB ∧ Cond.instanceMethod yX5_isWalker ∈ TB ∧ Cond.selects RX5 yX5_isWalker yX5_isWalker ∈ TB ∧ Cond.initialized RX5 ∈ TB ∧ Cond.code yX5_isWalker cX5_isWalker 2 (some .boolean) ∈ TB := ⟨tw_507, tw_508, tw_509, tw_58, tw_510⟩
theorem hw_X6_129 : Cond.methodLink RX6 129 yX5_placeOf ∈ TB ∧ Cond.instanceMethod yX5_placeOf ∈ TB ∧ Cond.selects RX5 yX5_placeOf yX5_placeOf ∈ TB ∧ Cond.initialized RX5 ∈ TB ∧ Cond.code yX5_placeOf cX5_placeOf 2 (some .int) ∈ TB := ⟨tw_511, tw_512, tw_513, tw_58, tw_514⟩
theorem hw_X6_132 : Cond.methodLink RX6 132 yX5_goalOf ∈ TB ∧ Cond.instanceMethod yX5_goalOf ∈ TB ∧ Cond.selects RX5 yX5_goalOf yX5_goalOf ∈ TB ∧ Cond.initialized RX5 ∈ TB ∧ Cond.code yX5_goalOf cX5_goalOf 2 (some .int) ∈ TB := ⟨tw_515, tw_516, tw_517, tw_58, tw_518⟩
theorem hw_X6_135 : Cond.methodLink RX6 135 yX5_hasCome ∈ TB ∧ Cond.instanceMethod yX5_hasCome ∈ TB ∧ Cond.selects RX5 yX5_hasCome yX5_hasCome ∈ TB ∧ Cond.initialized RX5 ∈ TB ∧ Cond.code yX5_hasCome cX5_hasCome 2 (some .boolean) ∈ TB := ⟨tw_519, tw_520, tw_521, tw_58, tw_522⟩
theorem hw_X6_138 : Cond.methodLink RX6 138 yX5_hour ∈ TB ∧ Cond.instanceMethod yX5_hour ∈ TB ∧ Cond.selects RX5 yX5_hour yX5_hour ∈ TB ∧ Cond.initialized RX5 ∈ TB ∧ Cond.code yX5_hour cX5_hour 1 (some .int) ∈ TB := ⟨tw_527, tw_528, tw_529, tw_58, tw_530⟩
theorem hw_X6_141 : Cond.methodLink RX6 141 yX4_setAside ∈ TB ∧ Cond.instanceMethod yX4_setAside ∈ TB ∧ Cond.selects RX4 yX4_setAside yX4_setAside ∈ TB ∧ Cond.initialized RX4 ∈ TB ∧ Cond.code yX4_setAside cX4_setAside 3 none ∈ TB := ⟨tw_531, tw_532, tw_533, tw_60, tw_534⟩
theorem hw_X6_144 : Cond.methodLink RX6 144 yX5_passHours ∈ TB ∧ Cond.instanceMethod yX5_passHours ∈ TB ∧ Cond.selects RX5 yX5_passHours yX5_passHours ∈ TB ∧ Cond.initialized RX5 ∈ TB ∧ Cond.code yX5_passHours cX5_passHours 6 none ∈ TB := ⟨tw_536, tw_537, tw_538, tw_58, tw_539⟩
theorem hw_X6_147 : Cond.methodLink RX6 147 yX5_passYear ∈ TB ∧ Cond.instanceMethod yX5_passYear ∈ TB ∧ Cond.selects RX5 yX5_passYear yX5_passYear ∈ TB ∧ Cond.initialized RX5 ∈ TB ∧ Cond.code yX5_passYear cX5_passYear 4 (some .int) ∈ TB := ⟨tw_558, tw_559, tw_560, tw_58, tw_561⟩
theorem hw_X6_150 : Cond.methodLink RX6 150 yX3_change ∈ TB ∧ Cond.instanceMethod yX3_change ∈ TB ∧ Cond.selects RX3 yX3_change yX3_change ∈ TB ∧ Cond.initialized RX3 ∈ TB ∧ Cond.code yX3_change cX3_change 4 none ∈ TB := ⟨tw_574, tw_575, tw_576, tw_59, tw_577⟩
theorem hw_X6_154 : Cond.methodLink RX6 154 yX5_isRetired ∈ TB ∧ Cond.instanceMethod yX5_isRetired ∈ TB ∧ Cond.selects RX5 yX5_isRetired yX5_isRetired ∈ TB ∧ Cond.initialized RX5 ∈ TB ∧ Cond.code yX5_isRetired cX5_isRetired 2 (some .boolean) ∈ TB := ⟨tw_584, tw_563, tw_564, tw_58, tw_565⟩
theorem hw_X6_157 : Cond.methodLink RX6 157 yX5_paintPost ∈ TB ∧ Cond.instanceMethod yX5_paintPost ∈ TB ∧ Cond.selects RX5 yX5_paintPost yX5_paintPost ∈ TB ∧ Cond.initialized RX5 ∈ TB ∧ Cond.code yX5_paintPost cX5_paintPost 6 (some .int) ∈ TB := ⟨tw_585, tw_355, tw_356, tw_58, tw_357⟩
theorem hw_X6_160 : Cond.methodLink RX6 160 yX5_movePost ∈ TB ∧ Cond.instanceMethod yX5_movePost ∈ TB ∧ Cond.selects RX5 yX5_movePost yX5_movePost ∈ TB ∧ Cond.initialized RX5 ∈ TB ∧ Cond.code yX5_movePost cX5_movePost 3 none ∈ TB := ⟨tw_590, tw_591, tw_592, tw_58, tw_593⟩
theorem hw_X6_164 : Cond.methodLink RX6 164 yX5_retirePost ∈ TB ∧ Cond.instanceMethod yX5_retirePost ∈ TB ∧ Cond.selects RX5 yX5_retirePost yX5_retirePost ∈ TB ∧ Cond.initialized RX5 ∈ TB ∧ Cond.code yX5_retirePost cX5_retirePost 3 none ∈ TB := ⟨tw_598, tw_567, tw_568, tw_58, tw_569⟩
theorem hw_X6_167 : Cond.methodLink RX6 167 yX4_giveBack ∈ TB ∧ Cond.instanceMethod yX4_giveBack ∈ TB ∧ Cond.selects RX4 yX4_giveBack yX4_giveBack ∈ TB ∧ Cond.initialized RX4 ∈ TB ∧ Cond.code yX4_giveBack cX4_giveBack 4 (some .boolean) ∈ TB := ⟨tw_603, tw_604, tw_605, tw_60, tw_606⟩
theorem hw_X6_171 : Cond.methodLink RX6 171 yX4_held ∈ TB ∧ Cond.instanceMethod yX4_held ∈ TB ∧ Cond.selects RX4 yX4_held yX4_held ∈ TB ∧ Cond.initialized RX4 ∈ TB ∧ Cond.code yX4_held cX4_held 1 (some .int) ∈ TB := ⟨tw_607, tw_608, tw_609, tw_60, tw_610⟩
theorem hw_X6_174 : Cond.methodLink RX6 174 yX5_towns ∈ TB ∧ Cond.instanceMethod yX5_towns ∈ TB ∧ Cond.selects RX5 yX5_towns yX5_towns ∈ TB ∧ Cond.initialized RX5 ∈ TB ∧ Cond.code yX5_towns cX5_towns 1 (some .int) ∈ TB := ⟨tw_627, tw_628, tw_629, tw_58, tw_630⟩
theorem hw_X6_177 : Cond.methodLink RX6 177 yX5_lowestPostIn ∈ TB ∧ Cond.instanceMethod yX5_lowestPostIn ∈ TB ∧ Cond.selects RX5 yX5_lowestPostIn yX5_lowestPostIn ∈ TB ∧ Cond.initialized RX5 ∈ TB ∧ Cond.code yX5_lowestPostIn cX5_lowestPostIn 3 (some .int) ∈ TB := ⟨tw_631, tw_545, tw_546, tw_58, tw_547⟩
theorem hw_X6_180 : Cond.methodLink RX6 180 yX6_comersHelpedIn ∈ TB ∧ Cond.instanceMethod yX6_comersHelpedIn ∈ TB ∧ Cond.selects RX6 yX6_comersHelpedIn yX6_comersHelpedIn ∈ TB ∧ Cond.initialized RX6 ∈ TB ∧ Cond.code yX6_comersHelpedIn cX6_comersHelpedIn 2 (some .int) ∈ TB := ⟨tw_632, tw_634, tw_7, tw_54, tw_635⟩
theorem hw_X6_183 : Cond.methodLink RX6 183 yX5_standPlain ∈ TB ∧ Cond.instanceMethod yX5_standPlain ∈ TB ∧ Cond.selects RX5 yX5_standPlain yX5_standPlain ∈ TB ∧ Cond.initialized RX5 ∈ TB ∧ Cond.code yX5_standPlain cX5_standPlain 2 none ∈ TB := ⟨tw_636, tw_637, tw_638, tw_58, tw_639⟩
theorem hw_X6_186 : Cond.methodLink RX6 186 yX5_comeCount ∈ TB ∧ Cond.instanceMethod yX5_comeCount ∈ TB ∧ Cond.selects RX5 yX5_comeCount yX5_comeCount ∈ TB ∧ Cond.initialized RX5 ∈ TB ∧ Cond.code yX5_comeCount cX5_comeCount 3 (some .int) ∈ TB := ⟨tw_640, tw_641, tw_642, tw_58, tw_643⟩
theorem hw_X6_189 : Cond.methodLink RX6 189 yX6_comersPainted ∈ TB ∧ Cond.instanceMethod yX6_comersPainted ∈ TB ∧ Cond.selects RX6 yX6_comersPainted yX6_comersPainted ∈ TB ∧ Cond.initialized RX6 ∈ TB ∧ Cond.code yX6_comersPainted cX6_comersPainted 3 (some .int) ∈ TB := ⟨tw_649, tw_651, tw_8, tw_54, tw_652⟩
theorem hw_X6_192 : Cond.methodLink RX6 192 yX5_noneRetired ∈ TB ∧ Cond.instanceMethod yX5_noneRetired ∈ TB ∧ Cond.selects RX5 yX5_noneRetired yX5_noneRetired ∈ TB ∧ Cond.initialized RX5 ∈ TB ∧ Cond.code yX5_noneRetired cX5_noneRetired 3 (some .boolean) ∈ TB := ⟨tw_654, tw_655, tw_656, tw_58, tw_657⟩
theorem hw_X6_195 : Cond.methodLink RX6 195 yJ6_bitCount_0f7a4 ∈ TB ∧ Cond.static yJ6_bitCount_0f7a4 ∈ TB ∧ Cond.initialized yJ6_bitCount_0f7a4.cls ∈ TB ∧ Cond.code yJ6_bitCount_0f7a4 cJ6_bitCount_0f7a4 1 (some .int) ∈ TB := ⟨tw_658, tw_659, tw_68, tw_660⟩
theorem hw_X6_200 : Cond.methodLink RX6 200 yX6_hasBit ∈ TB ∧ Cond.static yX6_hasBit ∈ TB ∧ Cond.initialized yX6_hasBit.cls ∈ TB ∧ Cond.code yX6_hasBit cX6_hasBit 2 (some .boolean) ∈ TB := ⟨tw_653, tw_497, tw_54, tw_498⟩
theorem hw_X6_203 : Cond.methodLink RX6 203 yX6_isCover ∈ TB ∧ Cond.instanceMethod yX6_isCover ∈ TB ∧ Cond.selects RX6 yX6_isCover yX6_isCover ∈ TB ∧ Cond.initialized RX6 ∈ TB ∧ Cond.code yX6_isCover cX6_isCover 3 (some .boolean) ∈ TB := ⟨tw_668, tw_670, tw_9, tw_54, tw_671⟩
theorem hw_X6_206 : Cond.methodLink RX6 206 yX5_dropPosts ∈ TB ∧ Cond.instanceMethod yX5_dropPosts ∈ TB ∧ Cond.selects RX5 yX5_dropPosts yX5_dropPosts ∈ TB ∧ Cond.initialized RX5 ∈ TB ∧ Cond.code yX5_dropPosts cX5_dropPosts 1 none ∈ TB := ⟨tw_672, tw_673, tw_674, tw_58, tw_675⟩
theorem hw_X6_209 : Cond.methodLink RX6 209 yX3_pathMiles ∈ TB ∧ Cond.instanceMethod yX3_pathMiles ∈ TB ∧ Cond.selects RX3 yX3_pathMiles yX3_pathMiles ∈ TB ∧ Cond.initialized RX3 ∈ TB ∧ Cond.code yX3_pathMiles cX3_pathMiles 3 (some .int) ∈ TB := ⟨tw_680, tw_364, tw_365, tw_59, tw_366⟩
theorem hw_X6_212 : Cond.methodLink RX6 212 yX2_add ∈ TB ∧ Cond.instanceMethod yX2_add ∈ TB ∧ Cond.selects RX2 yX2_add yX2_add ∈ TB ∧ Cond.initialized RX2 ∈ TB ∧ Cond.code yX2_add cX2_add 4 (some .int) ∈ TB := ⟨tw_685, tw_686, tw_687, tw_61, tw_688⟩
theorem hw_X6_216 : Cond.methodLink RX6 216 yX6_tellsAll ∈ TB ∧ Cond.instanceMethod yX6_tellsAll ∈ TB ∧ Cond.selects RX6 yX6_tellsAll yX6_tellsAll ∈ TB ∧ Cond.initialized RX6 ∈ TB ∧ Cond.code yX6_tellsAll cX6_tellsAll 6 (some .boolean) ∈ TB := ⟨tw_694, tw_696, tw_10, tw_54, tw_697⟩
theorem hw_X6_219 : Cond.methodLink RX6 219 yX2_held ∈ TB ∧ Cond.instanceMethod yX2_held ∈ TB ∧ Cond.selects RX2 yX2_held yX2_held ∈ TB ∧ Cond.initialized RX2 ∈ TB ∧ Cond.code yX2_held cX2_held 1 (some .int) ∈ TB := ⟨tw_698, tw_699, tw_700, tw_61, tw_701⟩
theorem hw_X6_220 : Cond.methodLink RX6 220 yX2_number ∈ TB ∧ Cond.instanceMethod yX2_number ∈ TB ∧ Cond.selects RX2 yX2_number yX2_number ∈ TB ∧ Cond.initialized RX2 ∈ TB ∧ Cond.code yX2_number cX2_number 3 (some .int) ∈ TB := ⟨tw_702, tw_703, tw_704, tw_61, tw_705⟩
theorem hw_X6_223 : Cond.methodLink RX6 223 yX3_firstStep ∈ TB ∧ Cond.instanceMethod yX3_firstStep ∈ TB ∧ Cond.selects RX3 yX3_firstStep yX3_firstStep ∈ TB ∧ Cond.initialized RX3 ∈ TB ∧ Cond.code yX3_firstStep cX3_firstStep 7 (some .int) ∈ TB := ⟨tw_707, tw_360, tw_361, tw_59, tw_362⟩
theorem hw_X6_226 : Cond.methodLink RX6 226 yX6_stood ∈ TB ∧ Cond.instanceMethod yX6_stood ∈ TB ∧ Cond.selects RX6 yX6_stood yX6_stood ∈ TB ∧ Cond.initialized RX6 ∈ TB ∧ Cond.code yX6_stood cX6_stood 3 (some .int) ∈ TB := ⟨tw_712, tw_691, tw_692, tw_54, tw_693⟩
theorem hw_X6_229 : Cond.methodLink RX6 229 yX6_mostAlike ∈ TB ∧ Cond.instanceMethod yX6_mostAlike ∈ TB ∧ Cond.selects RX6 yX6_mostAlike yX6_mostAlike ∈ TB ∧ Cond.initialized RX6 ∈ TB ∧ Cond.code yX6_mostAlike cX6_mostAlike 5 (some .int) ∈ TB := ⟨tw_713, tw_715, tw_11, tw_54, tw_716⟩
theorem hw_X6_232 : Cond.methodLink RX6 232 yX6_alikeWith ∈ TB ∧ Cond.instanceMethod yX6_alikeWith ∈ TB ∧ Cond.selects RX6 yX6_alikeWith yX6_alikeWith ∈ TB ∧ Cond.initialized RX6 ∈ TB ∧ Cond.code yX6_alikeWith cX6_alikeWith 6 (some .int) ∈ TB := ⟨tw_717, tw_719, tw_12, tw_54, tw_720⟩
theorem hw_X6_240 : Cond.methodLink RX6 240 yX6_tellAlike ∈ TB ∧ Cond.instanceMethod yX6_tellAlike ∈ TB ∧ Cond.selects RX6 yX6_tellAlike yX6_tellAlike ∈ TB ∧ Cond.initialized RX6 ∈ TB ∧ Cond.code yX6_tellAlike cX6_tellAlike 6 (some .boolean) ∈ TB := ⟨tw_721, tw_723, tw_13, tw_54, tw_724⟩
theorem hw_X6_244 : Cond.methodLink RX6 244 yX5_turnInto ∈ TB ∧ Cond.instanceMethod yX5_turnInto ∈ TB ∧ Cond.selects RX5 yX5_turnInto yX5_turnInto ∈ TB ∧ Cond.initialized RX5 ∈ TB ∧ Cond.code yX5_turnInto cX5_turnInto 3 none ∈ TB := ⟨tw_734, tw_735, tw_736, tw_58, tw_737⟩
theorem hw_X6_247 : Cond.methodLink RX6 247 yX6_fitsSightings ∈ TB ∧ Cond.instanceMethod yX6_fitsSightings ∈ TB ∧ Cond.selects RX6 yX6_fitsSightings yX6_fitsSightings ∈ TB ∧ Cond.initialized RX6 ∈ TB ∧ Cond.code yX6_fitsSightings cX6_fitsSightings 4 (some .boolean) ∈ TB := ⟨tw_738, tw_740, tw_14, tw_54, tw_741⟩
theorem hw_X6_250 : Cond.methodLink RX6 250 yX6_weightOf ∈ TB ∧ Cond.instanceMethod yX6_weightOf ∈ TB ∧ Cond.selects RX6 yX6_weightOf yX6_weightOf ∈ TB ∧ Cond.initialized RX6 ∈ TB ∧ Cond.code yX6_weightOf cX6_weightOf 5 (some .int) ∈ TB := ⟨tw_750, tw_752, tw_15, tw_54, tw_753⟩
theorem hw_X6_253 : Cond.methodLink RX6 253 yX6_comesTwisted ∈ TB ∧ Cond.instanceMethod yX6_comesTwisted ∈ TB ∧ Cond.selects RX6 yX6_comesTwisted yX6_comesTwisted ∈ TB ∧ Cond.initialized RX6 ∈ TB ∧ Cond.code yX6_comesTwisted cX6_comesTwisted 3 (some .boolean) ∈ TB := ⟨tw_754, tw_756, tw_16, tw_54, tw_757⟩
theorem hw_X6_256 : Cond.methodLink RX6 256 yX6_commonPart ∈ TB ∧ Cond.static yX6_commonPart ∈ TB ∧ Cond.initialized yX6_commonPart.cls ∈ TB ∧ Cond.code yX6_commonPart cX6_commonPart 6 (some .int) ∈ TB := ⟨tw_762, tw_763, tw_54, tw_764⟩
theorem hw_X6_259 : Cond.methodLink RX6 259 yX5_twist ∈ TB ∧ Cond.instanceMethod yX5_twist ∈ TB ∧ Cond.selects RX5 yX5_twist yX5_twist ∈ TB ∧ Cond.initialized RX5 ∈ TB ∧ Cond.code yX5_twist cX5_twist 2 none ∈ TB := ⟨tw_758, tw_759, tw_760, tw_58, tw_761⟩
theorem hw_X6_262 : Cond.methodLink RX6 262 yX6_drawn ∈ TB ∧ Cond.static yX6_drawn ∈ TB ∧ Cond.initialized yX6_drawn.cls ∈ TB ∧ Cond.code yX6_drawn cX6_drawn 4 (some .int) ∈ TB := ⟨tw_769, tw_770, tw_54, tw_771⟩
theorem hw_X6_265 : Cond.methodLink RX6 265 yX6_actByDraw ∈ TB ∧ Cond.instanceMethod yX6_actByDraw ∈ TB ∧ Cond.selects RX6 yX6_actByDraw yX6_actByDraw ∈ TB ∧ Cond.initialized RX6 ∈ TB ∧ Cond.code yX6_actByDraw cX6_actByDraw 6 none ∈ TB := ⟨tw_776, tw_778, tw_17, tw_54, tw_779⟩
theorem hw_X6_268 : Cond.methodLink RX6 268 yX5_retiredCount ∈ TB ∧ Cond.instanceMethod yX5_retiredCount ∈ TB ∧ Cond.selects RX5 yX5_retiredCount yX5_retiredCount ∈ TB ∧ Cond.initialized RX5 ∈ TB ∧ Cond.code yX5_retiredCount cX5_retiredCount 3 (some .int) ∈ TB := ⟨tw_788, tw_789, tw_790, tw_58, tw_791⟩
theorem hw_X6_271 : Cond.methodLink RX6 271 yX3_milesOfAll ∈ TB ∧ Cond.instanceMethod yX3_milesOfAll ∈ TB ∧ Cond.selects RX3 yX3_milesOfAll yX3_milesOfAll ∈ TB ∧ Cond.initialized RX3 ∈ TB ∧ Cond.code yX3_milesOfAll cX3_milesOfAll 4 (some .int) ∈ TB := ⟨tw_792, tw_793, tw_794, tw_59, tw_795⟩
theorem hw_X6_282 : Cond.methodLink RX6 282 yX6_layOrClose ∈ TB ∧ Cond.instanceMethod yX6_layOrClose ∈ TB ∧ Cond.selects RX6 yX6_layOrClose yX6_layOrClose ∈ TB ∧ Cond.initialized RX6 ∈ TB ∧ Cond.code yX6_layOrClose cX6_layOrClose 5 none ∈ TB := ⟨tw_780, tw_782, tw_18, tw_54, tw_783⟩
theorem hw_X6_285 : Cond.methodLink RX6 285 yX3_townBehind ∈ TB ∧ Cond.instanceMethod yX3_townBehind ∈ TB ∧ Cond.selects RX3 yX3_townBehind yX3_townBehind ∈ TB ∧ Cond.initialized RX3 ∈ TB ∧ Cond.code yX3_townBehind cX3_townBehind 2 (some .int) ∈ TB := ⟨tw_784, tw_785, tw_786, tw_59, tw_787⟩
theorem hw_X6_288 : Cond.methodLink RX6 288 yX5_years ∈ TB ∧ Cond.instanceMethod yX5_years ∈ TB ∧ Cond.selects RX5 yX5_years yX5_years ∈ TB ∧ Cond.initialized RX5 ∈ TB ∧ Cond.code yX5_years cX5_years 1 (some .int) ∈ TB := ⟨tw_808, tw_809, tw_810, tw_58, tw_811⟩
theorem hw_X6_291 : Cond.methodLink RX6 291 yX3_howMany ∈ TB ∧ Cond.instanceMethod yX3_howMany ∈ TB ∧ Cond.selects RX3 yX3_howMany yX3_howMany ∈ TB ∧ Cond.initialized RX3 ∈ TB ∧ Cond.code yX3_howMany cX3_howMany 4 (some .int) ∈ TB := ⟨tw_812, tw_813, tw_814, tw_59, tw_815⟩
theorem hw_X6_294 : Cond.methodLink RX6 294 yX1_length ∈ TB ∧ Cond.instanceMethod yX1_length ∈ TB ∧ Cond.selects RX1 yX1_length yX1_length ∈ TB ∧ Cond.initialized RX1 ∈ TB ∧ Cond.code yX1_length cX1_length 1 (some .int) ∈ TB := ⟨tw_816, tw_817, tw_818, tw_55, tw_819⟩
theorem hw_X6_60 : Cond.methodLink RX6 60 yX1_append ∈ TB ∧ Cond.instanceMethod yX1_append ∈ TB ∧ Cond.selects RX1 yX1_append yX1_append ∈ TB ∧ Cond.initialized RX1 ∈ TB ∧ Cond.code yX1_append cX1_append 2 (some .int) ∈ TB := ⟨tw_258, tw_259, tw_260, tw_55, tw_261⟩
theorem hw_X6_64 : Cond.methodLink RX6 64 yX1_readInto ∈ TB ∧ Cond.instanceMethod yX1_readInto ∈ TB ∧ Cond.selects RX1 yX1_readInto yX1_readInto ∈ TB ∧ Cond.initialized RX1 ∈ TB ∧ Cond.code yX1_readInto cX1_readInto 4 (some .int) ∈ TB := ⟨tw_266, tw_267, tw_268, tw_55, tw_269⟩
theorem hw_X6_68 : Cond.methodLink RX6 68 yX5_paintAll ∈ TB ∧ Cond.instanceMethod yX5_paintAll ∈ TB ∧ Cond.selects RX5 yX5_paintAll yX5_paintAll ∈ TB ∧ Cond.initialized RX5 ∈ TB ∧ Cond.code yX5_paintAll cX5_paintAll 2 none ∈ TB := ⟨tw_341, tw_342, tw_343, tw_58, tw_344⟩
theorem hw_X6_71 : Cond.methodLink RX6 71 yX1_empty ∈ TB ∧ Cond.instanceMethod yX1_empty ∈ TB ∧ Cond.selects RX1 yX1_empty yX1_empty ∈ TB ∧ Cond.initialized RX1 ∈ TB ∧ Cond.code yX1_empty cX1_empty 2 (some .int) ∈ TB := ⟨tw_367, tw_368, tw_369, tw_55, tw_370⟩
theorem hw_X6_74 : Cond.methodLink RX6 74 yX5_posts ∈ TB ∧ Cond.instanceMethod yX5_posts ∈ TB ∧ Cond.selects RX5 yX5_posts yX5_posts ∈ TB ∧ Cond.initialized RX5 ∈ TB ∧ Cond.code yX5_posts cX5_posts 1 (some .int) ∈ TB := ⟨tw_410, tw_411, tw_412, tw_58, tw_413⟩
theorem hw_X6_77 : Cond.methodLink RX6 77 yX5_walkers ∈ TB ∧ Cond.instanceMethod yX5_walkers ∈ TB ∧ Cond.selects RX5 yX5_walkers yX5_walkers ∈ TB ∧ Cond.initialized RX5 ∈ TB ∧ Cond.code yX5_walkers cX5_walkers 1 (some .int) ∈ TB := ⟨tw_414, tw_415, tw_416, tw_58, tw_417⟩
theorem hw_X6_80 : Cond.methodLink RX6 80 yX5_become ∈ TB ∧ Cond.instanceMethod yX5_become ∈ TB ∧ Cond.selects RX5 yX5_become yX5_become ∈ TB ∧ Cond.initialized RX5 ∈ TB ∧ Cond.code yX5_become cX5_become 2 none ∈ TB := ⟨tw_418, tw_419, tw_420, tw_58, tw_421⟩
theorem hw_X6_84 : Cond.methodLink RX6 84 yX4_empty ∈ TB ∧ Cond.instanceMethod yX4_empty ∈ TB ∧ Cond.selects RX4 yX4_empty yX4_empty ∈ TB ∧ Cond.initialized RX4 ∈ TB ∧ Cond.code yX4_empty cX4_empty 1 none ∈ TB := ⟨tw_434, tw_435, tw_436, tw_60, tw_437⟩
theorem hw_X6_86 : Cond.methodLink RX6 86 yX2_empty ∈ TB ∧ Cond.instanceMethod yX2_empty ∈ TB ∧ Cond.selects RX2 yX2_empty yX2_empty ∈ TB ∧ Cond.initialized RX2 ∈ TB ∧ Cond.code yX2_empty cX2_empty 2 (some .int) ∈ TB := ⟨tw_438, tw_439, tw_440, tw_61, tw_441⟩
theorem hw_X6_87 : Cond.methodLink RX6 87 yX5_areTwoTowns ∈ TB ∧ Cond.instanceMethod yX5_areTwoTowns ∈ TB ∧ Cond.selects RX5 yX5_areTwoTowns yX5_areTwoTowns ∈ TB ∧ Cond.initialized RX5 ∈ TB ∧ Cond.code yX5_areTwoTowns cX5_areTwoTowns 3 (some .boolean) ∈ TB := ⟨tw_446, tw_316, tw_317, tw_58, tw_318⟩
theorem hw_X6_91 : Cond.methodLink RX6 91 yX5_roads ∈ TB ∧ Cond.instanceMethod yX5_roads ∈ TB ∧ Cond.selects RX5 yX5_roads yX5_roads ∈ TB ∧ Cond.initialized RX5 ∈ TB ∧ Cond.code yX5_roads cX5_roads 1 (some (.object "SignpostYard$Roads")) ∈ TB := ⟨tw_447, tw_448, tw_449, tw_58, tw_450⟩
theorem hw_X6_95 : Cond.methodLink RX6 95 yX3_between ∈ TB ∧ Cond.instanceMethod yX3_between ∈ TB ∧ Cond.selects RX3 yX3_between yX3_between ∈ TB ∧ Cond.initialized RX3 ∈ TB ∧ Cond.code yX3_between cX3_between 3 (some .int) ∈ TB := ⟨tw_451, tw_452, tw_453, tw_59, tw_454⟩
theorem hw_X7_102 : Cond.methodLink RX7 102 yX7_isFigure ∈ TB ∧ Cond.instanceMethod yX7_isFigure ∈ TB ∧ Cond.selects RX7 yX7_isFigure yX7_isFigure ∈ TB ∧ Cond.initialized RX7 ∈ TB ∧ Cond.code yX7_isFigure cX7_isFigure 1 (some .boolean) ∈ TB := ⟨tw_994, tw_996, tw_32, tw_66, tw_997⟩
theorem hw_X7_106 : Cond.methodLink RX7 106 yX7_number ∈ TB ∧ Cond.instanceMethod yX7_number ∈ TB ∧ Cond.selects RX7 yX7_number yX7_number ∈ TB ∧ Cond.initialized RX7 ∈ TB ∧ Cond.code yX7_number cX7_number 5 (some .int) ∈ TB := ⟨tw_990, tw_992, tw_31, tw_66, tw_993⟩
theorem hw_X7_110 : Cond.methodLink RX7 110 yX7_due ∈ TB ∧ Cond.instanceMethod yX7_due ∈ TB ∧ Cond.selects RX7 yX7_due yX7_due ∈ TB ∧ Cond.initialized RX7 ∈ TB ∧ Cond.code yX7_due cX7_due 2 none ∈ TB := ⟨tw_1002, tw_1004, tw_34, tw_66, tw_1005⟩
theorem hw_X7_117 : Cond.methodLink RX7 117 yX7_readRoad ∈ TB ∧ Cond.instanceMethod yX7_readRoad ∈ TB ∧ Cond.selects RX7 yX7_readRoad yX7_readRoad ∈ TB ∧ Cond.initialized RX7 ∈ TB ∧ Cond.code yX7_readRoad cX7_readRoad 4 none ∈ TB := ⟨tw_998, tw_1000, tw_33, tw_66, tw_1001⟩
theorem hw_X7_120 : Cond.methodLink RX7 120 yX7_readPost ∈ TB ∧ Cond.instanceMethod yX7_readPost ∈ TB ∧ Cond.selects RX7 yX7_readPost yX7_readPost ∈ TB ∧ Cond.initialized RX7 ∈ TB ∧ Cond.code yX7_readPost cX7_readPost 1 none ∈ TB := ⟨tw_1006, tw_1008, tw_35, tw_66, tw_1009⟩
theorem hw_X7_123 : Cond.methodLink RX7 123 yX7_readWalker ∈ TB ∧ Cond.instanceMethod yX7_readWalker ∈ TB ∧ Cond.selects RX7 yX7_readWalker yX7_readWalker ∈ TB ∧ Cond.initialized RX7 ∈ TB ∧ Cond.code yX7_readWalker cX7_readWalker 3 none ∈ TB := ⟨tw_1010, tw_1012, tw_36, tw_66, tw_1013⟩
theorem hw_X7_126 : Cond.methodLink RX7 126 yX7_begin ∈ TB ∧ Cond.instanceMethod yX7_begin ∈ TB ∧ Cond.selects RX7 yX7_begin yX7_begin ∈ TB ∧ Cond.initialized RX7 ∈ TB ∧ Cond.code yX7_begin cX7_begin 2 none ∈ TB := ⟨tw_830, tw_832, tw_20, tw_66, tw_833⟩
theorem hw_X7_129 : Cond.methodLink RX7 129 yX7_readItem ∈ TB ∧ Cond.instanceMethod yX7_readItem ∈ TB ∧ Cond.selects RX7 yX7_readItem yX7_readItem ∈ TB ∧ Cond.initialized RX7 ∈ TB ∧ Cond.code yX7_readItem cX7_readItem 2 none ∈ TB := ⟨tw_982, tw_984, tw_29, tw_66, tw_985⟩
theorem hw_X7_132 : Cond.methodLink RX7 132 yX7_read ∈ TB ∧ Cond.instanceMethod yX7_read ∈ TB ∧ Cond.selects RX7 yX7_read yX7_read ∈ TB ∧ Cond.initialized RX7 ∈ TB ∧ Cond.code yX7_read cX7_read 2 (some .int) ∈ TB := ⟨tw_978, tw_980, tw_28, tw_66, tw_981⟩
theorem hw_X7_135 : Cond.methodLink RX7 135 yX7_tellRoad ∈ TB ∧ Cond.instanceMethod yX7_tellRoad ∈ TB ∧ Cond.selects RX7 yX7_tellRoad yX7_tellRoad ∈ TB ∧ Cond.initialized RX7 ∈ TB ∧ Cond.code yX7_tellRoad cX7_tellRoad 4 none ∈ TB := ⟨tw_834, tw_836, tw_21, tw_66, tw_837⟩
theorem hw_X7_139 : Cond.methodLink RX7 139 yX7_tellPost ∈ TB ∧ Cond.instanceMethod yX7_tellPost ∈ TB ∧ Cond.selects RX7 yX7_tellPost yX7_tellPost ∈ TB ∧ Cond.initialized RX7 ∈ TB ∧ Cond.code yX7_tellPost cX7_tellPost 4 none ∈ TB := ⟨tw_838, tw_840, tw_22, tw_66, tw_841⟩
theorem hw_X7_142 : Cond.methodLink RX7 142 yX7_tellWalker ∈ TB ∧ Cond.instanceMethod yX7_tellWalker ∈ TB ∧ Cond.selects RX7 yX7_tellWalker yX7_tellWalker ∈ TB ∧ Cond.initialized RX7 ∈ TB ∧ Cond.code yX7_tellWalker cX7_tellWalker 3 none ∈ TB := ⟨tw_842, tw_844, tw_23, tw_66, tw_845⟩
theorem hw_X7_146 : Cond.methodLink RX7 146 yX7_measure ∈ TB ∧ Cond.instanceMethod yX7_measure ∈ TB ∧ Cond.selects RX7 yX7_measure yX7_measure ∈ TB ∧ Cond.initialized RX7 ∈ TB ∧ Cond.code yX7_measure cX7_measure 6 none ∈ TB := ⟨tw_850, tw_852, tw_25, tw_66, tw_853⟩
theorem hw_X7_150 : Cond.methodLink RX7 150 yX7_paintOn ∈ TB ∧ Cond.instanceMethod yX7_paintOn ∈ TB ∧ Cond.selects RX7 yX7_paintOn yX7_paintOn ∈ TB ∧ Cond.initialized RX7 ∈ TB ∧ Cond.code yX7_paintOn cX7_paintOn 6 none ∈ TB := ⟨tw_855, tw_857, tw_26, tw_66, tw_858⟩
theorem hw_X7_167 : Cond.methodLink RX7 167 yX7_nextOn ∈ TB ∧ Cond.instanceMethod yX7_nextOn ∈ TB ∧ Cond.selects RX7 yX7_nextOn yX7_nextOn ∈ TB ∧ Cond.initialized RX7 ∈ TB ∧ Cond.code yX7_nextOn cX7_nextOn 7 (some .int) ∈ TB := ⟨tw_859, tw_861, tw_27, tw_66, tw_862⟩
theorem hw_X7_174 : Cond.methodLink RX7 174 yX7_has ∈ TB ∧ Cond.static yX7_has ∈ TB ∧ Cond.initialized yX7_has.cls ∈ TB ∧ Cond.code yX7_has cX7_has 2 (some .boolean) ∈ TB := ⟨tw_1042, tw_1043, tw_66, tw_1044⟩
theorem hw_X7_178 : Cond.methodLink RX7 178 yX7_turned ∈ TB ∧ Cond.instanceMethod yX7_turned ∈ TB ∧ Cond.selects RX7 yX7_turned yX7_turned ∈ TB ∧ Cond.initialized RX7 ∈ TB ∧ Cond.code yX7_turned cX7_turned 6 (some .int) ∈ TB := ⟨tw_1045, tw_1047, tw_40, tw_66, tw_1048⟩
theorem hw_X7_184 : Cond.methodLink RX7 184 yX7_postAt ∈ TB ∧ Cond.instanceMethod yX7_postAt ∈ TB ∧ Cond.selects RX7 yX7_postAt yX7_postAt ∈ TB ∧ Cond.initialized RX7 ∈ TB ∧ Cond.code yX7_postAt cX7_postAt 5 (some .int) ∈ TB := ⟨tw_1073, tw_1075, tw_45, tw_66, tw_1076⟩
theorem hw_X7_188 : Cond.methodLink RX7 188 yX7_points ∈ TB ∧ Cond.instanceMethod yX7_points ∈ TB ∧ Cond.selects RX7 yX7_points yX7_points ∈ TB ∧ Cond.initialized RX7 ∈ TB ∧ Cond.code yX7_points cX7_points 9 (some .int) ∈ TB := ⟨tw_1038, tw_1040, tw_39, tw_66, tw_1041⟩
theorem hw_X7_195 : Cond.methodLink RX7 195 yX7_goesTo ∈ TB ∧ Cond.instanceMethod yX7_goesTo ∈ TB ∧ Cond.selects RX7 yX7_goesTo yX7_goesTo ∈ TB ∧ Cond.initialized RX7 ∈ TB ∧ Cond.code yX7_goesTo cX7_goesTo 9 (some .int) ∈ TB := ⟨tw_1069, tw_1071, tw_44, tw_66, tw_1072⟩
theorem hw_X7_198 : Cond.methodLink RX7 198 yX7_passHour ∈ TB ∧ Cond.instanceMethod yX7_passHour ∈ TB ∧ Cond.selects RX7 yX7_passHour yX7_passHour ∈ TB ∧ Cond.initialized RX7 ∈ TB ∧ Cond.code yX7_passHour cX7_passHour 3 none ∈ TB := ⟨tw_1065, tw_1067, tw_43, tw_66, tw_1068⟩
theorem hw_X7_201 : Cond.methodLink RX7 201 yX7_comeTo ∈ TB ∧ Cond.instanceMethod yX7_comeTo ∈ TB ∧ Cond.selects RX7 yX7_comeTo yX7_comeTo ∈ TB ∧ Cond.initialized RX7 ∈ TB ∧ Cond.code yX7_comeTo cX7_comeTo 4 (some .int) ∈ TB := ⟨tw_1128, tw_1130, tw_49, tw_66, tw_1131⟩
theorem hw_X7_205 : Cond.methodLink RX7 205 yX7_isTown ∈ TB ∧ Cond.instanceMethod yX7_isTown ∈ TB ∧ Cond.selects RX7 yX7_isTown yX7_isTown ∈ TB ∧ Cond.initialized RX7 ∈ TB ∧ Cond.code yX7_isTown cX7_isTown 2 (some .boolean) ∈ TB := ⟨tw_1022, tw_1024, tw_37, tw_66, tw_1025⟩
theorem hw_X7_209 : Cond.methodLink RX7 209 yX7_isPost ∈ TB ∧ Cond.instanceMethod yX7_isPost ∈ TB ∧ Cond.selects RX7 yX7_isPost yX7_isPost ∈ TB ∧ Cond.initialized RX7 ∈ TB ∧ Cond.code yX7_isPost cX7_isPost 2 (some .boolean) ∈ TB := ⟨tw_1030, tw_1032, tw_38, tw_66, tw_1033⟩
theorem hw_X7_212 : Cond.methodLink RX7 212 yX7_isWalker ∈ TB ∧ Cond.instanceMethod yX7_isWalker ∈ TB ∧ Cond.selects RX7 yX7_isWalker yX7_isWalker ∈ TB ∧ Cond.initialized RX7 ∈ TB ∧ Cond.code yX7_isWalker cX7_isWalker 2 (some .boolean) ∈ TB := ⟨tw_1053, tw_1055, tw_41, tw_66, tw_1056⟩
theorem hw_X7_215 : Cond.methodLink RX7 215 yX7_know ∈ TB ∧ Cond.instanceMethod yX7_know ∈ TB ∧ Cond.selects RX7 yX7_know yX7_know ∈ TB ∧ Cond.initialized RX7 ∈ TB ∧ Cond.code yX7_know cX7_know 2 none ∈ TB := ⟨tw_1061, tw_1063, tw_42, tw_66, tw_1064⟩
theorem hw_X7_218 : Cond.methodLink RX7 218 yX7_passYear ∈ TB ∧ Cond.instanceMethod yX7_passYear ∈ TB ∧ Cond.selects RX7 yX7_passYear yX7_passYear ∈ TB ∧ Cond.initialized RX7 ∈ TB ∧ Cond.code yX7_passYear cX7_passYear 4 (some .int) ∈ TB := ⟨tw_1081, tw_1083, tw_46, tw_66, tw_1084⟩
theorem hw_X7_221 : Cond.methodLink RX7 221 yX7_layOn ∈ TB ∧ Cond.static yX7_layOn ∈ TB ∧ Cond.initialized yX7_layOn.cls ∈ TB ∧ Cond.code yX7_layOn cX7_layOn 4 none ∈ TB := ⟨tw_1089, tw_1090, tw_66, tw_1091⟩
theorem hw_X7_225 : Cond.methodLink RX7 225 yX7_take ∈ TB ∧ Cond.instanceMethod yX7_take ∈ TB ∧ Cond.selects RX7 yX7_take yX7_take ∈ TB ∧ Cond.initialized RX7 ∈ TB ∧ Cond.code yX7_take cX7_take 2 none ∈ TB := ⟨tw_1112, tw_1114, tw_47, tw_66, tw_1115⟩
theorem hw_X7_228 : Cond.methodLink RX7 228 yX7_comeBy ∈ TB ∧ Cond.instanceMethod yX7_comeBy ∈ TB ∧ Cond.selects RX7 yX7_comeBy yX7_comeBy ∈ TB ∧ Cond.initialized RX7 ∈ TB ∧ Cond.code yX7_comeBy cX7_comeBy 2 (some .int) ∈ TB := ⟨tw_1124, tw_1126, tw_48, tw_66, tw_1127⟩
theorem hw_X7_231 : Cond.methodLink RX7 231 yX7_bitsOf ∈ TB ∧ Cond.static yX7_bitsOf ∈ TB ∧ Cond.initialized yX7_bitsOf.cls ∈ TB ∧ Cond.code yX7_bitsOf cX7_bitsOf 3 (some .int) ∈ TB := ⟨tw_1140, tw_1141, tw_66, tw_1142⟩
theorem hw_X7_235 : Cond.methodLink RX7 235 yX7_stood ∈ TB ∧ Cond.instanceMethod yX7_stood ∈ TB ∧ Cond.selects RX7 yX7_stood yX7_stood ∈ TB ∧ Cond.initialized RX7 ∈ TB ∧ Cond.code yX7_stood cX7_stood 5 (some .int) ∈ TB := ⟨tw_1163, tw_1156, tw_1157, tw_66, tw_1158⟩
theorem hw_X7_238 : Cond.methodLink RX7 238 yX7_areAlike ∈ TB ∧ Cond.instanceMethod yX7_areAlike ∈ TB ∧ Cond.selects RX7 yX7_areAlike yX7_areAlike ∈ TB ∧ Cond.initialized RX7 ∈ TB ∧ Cond.code yX7_areAlike cX7_areAlike 5 (some .boolean) ∈ TB := ⟨tw_1164, tw_1166, tw_50, tw_66, tw_1167⟩
theorem hw_X7_241 : Cond.methodLink RX7 241 yX7_comes ∈ TB ∧ Cond.instanceMethod yX7_comes ∈ TB ∧ Cond.selects RX7 yX7_comes yX7_comes ∈ TB ∧ Cond.initialized RX7 ∈ TB ∧ Cond.code yX7_comes cX7_comes 3 (some .int) ∈ TB := ⟨tw_1184, tw_1109, tw_1110, tw_66, tw_1111⟩
theorem hw_X7_250 : Cond.methodLink RX7 250 yX7_turn ∈ TB ∧ Cond.instanceMethod yX7_turn ∈ TB ∧ Cond.selects RX7 yX7_turn yX7_turn ∈ TB ∧ Cond.initialized RX7 ∈ TB ∧ Cond.code yX7_turn cX7_turn 6 none ∈ TB := ⟨tw_1192, tw_1194, tw_51, tw_66, tw_1195⟩
theorem hw_X7_253 : Cond.methodLink RX7 253 yX7_retiredOf ∈ TB ∧ Cond.instanceMethod yX7_retiredOf ∈ TB ∧ Cond.selects RX7 yX7_retiredOf yX7_retiredOf ∈ TB ∧ Cond.initialized RX7 ∈ TB ∧ Cond.code yX7_retiredOf cX7_retiredOf 4 (some .int) ∈ TB := ⟨tw_1196, tw_1198, tw_52, tw_66, tw_1199⟩
theorem hw_X7_256 : Cond.methodLink RX7 256 yX7_roadsOf ∈ TB ∧ Cond.static yX7_roadsOf ∈ TB ∧ Cond.initialized yX7_roadsOf.cls ∈ TB ∧ Cond.code yX7_roadsOf cX7_roadsOf 6 (some .int) ∈ TB := ⟨tw_1200, tw_1201, tw_66, tw_1202⟩
theorem hw_X7_80 : Cond.methodLink RX7 80 yX7_takeDraft ∈ TB ∧ Cond.instanceMethod yX7_takeDraft ∈ TB ∧ Cond.selects RX7 yX7_takeDraft yX7_takeDraft ∈ TB ∧ Cond.initialized RX7 ∈ TB ∧ Cond.code yX7_takeDraft cX7_takeDraft 2 none ∈ TB := ⟨tw_846, tw_848, tw_24, tw_66, tw_849⟩
theorem hw_X7_83 : Cond.methodLink RX7 83 yX7_in ∈ TB ∧ Cond.static yX7_in ∈ TB ∧ Cond.initialized yX7_in.cls ∈ TB ∧ Cond.code yX7_in cX7_in 3 (some .boolean) ∈ TB := ⟨tw_967, tw_968, tw_66, tw_969⟩
theorem hw_X7_94 : Cond.methodLink RX7 94 yX7_here ∈ TB ∧ Cond.instanceMethod yX7_here ∈ TB ∧ Cond.selects RX7 yX7_here yX7_here ∈ TB ∧ Cond.initialized RX7 ∈ TB ∧ Cond.code yX7_here cX7_here 1 (some .int) ∈ TB := ⟨tw_986, tw_988, tw_30, tw_66, tw_989⟩
theorem hd_J6_bitCount_0f7a4 : yJ6_bitCount_0f7a4.cls ≠ "java/lang/invoke/MethodHandle" ∧ yJ6_bitCount_0f7a4.cls ≠ "java/lang/invoke/VarHandle" ∧ (parseMethodDescriptor yJ6_bitCount_0f7a4.desc).map (fun d => d.parameters.length) = some 1 := ⟨by decide +kernel, by decide +kernel, by decide +kernel⟩
theorem hd_X0_at : yX0_at.cls = RX0 ∧ yX0_at.cls ≠ "java/lang/invoke/MethodHandle" ∧ yX0_at.cls ≠ "java/lang/invoke/VarHandle" ∧ (parseMethodDescriptor yX0_at.desc).map (fun d => d.parameters.length) = some 2 := ⟨rfl, by decide +kernel, by decide +kernel, by decide +kernel⟩
theorem hd_X0_become : yX0_become.cls = RX0 ∧ yX0_become.cls ≠ "java/lang/invoke/MethodHandle" ∧ yX0_become.cls ≠ "java/lang/invoke/VarHandle" ∧ (parseMethodDescriptor yX0_become.desc).map (fun d => d.parameters.length) = some 1 := ⟨rfl, by decide +kernel, by decide +kernel, by decide +kernel⟩
theorem hd_X0_fill : yX0_fill.cls = RX0 ∧ yX0_fill.cls ≠ "java/lang/invoke/MethodHandle" ∧ yX0_fill.cls ≠ "java/lang/invoke/VarHandle" ∧ (parseMethodDescriptor yX0_fill.desc).map (fun d => d.parameters.length) = some 1 := ⟨rfl, by decide +kernel, by decide +kernel, by decide +kernel⟩
theorem hd_X0_put : yX0_put.cls = RX0 ∧ yX0_put.cls ≠ "java/lang/invoke/MethodHandle" ∧ yX0_put.cls ≠ "java/lang/invoke/VarHandle" ∧ (parseMethodDescriptor yX0_put.desc).map (fun d => d.parameters.length) = some 3 := ⟨rfl, by decide +kernel, by decide +kernel, by decide +kernel⟩
theorem hd_X1_append : yX1_append.cls = RX1 ∧ yX1_append.cls ≠ "java/lang/invoke/MethodHandle" ∧ yX1_append.cls ≠ "java/lang/invoke/VarHandle" ∧ (parseMethodDescriptor yX1_append.desc).map (fun d => d.parameters.length) = some 1 := ⟨rfl, by decide +kernel, by decide +kernel, by decide +kernel⟩
theorem hd_X1_empty : yX1_empty.cls = RX1 ∧ yX1_empty.cls ≠ "java/lang/invoke/MethodHandle" ∧ yX1_empty.cls ≠ "java/lang/invoke/VarHandle" ∧ (parseMethodDescriptor yX1_empty.desc).map (fun d => d.parameters.length) = some 0 := ⟨rfl, by decide +kernel, by decide +kernel, by decide +kernel⟩
theorem hd_X1_length : yX1_length.cls = RX1 ∧ yX1_length.cls ≠ "java/lang/invoke/MethodHandle" ∧ yX1_length.cls ≠ "java/lang/invoke/VarHandle" ∧ (parseMethodDescriptor yX1_length.desc).map (fun d => d.parameters.length) = some 0 := ⟨rfl, by decide +kernel, by decide +kernel, by decide +kernel⟩
theorem hd_X1_letterHere : yX1_letterHere.cls = RX1 ∧ yX1_letterHere.cls ≠ "java/lang/invoke/MethodHandle" ∧ yX1_letterHere.cls ≠ "java/lang/invoke/VarHandle" ∧ (parseMethodDescriptor yX1_letterHere.desc).map (fun d => d.parameters.length) = some 0 := ⟨rfl, by decide +kernel, by decide +kernel, by decide +kernel⟩
theorem hd_X1_numbersBehind : yX1_numbersBehind.cls ≠ "java/lang/invoke/MethodHandle" ∧ yX1_numbersBehind.cls ≠ "java/lang/invoke/VarHandle" ∧ (parseMethodDescriptor yX1_numbersBehind.desc).map (fun d => d.parameters.length) = some 1 := ⟨by decide +kernel, by decide +kernel, by decide +kernel⟩
theorem hd_X1_readFigure : yX1_readFigure.cls = RX1 ∧ yX1_readFigure.cls ≠ "java/lang/invoke/MethodHandle" ∧ yX1_readFigure.cls ≠ "java/lang/invoke/VarHandle" ∧ (parseMethodDescriptor yX1_readFigure.desc).map (fun d => d.parameters.length) = some 0 := ⟨rfl, by decide +kernel, by decide +kernel, by decide +kernel⟩
theorem hd_X1_readInto : yX1_readInto.cls = RX1 ∧ yX1_readInto.cls ≠ "java/lang/invoke/MethodHandle" ∧ yX1_readInto.cls ≠ "java/lang/invoke/VarHandle" ∧ (parseMethodDescriptor yX1_readInto.desc).map (fun d => d.parameters.length) = some 1 := ⟨rfl, by decide +kernel, by decide +kernel, by decide +kernel⟩
theorem hd_X1_readItem : yX1_readItem.cls = RX1 ∧ yX1_readItem.cls ≠ "java/lang/invoke/MethodHandle" ∧ yX1_readItem.cls ≠ "java/lang/invoke/VarHandle" ∧ (parseMethodDescriptor yX1_readItem.desc).map (fun d => d.parameters.length) = some 2 := ⟨rfl, by decide +kernel, by decide +kernel, by decide +kernel⟩
theorem hd_X1_readNumbers : yX1_readNumbers.cls = RX1 ∧ yX1_readNumbers.cls ≠ "java/lang/invoke/MethodHandle" ∧ yX1_readNumbers.cls ≠ "java/lang/invoke/VarHandle" ∧ (parseMethodDescriptor yX1_readNumbers.desc).map (fun d => d.parameters.length) = some 1 := ⟨rfl, by decide +kernel, by decide +kernel, by decide +kernel⟩
theorem hd_X2_add : yX2_add.cls = RX2 ∧ yX2_add.cls ≠ "java/lang/invoke/MethodHandle" ∧ yX2_add.cls ≠ "java/lang/invoke/VarHandle" ∧ (parseMethodDescriptor yX2_add.desc).map (fun d => d.parameters.length) = some 3 := ⟨rfl, by decide +kernel, by decide +kernel, by decide +kernel⟩
theorem hd_X2_empty : yX2_empty.cls = RX2 ∧ yX2_empty.cls ≠ "java/lang/invoke/MethodHandle" ∧ yX2_empty.cls ≠ "java/lang/invoke/VarHandle" ∧ (parseMethodDescriptor yX2_empty.desc).map (fun d => d.parameters.length) = some 0 := ⟨rfl, by decide +kernel, by decide +kernel, by decide +kernel⟩
theorem hd_X2_held : yX2_held.cls = RX2 ∧ yX2_held.cls ≠ "java/lang/invoke/MethodHandle" ∧ yX2_held.cls ≠ "java/lang/invoke/VarHandle" ∧ (parseMethodDescriptor yX2_held.desc).map (fun d => d.parameters.length) = some 0 := ⟨rfl, by decide +kernel, by decide +kernel, by decide +kernel⟩
theorem hd_X2_number : yX2_number.cls = RX2 ∧ yX2_number.cls ≠ "java/lang/invoke/MethodHandle" ∧ yX2_number.cls ≠ "java/lang/invoke/VarHandle" ∧ (parseMethodDescriptor yX2_number.desc).map (fun d => d.parameters.length) = some 2 := ⟨rfl, by decide +kernel, by decide +kernel, by decide +kernel⟩
theorem hd_X3_become : yX3_become.cls = RX3 ∧ yX3_become.cls ≠ "java/lang/invoke/MethodHandle" ∧ yX3_become.cls ≠ "java/lang/invoke/VarHandle" ∧ (parseMethodDescriptor yX3_become.desc).map (fun d => d.parameters.length) = some 1 := ⟨rfl, by decide +kernel, by decide +kernel, by decide +kernel⟩
theorem hd_X3_between : yX3_between.cls = RX3 ∧ yX3_between.cls ≠ "java/lang/invoke/MethodHandle" ∧ yX3_between.cls ≠ "java/lang/invoke/VarHandle" ∧ (parseMethodDescriptor yX3_between.desc).map (fun d => d.parameters.length) = some 2 := ⟨rfl, by decide +kernel, by decide +kernel, by decide +kernel⟩
theorem hd_X3_change : yX3_change.cls = RX3 ∧ yX3_change.cls ≠ "java/lang/invoke/MethodHandle" ∧ yX3_change.cls ≠ "java/lang/invoke/VarHandle" ∧ (parseMethodDescriptor yX3_change.desc).map (fun d => d.parameters.length) = some 3 := ⟨rfl, by decide +kernel, by decide +kernel, by decide +kernel⟩
theorem hd_X3_clear : yX3_clear.cls = RX3 ∧ yX3_clear.cls ≠ "java/lang/invoke/MethodHandle" ∧ yX3_clear.cls ≠ "java/lang/invoke/VarHandle" ∧ (parseMethodDescriptor yX3_clear.desc).map (fun d => d.parameters.length) = some 1 := ⟨rfl, by decide +kernel, by decide +kernel, by decide +kernel⟩
theorem hd_X3_firstStep : yX3_firstStep.cls = RX3 ∧ yX3_firstStep.cls ≠ "java/lang/invoke/MethodHandle" ∧ yX3_firstStep.cls ≠ "java/lang/invoke/VarHandle" ∧ (parseMethodDescriptor yX3_firstStep.desc).map (fun d => d.parameters.length) = some 2 := ⟨rfl, by decide +kernel, by decide +kernel, by decide +kernel⟩
theorem hd_X3_howMany : yX3_howMany.cls = RX3 ∧ yX3_howMany.cls ≠ "java/lang/invoke/MethodHandle" ∧ yX3_howMany.cls ≠ "java/lang/invoke/VarHandle" ∧ (parseMethodDescriptor yX3_howMany.desc).map (fun d => d.parameters.length) = some 0 := ⟨rfl, by decide +kernel, by decide +kernel, by decide +kernel⟩
theorem hd_X3_milesOfAll : yX3_milesOfAll.cls = RX3 ∧ yX3_milesOfAll.cls ≠ "java/lang/invoke/MethodHandle" ∧ yX3_milesOfAll.cls ≠ "java/lang/invoke/VarHandle" ∧ (parseMethodDescriptor yX3_milesOfAll.desc).map (fun d => d.parameters.length) = some 0 := ⟨rfl, by decide +kernel, by decide +kernel, by decide +kernel⟩
theorem hd_X3_nearest : yX3_nearest.cls = RX3 ∧ yX3_nearest.cls ≠ "java/lang/invoke/MethodHandle" ∧ yX3_nearest.cls ≠ "java/lang/invoke/VarHandle" ∧ (parseMethodDescriptor yX3_nearest.desc).map (fun d => d.parameters.length) = some 1 := ⟨rfl, by decide +kernel, by decide +kernel, by decide +kernel⟩
theorem hd_X3_pathMiles : yX3_pathMiles.cls = RX3 ∧ yX3_pathMiles.cls ≠ "java/lang/invoke/MethodHandle" ∧ yX3_pathMiles.cls ≠ "java/lang/invoke/VarHandle" ∧ (parseMethodDescriptor yX3_pathMiles.desc).map (fun d => d.parameters.length) = some 2 := ⟨rfl, by decide +kernel, by decide +kernel, by decide +kernel⟩
theorem hd_X3_set : yX3_set.cls = RX3 ∧ yX3_set.cls ≠ "java/lang/invoke/MethodHandle" ∧ yX3_set.cls ≠ "java/lang/invoke/VarHandle" ∧ (parseMethodDescriptor yX3_set.desc).map (fun d => d.parameters.length) = some 3 := ⟨rfl, by decide +kernel, by decide +kernel, by decide +kernel⟩
theorem hd_X3_shorten : yX3_shorten.cls = RX3 ∧ yX3_shorten.cls ≠ "java/lang/invoke/MethodHandle" ∧ yX3_shorten.cls ≠ "java/lang/invoke/VarHandle" ∧ (parseMethodDescriptor yX3_shorten.desc).map (fun d => d.parameters.length) = some 3 := ⟨rfl, by decide +kernel, by decide +kernel, by decide +kernel⟩
theorem hd_X3_survey : yX3_survey.cls = RX3 ∧ yX3_survey.cls ≠ "java/lang/invoke/MethodHandle" ∧ yX3_survey.cls ≠ "java/lang/invoke/VarHandle" ∧ (parseMethodDescriptor yX3_survey.desc).map (fun d => d.parameters.length) = some 0 := ⟨rfl, by decide +kernel, by decide +kernel, by decide +kernel⟩
theorem hd_X3_townBehind : yX3_townBehind.cls = RX3 ∧ yX3_townBehind.cls ≠ "java/lang/invoke/MethodHandle" ∧ yX3_townBehind.cls ≠ "java/lang/invoke/VarHandle" ∧ (parseMethodDescriptor yX3_townBehind.desc).map (fun d => d.parameters.length) = some 1 := ⟨rfl, by decide +kernel, by decide +kernel, by decide +kernel⟩
theorem hd_X3_towns : yX3_towns.cls = RX3 ∧ yX3_towns.cls ≠ "java/lang/invoke/MethodHandle" ∧ yX3_towns.cls ≠ "java/lang/invoke/VarHandle" ∧ (parseMethodDescriptor yX3_towns.desc).map (fun d => d.parameters.length) = some 0 := ⟨rfl, by decide +kernel, by decide +kernel, by decide +kernel⟩
theorem hd_X3_turned : yX3_turned.cls = RX3 ∧ yX3_turned.cls ≠ "java/lang/invoke/MethodHandle" ∧ yX3_turned.cls ≠ "java/lang/invoke/VarHandle" ∧ (parseMethodDescriptor yX3_turned.desc).map (fun d => d.parameters.length) = some 2 := ⟨rfl, by decide +kernel, by decide +kernel, by decide +kernel⟩
theorem hd_X4_empty : yX4_empty.cls = RX4 ∧ yX4_empty.cls ≠ "java/lang/invoke/MethodHandle" ∧ yX4_empty.cls ≠ "java/lang/invoke/VarHandle" ∧ (parseMethodDescriptor yX4_empty.desc).map (fun d => d.parameters.length) = some 0 := ⟨rfl, by decide +kernel, by decide +kernel, by decide +kernel⟩
theorem hd_X4_giveBack : yX4_giveBack.cls = RX4 ∧ yX4_giveBack.cls ≠ "java/lang/invoke/MethodHandle" ∧ yX4_giveBack.cls ≠ "java/lang/invoke/VarHandle" ∧ (parseMethodDescriptor yX4_giveBack.desc).map (fun d => d.parameters.length) = some 1 := ⟨rfl, by decide +kernel, by decide +kernel, by decide +kernel⟩
theorem hd_X4_held : yX4_held.cls = RX4 ∧ yX4_held.cls ≠ "java/lang/invoke/MethodHandle" ∧ yX4_held.cls ≠ "java/lang/invoke/VarHandle" ∧ (parseMethodDescriptor yX4_held.desc).map (fun d => d.parameters.length) = some 0 := ⟨rfl, by decide +kernel, by decide +kernel, by decide +kernel⟩
theorem hd_X4_setAside : yX4_setAside.cls = RX4 ∧ yX4_setAside.cls ≠ "java/lang/invoke/MethodHandle" ∧ yX4_setAside.cls ≠ "java/lang/invoke/VarHandle" ∧ (parseMethodDescriptor yX4_setAside.desc).map (fun d => d.parameters.length) = some 1 := ⟨rfl, by decide +kernel, by decide +kernel, by decide +kernel⟩
theorem hd_X5_ageOf : yX5_ageOf.cls = RX5 ∧ yX5_ageOf.cls ≠ "java/lang/invoke/MethodHandle" ∧ yX5_ageOf.cls ≠ "java/lang/invoke/VarHandle" ∧ (parseMethodDescriptor yX5_ageOf.desc).map (fun d => d.parameters.length) = some 1 := ⟨rfl, by decide +kernel, by decide +kernel, by decide +kernel⟩
theorem hd_X5_areTwoTowns : yX5_areTwoTowns.cls = RX5 ∧ yX5_areTwoTowns.cls ≠ "java/lang/invoke/MethodHandle" ∧ yX5_areTwoTowns.cls ≠ "java/lang/invoke/VarHandle" ∧ (parseMethodDescriptor yX5_areTwoTowns.desc).map (fun d => d.parameters.length) = some 2 := ⟨rfl, by decide +kernel, by decide +kernel, by decide +kernel⟩
theorem hd_X5_armOf : yX5_armOf.cls = RX5 ∧ yX5_armOf.cls ≠ "java/lang/invoke/MethodHandle" ∧ yX5_armOf.cls ≠ "java/lang/invoke/VarHandle" ∧ (parseMethodDescriptor yX5_armOf.desc).map (fun d => d.parameters.length) = some 2 := ⟨rfl, by decide +kernel, by decide +kernel, by decide +kernel⟩
theorem hd_X5_become : yX5_become.cls = RX5 ∧ yX5_become.cls ≠ "java/lang/invoke/MethodHandle" ∧ yX5_become.cls ≠ "java/lang/invoke/VarHandle" ∧ (parseMethodDescriptor yX5_become.desc).map (fun d => d.parameters.length) = some 1 := ⟨rfl, by decide +kernel, by decide +kernel, by decide +kernel⟩
theorem hd_X5_clear : yX5_clear.cls = RX5 ∧ yX5_clear.cls ≠ "java/lang/invoke/MethodHandle" ∧ yX5_clear.cls ≠ "java/lang/invoke/VarHandle" ∧ (parseMethodDescriptor yX5_clear.desc).map (fun d => d.parameters.length) = some 0 := ⟨rfl, by decide +kernel, by decide +kernel, by decide +kernel⟩
theorem hd_X5_comeCount : yX5_comeCount.cls = RX5 ∧ yX5_comeCount.cls ≠ "java/lang/invoke/MethodHandle" ∧ yX5_comeCount.cls ≠ "java/lang/invoke/VarHandle" ∧ (parseMethodDescriptor yX5_comeCount.desc).map (fun d => d.parameters.length) = some 0 := ⟨rfl, by decide +kernel, by decide +kernel, by decide +kernel⟩
theorem hd_X5_dropPosts : yX5_dropPosts.cls = RX5 ∧ yX5_dropPosts.cls ≠ "java/lang/invoke/MethodHandle" ∧ yX5_dropPosts.cls ≠ "java/lang/invoke/VarHandle" ∧ (parseMethodDescriptor yX5_dropPosts.desc).map (fun d => d.parameters.length) = some 0 := ⟨rfl, by decide +kernel, by decide +kernel, by decide +kernel⟩
theorem hd_X5_goalOf : yX5_goalOf.cls = RX5 ∧ yX5_goalOf.cls ≠ "java/lang/invoke/MethodHandle" ∧ yX5_goalOf.cls ≠ "java/lang/invoke/VarHandle" ∧ (parseMethodDescriptor yX5_goalOf.desc).map (fun d => d.parameters.length) = some 1 := ⟨rfl, by decide +kernel, by decide +kernel, by decide +kernel⟩
theorem hd_X5_hasCome : yX5_hasCome.cls = RX5 ∧ yX5_hasCome.cls ≠ "java/lang/invoke/MethodHandle" ∧ yX5_hasCome.cls ≠ "java/lang/invoke/VarHandle" ∧ (parseMethodDescriptor yX5_hasCome.desc).map (fun d => d.parameters.length) = some 1 := ⟨rfl, by decide +kernel, by decide +kernel, by decide +kernel⟩
theorem hd_X5_hour : yX5_hour.cls = RX5 ∧ yX5_hour.cls ≠ "java/lang/invoke/MethodHandle" ∧ yX5_hour.cls ≠ "java/lang/invoke/VarHandle" ∧ (parseMethodDescriptor yX5_hour.desc).map (fun d => d.parameters.length) = some 0 := ⟨rfl, by decide +kernel, by decide +kernel, by decide +kernel⟩
theorem hd_X5_isPost : yX5_isPost.cls = RX5 ∧ yX5_isPost.cls ≠ "java/lang/invoke/MethodHandle" ∧ yX5_isPost.cls ≠ "java/lang/invoke/VarHandle" ∧ (parseMethodDescriptor yX5_isPost.desc).map (fun d => d.parameters.length) = some 1 := ⟨rfl, by decide +kernel, by decide +kernel, by decide +kernel⟩
theorem hd_X5_isRetired : yX5_isRetired.cls = RX5 ∧ yX5_isRetired.cls ≠ "java/lang/invoke/MethodHandle" ∧ yX5_isRetired.cls ≠ "java/lang/invoke/VarHandle" ∧ (parseMethodDescriptor yX5_isRetired.desc).map (fun d => d.parameters.length) = some 1 := ⟨rfl, by decide +kernel, by decide +kernel, by decide +kernel⟩
theorem hd_X5_isTown : yX5_isTown.cls = RX5 ∧ yX5_isTown.cls ≠ "java/lang/invoke/MethodHandle" ∧ yX5_isTown.cls ≠ "java/lang/invoke/VarHandle" ∧ (parseMethodDescriptor yX5_isTown.desc).map (fun d => d.parameters.length) = some 1 := ⟨rfl, by decide +kernel, by decide +kernel, by decide +kernel⟩
theorem hd_X5_isWalker : yX5_isWalker.cls = RX5 ∧ yX5_isWalker.cls ≠ "java/lang/invoke/MethodHandle" ∧ yX5_isWalker.cls ≠ "java/lang/invoke/VarHandle" ∧ (parseMethodDescriptor yX5_isWalker.desc).map (fun d => d.parameters.length) = some 1 := ⟨rfl, by decide +kernel, by decide +kernel, by decide +kernel⟩
theorem hd_X5_kindOf : yX5_kindOf.cls = RX5 ∧ yX5_kindOf.cls ≠ "java/lang/invoke/MethodHandle" ∧ yX5_kindOf.cls ≠ "java/lang/invoke/VarHandle" ∧ (parseMethodDescriptor yX5_kindOf.desc).map (fun d => d.parameters.length) = some 1 := ⟨rfl, by decide +kernel, by decide +kernel, by decide +kernel⟩
theorem hd_X5_lowestPostIn : yX5_lowestPostIn.cls = RX5 ∧ yX5_lowestPostIn.cls ≠ "java/lang/invoke/MethodHandle" ∧ yX5_lowestPostIn.cls ≠ "java/lang/invoke/VarHandle" ∧ (parseMethodDescriptor yX5_lowestPostIn.desc).map (fun d => d.parameters.length) = some 1 := ⟨rfl, by decide +kernel, by decide +kernel, by decide +kernel⟩
theorem hd_X5_milesOf : yX5_milesOf.cls = RX5 ∧ yX5_milesOf.cls ≠ "java/lang/invoke/MethodHandle" ∧ yX5_milesOf.cls ≠ "java/lang/invoke/VarHandle" ∧ (parseMethodDescriptor yX5_milesOf.desc).map (fun d => d.parameters.length) = some 2 := ⟨rfl, by decide +kernel, by decide +kernel, by decide +kernel⟩
theorem hd_X5_movePost : yX5_movePost.cls = RX5 ∧ yX5_movePost.cls ≠ "java/lang/invoke/MethodHandle" ∧ yX5_movePost.cls ≠ "java/lang/invoke/VarHandle" ∧ (parseMethodDescriptor yX5_movePost.desc).map (fun d => d.parameters.length) = some 2 := ⟨rfl, by decide +kernel, by decide +kernel, by decide +kernel⟩
theorem hd_X5_noneRetired : yX5_noneRetired.cls = RX5 ∧ yX5_noneRetired.cls ≠ "java/lang/invoke/MethodHandle" ∧ yX5_noneRetired.cls ≠ "java/lang/invoke/VarHandle" ∧ (parseMethodDescriptor yX5_noneRetired.desc).map (fun d => d.parameters.length) = some 1 := ⟨rfl, by decide +kernel, by decide +kernel, by decide +kernel⟩
theorem hd_X5_paintAll : yX5_paintAll.cls = RX5 ∧ yX5_paintAll.cls ≠ "java/lang/invoke/MethodHandle" ∧ yX5_paintAll.cls ≠ "java/lang/invoke/VarHandle" ∧ (parseMethodDescriptor yX5_paintAll.desc).map (fun d => d.parameters.length) = some 0 := ⟨rfl, by decide +kernel, by decide +kernel, by decide +kernel⟩
theorem hd_X5_paintPost : yX5_paintPost.cls = RX5 ∧ yX5_paintPost.cls ≠ "java/lang/invoke/MethodHandle" ∧ yX5_paintPost.cls ≠ "java/lang/invoke/VarHandle" ∧ (parseMethodDescriptor yX5_paintPost.desc).map (fun d => d.parameters.length) = some 1 := ⟨rfl, by decide +kernel, by decide +kernel, by decide +kernel⟩
theorem hd_X5_passHours : yX5_passHours.cls = RX5 ∧ yX5_passHours.cls ≠ "java/lang/invoke/MethodHandle" ∧ yX5_passHours.cls ≠ "java/lang/invoke/VarHandle" ∧ (parseMethodDescriptor yX5_passHours.desc).map (fun d => d.parameters.length) = some 1 := ⟨rfl, by decide +kernel, by decide +kernel, by decide +kernel⟩
theorem hd_X5_passYear : yX5_passYear.cls = RX5 ∧ yX5_passYear.cls ≠ "java/lang/invoke/MethodHandle" ∧ yX5_passYear.cls ≠ "java/lang/invoke/VarHandle" ∧ (parseMethodDescriptor yX5_passYear.desc).map (fun d => d.parameters.length) = some 0 := ⟨rfl, by decide +kernel, by decide +kernel, by decide +kernel⟩
theorem hd_X5_placeOf : yX5_placeOf.cls = RX5 ∧ yX5_placeOf.cls ≠ "java/lang/invoke/MethodHandle" ∧ yX5_placeOf.cls ≠ "java/lang/invoke/VarHandle" ∧ (parseMethodDescriptor yX5_placeOf.desc).map (fun d => d.parameters.length) = some 1 := ⟨rfl, by decide +kernel, by decide +kernel, by decide +kernel⟩
theorem hd_X5_pointing : yX5_pointing.cls = RX5 ∧ yX5_pointing.cls ≠ "java/lang/invoke/MethodHandle" ∧ yX5_pointing.cls ≠ "java/lang/invoke/VarHandle" ∧ (parseMethodDescriptor yX5_pointing.desc).map (fun d => d.parameters.length) = some 2 := ⟨rfl, by decide +kernel, by decide +kernel, by decide +kernel⟩
theorem hd_X5_posts : yX5_posts.cls = RX5 ∧ yX5_posts.cls ≠ "java/lang/invoke/MethodHandle" ∧ yX5_posts.cls ≠ "java/lang/invoke/VarHandle" ∧ (parseMethodDescriptor yX5_posts.desc).map (fun d => d.parameters.length) = some 0 := ⟨rfl, by decide +kernel, by decide +kernel, by decide +kernel⟩
theorem hd_X5_retirePost : yX5_retirePost.cls = RX5 ∧ yX5_retirePost.cls ≠ "java/lang/invoke/MethodHandle" ∧ yX5_retirePost.cls ≠ "java/lang/invoke/VarHandle" ∧ (parseMethodDescriptor yX5_retirePost.desc).map (fun d => d.parameters.length) = some 1 := ⟨rfl, by decide +kernel, by decide +kernel, by decide +kernel⟩
theorem hd_X5_retiredCount : yX5_retiredCount.cls = RX5 ∧ yX5_retiredCount.cls ≠ "java/lang/invoke/MethodHandle" ∧ yX5_retiredCount.cls ≠ "java/lang/invoke/VarHandle" ∧ (parseMethodDescriptor yX5_retiredCount.desc).map (fun d => d.parameters.length) = some 0 := ⟨rfl, by decide +kernel, by decide +kernel, by decide +kernel⟩
theorem hd_X5_roads : yX5_roads.cls = RX5 ∧ yX5_roads.cls ≠ "java/lang/invoke/MethodHandle" ∧ yX5_roads.cls ≠ "java/lang/invoke/VarHandle" ∧ (parseMethodDescriptor yX5_roads.desc).map (fun d => d.parameters.length) = some 0 := ⟨rfl, by decide +kernel, by decide +kernel, by decide +kernel⟩
theorem hd_X5_standPlain : yX5_standPlain.cls = RX5 ∧ yX5_standPlain.cls ≠ "java/lang/invoke/MethodHandle" ∧ yX5_standPlain.cls ≠ "java/lang/invoke/VarHandle" ∧ (parseMethodDescriptor yX5_standPlain.desc).map (fun d => d.parameters.length) = some 1 := ⟨rfl, by decide +kernel, by decide +kernel, by decide +kernel⟩
theorem hd_X5_stepFrom : yX5_stepFrom.cls = RX5 ∧ yX5_stepFrom.cls ≠ "java/lang/invoke/MethodHandle" ∧ yX5_stepFrom.cls ≠ "java/lang/invoke/VarHandle" ∧ (parseMethodDescriptor yX5_stepFrom.desc).map (fun d => d.parameters.length) = some 2 := ⟨rfl, by decide +kernel, by decide +kernel, by decide +kernel⟩
theorem hd_X5_tellPost : yX5_tellPost.cls = RX5 ∧ yX5_tellPost.cls ≠ "java/lang/invoke/MethodHandle" ∧ yX5_tellPost.cls ≠ "java/lang/invoke/VarHandle" ∧ (parseMethodDescriptor yX5_tellPost.desc).map (fun d => d.parameters.length) = some 3 := ⟨rfl, by decide +kernel, by decide +kernel, by decide +kernel⟩
theorem hd_X5_tellRoad : yX5_tellRoad.cls = RX5 ∧ yX5_tellRoad.cls ≠ "java/lang/invoke/MethodHandle" ∧ yX5_tellRoad.cls ≠ "java/lang/invoke/VarHandle" ∧ (parseMethodDescriptor yX5_tellRoad.desc).map (fun d => d.parameters.length) = some 3 := ⟨rfl, by decide +kernel, by decide +kernel, by decide +kernel⟩
theorem hd_X5_tellTowns : yX5_tellTowns.cls = RX5 ∧ yX5_tellTowns.cls ≠ "java/lang/invoke/MethodHandle" ∧ yX5_tellTowns.cls ≠ "java/lang/invoke/VarHandle" ∧ (parseMethodDescriptor yX5_tellTowns.desc).map (fun d => d.parameters.length) = some 1 := ⟨rfl, by decide +kernel, by decide +kernel, by decide +kernel⟩
theorem hd_X5_tellWalker : yX5_tellWalker.cls = RX5 ∧ yX5_tellWalker.cls ≠ "java/lang/invoke/MethodHandle" ∧ yX5_tellWalker.cls ≠ "java/lang/invoke/VarHandle" ∧ (parseMethodDescriptor yX5_tellWalker.desc).map (fun d => d.parameters.length) = some 2 := ⟨rfl, by decide +kernel, by decide +kernel, by decide +kernel⟩
theorem hd_X5_townOf : yX5_townOf.cls = RX5 ∧ yX5_townOf.cls ≠ "java/lang/invoke/MethodHandle" ∧ yX5_townOf.cls ≠ "java/lang/invoke/VarHandle" ∧ (parseMethodDescriptor yX5_townOf.desc).map (fun d => d.parameters.length) = some 1 := ⟨rfl, by decide +kernel, by decide +kernel, by decide +kernel⟩
theorem hd_X5_towns : yX5_towns.cls = RX5 ∧ yX5_towns.cls ≠ "java/lang/invoke/MethodHandle" ∧ yX5_towns.cls ≠ "java/lang/invoke/VarHandle" ∧ (parseMethodDescriptor yX5_towns.desc).map (fun d => d.parameters.length) = some 0 := ⟨rfl, by decide +kernel, by decide +kernel, by decide +kernel⟩
theorem hd_X5_turnInto : yX5_turnInto.cls = RX5 ∧ yX5_turnInto.cls ≠ "java/lang/invoke/MethodHandle" ∧ yX5_turnInto.cls ≠ "java/lang/invoke/VarHandle" ∧ (parseMethodDescriptor yX5_turnInto.desc).map (fun d => d.parameters.length) = some 2 := ⟨rfl, by decide +kernel, by decide +kernel, by decide +kernel⟩
theorem hd_X5_turnsOf : yX5_turnsOf.cls = RX5 ∧ yX5_turnsOf.cls ≠ "java/lang/invoke/MethodHandle" ∧ yX5_turnsOf.cls ≠ "java/lang/invoke/VarHandle" ∧ (parseMethodDescriptor yX5_turnsOf.desc).map (fun d => d.parameters.length) = some 1 := ⟨rfl, by decide +kernel, by decide +kernel, by decide +kernel⟩
theorem hd_X5_twist : yX5_twist.cls = RX5 ∧ yX5_twist.cls ≠ "java/lang/invoke/MethodHandle" ∧ yX5_twist.cls ≠ "java/lang/invoke/VarHandle" ∧ (parseMethodDescriptor yX5_twist.desc).map (fun d => d.parameters.length) = some 1 := ⟨rfl, by decide +kernel, by decide +kernel, by decide +kernel⟩
theorem hd_X5_walkers : yX5_walkers.cls = RX5 ∧ yX5_walkers.cls ≠ "java/lang/invoke/MethodHandle" ∧ yX5_walkers.cls ≠ "java/lang/invoke/VarHandle" ∧ (parseMethodDescriptor yX5_walkers.desc).map (fun d => d.parameters.length) = some 0 := ⟨rfl, by decide +kernel, by decide +kernel, by decide +kernel⟩
theorem hd_X5_years : yX5_years.cls = RX5 ∧ yX5_years.cls ≠ "java/lang/invoke/MethodHandle" ∧ yX5_years.cls ≠ "java/lang/invoke/VarHandle" ∧ (parseMethodDescriptor yX5_years.desc).map (fun d => d.parameters.length) = some 0 := ⟨rfl, by decide +kernel, by decide +kernel, by decide +kernel⟩
theorem hd_X6_actByDraw : yX6_actByDraw.cls = RX6 ∧ yX6_actByDraw.cls ≠ "java/lang/invoke/MethodHandle" ∧ yX6_actByDraw.cls ≠ "java/lang/invoke/VarHandle" ∧ (parseMethodDescriptor yX6_actByDraw.desc).map (fun d => d.parameters.length) = some 1 := ⟨rfl, by decide +kernel, by decide +kernel, by decide +kernel⟩
theorem hd_X6_alikeWith : yX6_alikeWith.cls = RX6 ∧ yX6_alikeWith.cls ≠ "java/lang/invoke/MethodHandle" ∧ yX6_alikeWith.cls ≠ "java/lang/invoke/VarHandle" ∧ (parseMethodDescriptor yX6_alikeWith.desc).map (fun d => d.parameters.length) = some 3 := ⟨rfl, by decide +kernel, by decide +kernel, by decide +kernel⟩
theorem hd_X6_comersHelpedIn : yX6_comersHelpedIn.cls = RX6 ∧ yX6_comersHelpedIn.cls ≠ "java/lang/invoke/MethodHandle" ∧ yX6_comersHelpedIn.cls ≠ "java/lang/invoke/VarHandle" ∧ (parseMethodDescriptor yX6_comersHelpedIn.desc).map (fun d => d.parameters.length) = some 1 := ⟨rfl, by decide +kernel, by decide +kernel, by decide +kernel⟩
theorem hd_X6_comersPainted : yX6_comersPainted.cls = RX6 ∧ yX6_comersPainted.cls ≠ "java/lang/invoke/MethodHandle" ∧ yX6_comersPainted.cls ≠ "java/lang/invoke/VarHandle" ∧ (parseMethodDescriptor yX6_comersPainted.desc).map (fun d => d.parameters.length) = some 1 := ⟨rfl, by decide +kernel, by decide +kernel, by decide +kernel⟩
theorem hd_X6_comesTwisted : yX6_comesTwisted.cls = RX6 ∧ yX6_comesTwisted.cls ≠ "java/lang/invoke/MethodHandle" ∧ yX6_comesTwisted.cls ≠ "java/lang/invoke/VarHandle" ∧ (parseMethodDescriptor yX6_comesTwisted.desc).map (fun d => d.parameters.length) = some 2 := ⟨rfl, by decide +kernel, by decide +kernel, by decide +kernel⟩
theorem hd_X6_commonPart : yX6_commonPart.cls ≠ "java/lang/invoke/MethodHandle" ∧ yX6_commonPart.cls ≠ "java/lang/invoke/VarHandle" ∧ (parseMethodDescriptor yX6_commonPart.desc).map (fun d => d.parameters.length) = some 2 := ⟨by decide +kernel, by decide +kernel, by decide +kernel⟩
theorem hd_X6_drawn : yX6_drawn.cls ≠ "java/lang/invoke/MethodHandle" ∧ yX6_drawn.cls ≠ "java/lang/invoke/VarHandle" ∧ (parseMethodDescriptor yX6_drawn.desc).map (fun d => d.parameters.length) = some 2 := ⟨by decide +kernel, by decide +kernel, by decide +kernel⟩
theorem hd_X6_fitsSightings : yX6_fitsSightings.cls = RX6 ∧ yX6_fitsSightings.cls ≠ "java/lang/invoke/MethodHandle" ∧ yX6_fitsSightings.cls ≠ "java/lang/invoke/VarHandle" ∧ (parseMethodDescriptor yX6_fitsSightings.desc).map (fun d => d.parameters.length) = some 1 := ⟨rfl, by decide +kernel, by decide +kernel, by decide +kernel⟩
theorem hd_X6_hasBit : yX6_hasBit.cls ≠ "java/lang/invoke/MethodHandle" ∧ yX6_hasBit.cls ≠ "java/lang/invoke/VarHandle" ∧ (parseMethodDescriptor yX6_hasBit.desc).map (fun d => d.parameters.length) = some 2 := ⟨by decide +kernel, by decide +kernel, by decide +kernel⟩
theorem hd_X6_isCover : yX6_isCover.cls = RX6 ∧ yX6_isCover.cls ≠ "java/lang/invoke/MethodHandle" ∧ yX6_isCover.cls ≠ "java/lang/invoke/VarHandle" ∧ (parseMethodDescriptor yX6_isCover.desc).map (fun d => d.parameters.length) = some 1 := ⟨rfl, by decide +kernel, by decide +kernel, by decide +kernel⟩
theorem hd_X6_layOrClose : yX6_layOrClose.cls = RX6 ∧ yX6_layOrClose.cls ≠ "java/lang/invoke/MethodHandle" ∧ yX6_layOrClose.cls ≠ "java/lang/invoke/VarHandle" ∧ (parseMethodDescriptor yX6_layOrClose.desc).map (fun d => d.parameters.length) = some 2 := ⟨rfl, by decide +kernel, by decide +kernel, by decide +kernel⟩
theorem hd_X6_mostAlike : yX6_mostAlike.cls = RX6 ∧ yX6_mostAlike.cls ≠ "java/lang/invoke/MethodHandle" ∧ yX6_mostAlike.cls ≠ "java/lang/invoke/VarHandle" ∧ (parseMethodDescriptor yX6_mostAlike.desc).map (fun d => d.parameters.length) = some 2 := ⟨rfl, by decide +kernel, by decide +kernel, by decide +kernel⟩
theorem hd_X6_stood : yX6_stood.cls = RX6 ∧ yX6_stood.cls ≠ "java/lang/invoke/MethodHandle" ∧ yX6_stood.cls ≠ "java/lang/invoke/VarHandle" ∧ (parseMethodDescriptor yX6_stood.desc).map (fun d => d.parameters.length) = some 0 := ⟨rfl, by decide +kernel, by decide +kernel, by decide +kernel⟩
theorem hd_X6_tellAlike : yX6_tellAlike.cls = RX6 ∧ yX6_tellAlike.cls ≠ "java/lang/invoke/MethodHandle" ∧ yX6_tellAlike.cls ≠ "java/lang/invoke/VarHandle" ∧ (parseMethodDescriptor yX6_tellAlike.desc).map (fun d => d.parameters.length) = some 3 := ⟨rfl, by decide +kernel, by decide +kernel, by decide +kernel⟩
theorem hd_X6_tellsAll : yX6_tellsAll.cls = RX6 ∧ yX6_tellsAll.cls ≠ "java/lang/invoke/MethodHandle" ∧ yX6_tellsAll.cls ≠ "java/lang/invoke/VarHandle" ∧ (parseMethodDescriptor yX6_tellsAll.desc).map (fun d => d.parameters.length) = some 1 := ⟨rfl, by decide +kernel, by decide +kernel, by decide +kernel⟩
theorem hd_X6_weightOf : yX6_weightOf.cls = RX6 ∧ yX6_weightOf.cls ≠ "java/lang/invoke/MethodHandle" ∧ yX6_weightOf.cls ≠ "java/lang/invoke/VarHandle" ∧ (parseMethodDescriptor yX6_weightOf.desc).map (fun d => d.parameters.length) = some 2 := ⟨rfl, by decide +kernel, by decide +kernel, by decide +kernel⟩
theorem hd_X7_areAlike : yX7_areAlike.cls = RX7 ∧ yX7_areAlike.cls ≠ "java/lang/invoke/MethodHandle" ∧ yX7_areAlike.cls ≠ "java/lang/invoke/VarHandle" ∧ (parseMethodDescriptor yX7_areAlike.desc).map (fun d => d.parameters.length) = some 3 := ⟨rfl, by decide +kernel, by decide +kernel, by decide +kernel⟩
theorem hd_X7_begin : yX7_begin.cls = RX7 ∧ yX7_begin.cls ≠ "java/lang/invoke/MethodHandle" ∧ yX7_begin.cls ≠ "java/lang/invoke/VarHandle" ∧ (parseMethodDescriptor yX7_begin.desc).map (fun d => d.parameters.length) = some 0 := ⟨rfl, by decide +kernel, by decide +kernel, by decide +kernel⟩
theorem hd_X7_bitsOf : yX7_bitsOf.cls ≠ "java/lang/invoke/MethodHandle" ∧ yX7_bitsOf.cls ≠ "java/lang/invoke/VarHandle" ∧ (parseMethodDescriptor yX7_bitsOf.desc).map (fun d => d.parameters.length) = some 1 := ⟨by decide +kernel, by decide +kernel, by decide +kernel⟩
theorem hd_X7_comeBy : yX7_comeBy.cls = RX7 ∧ yX7_comeBy.cls ≠ "java/lang/invoke/MethodHandle" ∧ yX7_comeBy.cls ≠ "java/lang/invoke/VarHandle" ∧ (parseMethodDescriptor yX7_comeBy.desc).map (fun d => d.parameters.length) = some 0 := ⟨rfl, by decide +kernel, by decide +kernel, by decide +kernel⟩
theorem hd_X7_comeTo : yX7_comeTo.cls = RX7 ∧ yX7_comeTo.cls ≠ "java/lang/invoke/MethodHandle" ∧ yX7_comeTo.cls ≠ "java/lang/invoke/VarHandle" ∧ (parseMethodDescriptor yX7_comeTo.desc).map (fun d => d.parameters.length) = some 1 := ⟨rfl, by decide +kernel, by decide +kernel, by decide +kernel⟩
theorem hd_X7_comes : yX7_comes.cls = RX7 ∧ yX7_comes.cls ≠ "java/lang/invoke/MethodHandle" ∧ yX7_comes.cls ≠ "java/lang/invoke/VarHandle" ∧ (parseMethodDescriptor yX7_comes.desc).map (fun d => d.parameters.length) = some 1 := ⟨rfl, by decide +kernel, by decide +kernel, by decide +kernel⟩
theorem hd_X7_due : yX7_due.cls = RX7 ∧ yX7_due.cls ≠ "java/lang/invoke/MethodHandle" ∧ yX7_due.cls ≠ "java/lang/invoke/VarHandle" ∧ (parseMethodDescriptor yX7_due.desc).map (fun d => d.parameters.length) = some 1 := ⟨rfl, by decide +kernel, by decide +kernel, by decide +kernel⟩
theorem hd_X7_goesTo : yX7_goesTo.cls = RX7 ∧ yX7_goesTo.cls ≠ "java/lang/invoke/MethodHandle" ∧ yX7_goesTo.cls ≠ "java/lang/invoke/VarHandle" ∧ (parseMethodDescriptor yX7_goesTo.desc).map (fun d => d.parameters.length) = some 2 := ⟨rfl, by decide +kernel, by decide +kernel, by decide +kernel⟩
theorem hd_X7_has : yX7_has.cls ≠ "java/lang/invoke/MethodHandle" ∧ yX7_has.cls ≠ "java/lang/invoke/VarHandle" ∧ (parseMethodDescriptor yX7_has.desc).map (fun d => d.parameters.length) = some 2 := ⟨by decide +kernel, by decide +kernel, by decide +kernel⟩
theorem hd_X7_here : yX7_here.cls = RX7 ∧ yX7_here.cls ≠ "java/lang/invoke/MethodHandle" ∧ yX7_here.cls ≠ "java/lang/invoke/VarHandle" ∧ (parseMethodDescriptor yX7_here.desc).map (fun d => d.parameters.length) = some 0 := ⟨rfl, by decide +kernel, by decide +kernel, by decide +kernel⟩
theorem hd_X7_in : yX7_in.cls ≠ "java/lang/invoke/MethodHandle" ∧ yX7_in.cls ≠ "java/lang/invoke/VarHandle" ∧ (parseMethodDescriptor yX7_in.desc).map (fun d => d.parameters.length) = some 3 := ⟨by decide +kernel, by decide +kernel, by decide +kernel⟩
theorem hd_X7_isFigure : yX7_isFigure.cls = RX7 ∧ yX7_isFigure.cls ≠ "java/lang/invoke/MethodHandle" ∧ yX7_isFigure.cls ≠ "java/lang/invoke/VarHandle" ∧ (parseMethodDescriptor yX7_isFigure.desc).map (fun d => d.parameters.length) = some 0 := ⟨rfl, by decide +kernel, by decide +kernel, by decide +kernel⟩
theorem hd_X7_isPost : yX7_isPost.cls = RX7 ∧ yX7_isPost.cls ≠ "java/lang/invoke/MethodHandle" ∧ yX7_isPost.cls ≠ "java/lang/invoke/VarHandle" ∧ (parseMethodDescriptor yX7_isPost.desc).map (fun d => d.parameters.length) = some 1 := ⟨rfl, by decide +kernel, by decide +kernel, by decide +kernel⟩
theorem hd_X7_isTown : yX7_isTown.cls = RX7 ∧ yX7_isTown.cls ≠ "java/lang/invoke/MethodHandle" ∧ yX7_isTown.cls ≠ "java/lang/invoke/VarHandle" ∧ (parseMethodDescriptor yX7_isTown.desc).map (fun d => d.parameters.length) = some 1 := ⟨rfl, by decide +kernel, by decide +kernel, by decide +kernel⟩
theorem hd_X7_isWalker : yX7_isWalker.cls = RX7 ∧ yX7_isWalker.cls ≠ "java/lang/invoke/MethodHandle" ∧ yX7_isWalker.cls ≠ "java/lang/invoke/VarHandle" ∧ (parseMethodDescriptor yX7_isWalker.desc).map (fun d => d.parameters.length) = some 1 := ⟨rfl, by decide +kernel, by decide +kernel, by decide +kernel⟩
theorem hd_X7_know : yX7_know.cls = RX7 ∧ yX7_know.cls ≠ "java/lang/invoke/MethodHandle" ∧ yX7_know.cls ≠ "java/lang/invoke/VarHandle" ∧ (parseMethodDescriptor yX7_know.desc).map (fun d => d.parameters.length) = some 0 := ⟨rfl, by decide +kernel, by decide +kernel, by decide +kernel⟩
theorem hd_X7_layOn : yX7_layOn.cls ≠ "java/lang/invoke/MethodHandle" ∧ yX7_layOn.cls ≠ "java/lang/invoke/VarHandle" ∧ (parseMethodDescriptor yX7_layOn.desc).map (fun d => d.parameters.length) = some 4 := ⟨by decide +kernel, by decide +kernel, by decide +kernel⟩
theorem hd_X7_measure : yX7_measure.cls = RX7 ∧ yX7_measure.cls ≠ "java/lang/invoke/MethodHandle" ∧ yX7_measure.cls ≠ "java/lang/invoke/VarHandle" ∧ (parseMethodDescriptor yX7_measure.desc).map (fun d => d.parameters.length) = some 1 := ⟨rfl, by decide +kernel, by decide +kernel, by decide +kernel⟩
theorem hd_X7_nextOn : yX7_nextOn.cls = RX7 ∧ yX7_nextOn.cls ≠ "java/lang/invoke/MethodHandle" ∧ yX7_nextOn.cls ≠ "java/lang/invoke/VarHandle" ∧ (parseMethodDescriptor yX7_nextOn.desc).map (fun d => d.parameters.length) = some 3 := ⟨rfl, by decide +kernel, by decide +kernel, by decide +kernel⟩
theorem hd_X7_number : yX7_number.cls = RX7 ∧ yX7_number.cls ≠ "java/lang/invoke/MethodHandle" ∧ yX7_number.cls ≠ "java/lang/invoke/VarHandle" ∧ (parseMethodDescriptor yX7_number.desc).map (fun d => d.parameters.length) = some 2 := ⟨rfl, by decide +kernel, by decide +kernel, by decide +kernel⟩
theorem hd_X7_paintOn : yX7_paintOn.cls = RX7 ∧ yX7_paintOn.cls ≠ "java/lang/invoke/MethodHandle" ∧ yX7_paintOn.cls ≠ "java/lang/invoke/VarHandle" ∧ (parseMethodDescriptor yX7_paintOn.desc).map (fun d => d.parameters.length) = some 2 := ⟨rfl, by decide +kernel, by decide +kernel, by decide +kernel⟩
theorem hd_X7_passHour : yX7_passHour.cls = RX7 ∧ yX7_passHour.cls ≠ "java/lang/invoke/MethodHandle" ∧ yX7_passHour.cls ≠ "java/lang/invoke/VarHandle" ∧ (parseMethodDescriptor yX7_passHour.desc).map (fun d => d.parameters.length) = some 1 := ⟨rfl, by decide +kernel, by decide +kernel, by decide +kernel⟩
theorem hd_X7_passYear : yX7_passYear.cls = RX7 ∧ yX7_passYear.cls ≠ "java/lang/invoke/MethodHandle" ∧ yX7_passYear.cls ≠ "java/lang/invoke/VarHandle" ∧ (parseMethodDescriptor yX7_passYear.desc).map (fun d => d.parameters.length) = some 1 := ⟨rfl, by decide +kernel, by decide +kernel, by decide +kernel⟩
theorem hd_X7_points : yX7_points.cls = RX7 ∧ yX7_points.cls ≠ "java/lang/invoke/MethodHandle" ∧ yX7_points.cls ≠ "java/lang/invoke/VarHandle" ∧ (parseMethodDescriptor yX7_points.desc).map (fun d => d.parameters.length) = some 4 := ⟨rfl, by decide +kernel, by decide +kernel, by decide +kernel⟩
theorem hd_X7_postAt : yX7_postAt.cls = RX7 ∧ yX7_postAt.cls ≠ "java/lang/invoke/MethodHandle" ∧ yX7_postAt.cls ≠ "java/lang/invoke/VarHandle" ∧ (parseMethodDescriptor yX7_postAt.desc).map (fun d => d.parameters.length) = some 2 := ⟨rfl, by decide +kernel, by decide +kernel, by decide +kernel⟩
theorem hd_X7_read : yX7_read.cls = RX7 ∧ yX7_read.cls ≠ "java/lang/invoke/MethodHandle" ∧ yX7_read.cls ≠ "java/lang/invoke/VarHandle" ∧ (parseMethodDescriptor yX7_read.desc).map (fun d => d.parameters.length) = some 0 := ⟨rfl, by decide +kernel, by decide +kernel, by decide +kernel⟩
theorem hd_X7_readItem : yX7_readItem.cls = RX7 ∧ yX7_readItem.cls ≠ "java/lang/invoke/MethodHandle" ∧ yX7_readItem.cls ≠ "java/lang/invoke/VarHandle" ∧ (parseMethodDescriptor yX7_readItem.desc).map (fun d => d.parameters.length) = some 0 := ⟨rfl, by decide +kernel, by decide +kernel, by decide +kernel⟩
theorem hd_X7_readPost : yX7_readPost.cls = RX7 ∧ yX7_readPost.cls ≠ "java/lang/invoke/MethodHandle" ∧ yX7_readPost.cls ≠ "java/lang/invoke/VarHandle" ∧ (parseMethodDescriptor yX7_readPost.desc).map (fun d => d.parameters.length) = some 0 := ⟨rfl, by decide +kernel, by decide +kernel, by decide +kernel⟩
theorem hd_X7_readRoad : yX7_readRoad.cls = RX7 ∧ yX7_readRoad.cls ≠ "java/lang/invoke/MethodHandle" ∧ yX7_readRoad.cls ≠ "java/lang/invoke/VarHandle" ∧ (parseMethodDescriptor yX7_readRoad.desc).map (fun d => d.parameters.length) = some 0 := ⟨rfl, by decide +kernel, by decide +kernel, by decide +kernel⟩
theorem hd_X7_readWalker : yX7_readWalker.cls = RX7 ∧ yX7_readWalker.cls ≠ "java/lang/invoke/MethodHandle" ∧ yX7_readWalker.cls ≠ "java/lang/invoke/VarHandle" ∧ (parseMethodDescriptor yX7_readWalker.desc).map (fun d => d.parameters.length) = some 0 := ⟨rfl, by decide +kernel, by decide +kernel, by decide +kernel⟩
theorem hd_X7_retiredOf : yX7_retiredOf.cls = RX7 ∧ yX7_retiredOf.cls ≠ "java/lang/invoke/MethodHandle" ∧ yX7_retiredOf.cls ≠ "java/lang/invoke/VarHandle" ∧ (parseMethodDescriptor yX7_retiredOf.desc).map (fun d => d.parameters.length) = some 1 := ⟨rfl, by decide +kernel, by decide +kernel, by decide +kernel⟩
theorem hd_X7_roadsOf : yX7_roadsOf.cls ≠ "java/lang/invoke/MethodHandle" ∧ yX7_roadsOf.cls ≠ "java/lang/invoke/VarHandle" ∧ (parseMethodDescriptor yX7_roadsOf.desc).map (fun d => d.parameters.length) = some 2 := ⟨by decide +kernel, by decide +kernel, by decide +kernel⟩
theorem hd_X7_stood : yX7_stood.cls = RX7 ∧ yX7_stood.cls ≠ "java/lang/invoke/MethodHandle" ∧ yX7_stood.cls ≠ "java/lang/invoke/VarHandle" ∧ (parseMethodDescriptor yX7_stood.desc).map (fun d => d.parameters.length) = some 0 := ⟨rfl, by decide +kernel, by decide +kernel, by decide +kernel⟩
theorem hd_X7_take : yX7_take.cls = RX7 ∧ yX7_take.cls ≠ "java/lang/invoke/MethodHandle" ∧ yX7_take.cls ≠ "java/lang/invoke/VarHandle" ∧ (parseMethodDescriptor yX7_take.desc).map (fun d => d.parameters.length) = some 0 := ⟨rfl, by decide +kernel, by decide +kernel, by decide +kernel⟩
theorem hd_X7_takeDraft : yX7_takeDraft.cls = RX7 ∧ yX7_takeDraft.cls ≠ "java/lang/invoke/MethodHandle" ∧ yX7_takeDraft.cls ≠ "java/lang/invoke/VarHandle" ∧ (parseMethodDescriptor yX7_takeDraft.desc).map (fun d => d.parameters.length) = some 0 := ⟨rfl, by decide +kernel, by decide +kernel, by decide +kernel⟩
theorem hd_X7_tellPost : yX7_tellPost.cls = RX7 ∧ yX7_tellPost.cls ≠ "java/lang/invoke/MethodHandle" ∧ yX7_tellPost.cls ≠ "java/lang/invoke/VarHandle" ∧ (parseMethodDescriptor yX7_tellPost.desc).map (fun d => d.parameters.length) = some 3 := ⟨rfl, by decide +kernel, by decide +kernel, by decide +kernel⟩
theorem hd_X7_tellRoad : yX7_tellRoad.cls = RX7 ∧ yX7_tellRoad.cls ≠ "java/lang/invoke/MethodHandle" ∧ yX7_tellRoad.cls ≠ "java/lang/invoke/VarHandle" ∧ (parseMethodDescriptor yX7_tellRoad.desc).map (fun d => d.parameters.length) = some 3 := ⟨rfl, by decide +kernel, by decide +kernel, by decide +kernel⟩
theorem hd_X7_tellWalker : yX7_tellWalker.cls = RX7 ∧ yX7_tellWalker.cls ≠ "java/lang/invoke/MethodHandle" ∧ yX7_tellWalker.cls ≠ "java/lang/invoke/VarHandle" ∧ (parseMethodDescriptor yX7_tellWalker.desc).map (fun d => d.parameters.length) = some 2 := ⟨rfl, by decide +kernel, by decide +kernel, by decide +kernel⟩
theorem hd_X7_turn : yX7_turn.cls = RX7 ∧ yX7_turn.cls ≠ "java/lang/invoke/MethodHandle" ∧ yX7_turn.cls ≠ "java/lang/invoke/VarHandle" ∧ (parseMethodDescriptor yX7_turn.desc).map (fun d => d.parameters.length) = some 1 := ⟨rfl, by decide +kernel, by decide +kernel, by decide +kernel⟩
theorem hd_X7_turned : yX7_turned.cls = RX7 ∧ yX7_turned.cls ≠ "java/lang/invoke/MethodHandle" ∧ yX7_turned.cls ≠ "java/lang/invoke/VarHandle" ∧ (parseMethodDescriptor yX7_turned.desc).map (fun d => d.parameters.length) = some 3 := ⟨rfl, by decide +kernel, by decide +kernel, by decide +kernel⟩
theorem c_X5_roads (l : Launch) (D : va_G) (w : Wv) (σ : Sg) (o : Nat) (ho : isY o) : Met l yX5_roads (.code yX5_roads cX5_roads 1 (some (.object "SignpostYard$Roads")) :: TB) (rmW 0 0) (pcW D w [.ref (w.1 (o))] σ) (qrW D w (o + 1) σ) 0 0 (AL w) := by
  refine q_open (by decide +kernel) (Nat.le_of_ble_eq_true rfl) ?_
  intro p e s m args below meth c ls hx hb hml hr hlk hown hts hK hP hS hl
  have hown : s.vm.findClass RX5 = some m.cls := hown
  have hl : lv_has ls 1 [(0, .ref (w.1 (o)))] := hl
  refine lv_aload_n hx hb dX5_roads_0 rfl (lv_at hl 0 rfl) ?_
  refine gt_X5_12 hx hb hts hown hK hP ho.o ho.k dX5_roads_1 ?_
  exact q_aret hx hb hr hlk hP hS rfl dX5_roads_4
