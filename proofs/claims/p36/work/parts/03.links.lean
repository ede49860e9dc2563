/-! Part 03: words of the tables by their places, rows that read and write fields, links of calls. -/
theorem ii_1 {x : Int32} : x + Int32.ofInt 1 = x + (1 : Int32) := congrArg (fun z => x + z) (by decide)
theorem ii_m1 {x : Int32} : x + Int32.ofInt (-1) = x + (-1 : Int32) := congrArg (fun z => x + z) (by decide)
theorem ii_4 {x : Int32} : x + Int32.ofInt 4 = x + (4 : Int32) := congrArg (fun z => x + z) (by decide)
theorem ti_ne {x k : Int32} {n : Int} (hn : k.toInt = n) (h : ¬ x = k) : ¬ x.toInt = n := fun e => h (Int32.toInt_inj.mp (e.trans hn.symm))
theorem tb_out_0_2 {x : Int32} (h0 : ¬ x = (0 : Int32)) (h1 : ¬ x = (1 : Int32)) (h2 : ¬ x = (2 : Int32)) : x.toInt < 0 ∨ 2 < x.toInt := by
  have e0 := ti_ne (n := 0) (by decide) h0
  have e1 := ti_ne (n := 1) (by decide) h1
  have e2 := ti_ne (n := 2) (by decide) h2
  omega
theorem tb_out_0_3 {x : Int32} (h0 : ¬ x = (0 : Int32)) (h1 : ¬ x = (1 : Int32)) (h2 : ¬ x = (2 : Int32)) (h3 : ¬ x = (3 : Int32)) : x.toInt < 0 ∨ 3 < x.toInt := by
  have e0 := ti_ne (n := 0) (by decide) h0
  have e1 := ti_ne (n := 1) (by decide) h1
  have e2 := ti_ne (n := 2) (by decide) h2
  have e3 := ti_ne (n := 3) (by decide) h3
  omega
theorem tb_out_0_12 {x : Int32} (h0 : ¬ x = (0 : Int32)) (h1 : ¬ x = (1 : Int32)) (h2 : ¬ x = (2 : Int32)) (h3 : ¬ x = (3 : Int32)) (h4 : ¬ x = (4 : Int32)) (h5 : ¬ x = (5 : Int32)) (h6 : ¬ x = (6 : Int32)) (h7 : ¬ x = (7 : Int32)) (h8 : ¬ x = (8 : Int32)) (h9 : ¬ x = (9 : Int32)) (h10 : ¬ x = (10 : Int32)) (h11 : ¬ x = (11 : Int32)) (h12 : ¬ x = (12 : Int32)) : x.toInt < 0 ∨ 12 < x.toInt := by
  have e0 := ti_ne (n := 0) (by decide) h0
  have e1 := ti_ne (n := 1) (by decide) h1
  have e2 := ti_ne (n := 2) (by decide) h2
  have e3 := ti_ne (n := 3) (by decide) h3
  have e4 := ti_ne (n := 4) (by decide) h4
  have e5 := ti_ne (n := 5) (by decide) h5
  have e6 := ti_ne (n := 6) (by decide) h6
  have e7 := ti_ne (n := 7) (by decide) h7
  have e8 := ti_ne (n := 8) (by decide) h8
  have e9 := ti_ne (n := 9) (by decide) h9
  have e10 := ti_ne (n := 10) (by decide) h10
  have e11 := ti_ne (n := 11) (by decide) h11
  have e12 := ti_ne (n := 12) (by decide) h12
  omega
theorem tb_out_0_14 {x : Int32} (h0 : ¬ x = (0 : Int32)) (h1 : ¬ x = (1 : Int32)) (h2 : ¬ x = (2 : Int32)) (h3 : ¬ x = (3 : Int32)) (h4 : ¬ x = (4 : Int32)) (h5 : ¬ x = (5 : Int32)) (h6 : ¬ x = (6 : Int32)) (h7 : ¬ x = (7 : Int32)) (h8 : ¬ x = (8 : Int32)) (h9 : ¬ x = (9 : Int32)) (h10 : ¬ x = (10 : Int32)) (h11 : ¬ x = (11 : Int32)) (h12 : ¬ x = (12 : Int32)) (h13 : ¬ x = (13 : Int32)) (h14 : ¬ x = (14 : Int32)) : x.toInt < 0 ∨ 14 < x.toInt := by
  have e0 := ti_ne (n := 0) (by decide) h0
  have e1 := ti_ne (n := 1) (by decide) h1
  have e2 := ti_ne (n := 2) (by decide) h2
  have e3 := ti_ne (n := 3) (by decide) h3
  have e4 := ti_ne (n := 4) (by decide) h4
  have e5 := ti_ne (n := 5) (by decide) h5
  have e6 := ti_ne (n := 6) (by decide) h6
  have e7 := ti_ne (n := 7) (by decide) h7
  have e8 := ti_ne (n := 8) (by decide) h8
  have e9 := ti_ne (n := 9) (by decide) h9
  have e10 := ti_ne (n := 10) (by decide) h10
  have e11 := ti_ne (n := 11) (by decide) h11
  have e12 := ti_ne (n := 12) (by decide) h12
  have e13 := ti_ne (n := 13) (by decide) h13
  have e14 := ti_ne (n := 14) (by decide) h14
  omega
theorem tb_out_1_3 {x : Int32} (h1 : ¬ x = (1 : Int32)) (h2 : ¬ x = (2 : Int32)) (h3 : ¬ x = (3 : Int32)) : x.toInt < 1 ∨ 3 < x.toInt := by
  have e1 := ti_ne (n := 1) (by decide) h1
  have e2 := ti_ne (n := 2) (by decide) h2
  have e3 := ti_ne (n := 3) (by decide) h3
  omega
theorem tb_out_110_119 {x : Int32} (h110 : ¬ x = (110 : Int32)) (h111 : ¬ x = (111 : Int32)) (h112 : ¬ x = (112 : Int32)) (h113 : ¬ x = (113 : Int32)) (h114 : ¬ x = (114 : Int32)) (h115 : ¬ x = (115 : Int32)) (h116 : ¬ x = (116 : Int32)) (h117 : ¬ x = (117 : Int32)) (h118 : ¬ x = (118 : Int32)) (h119 : ¬ x = (119 : Int32)) : x.toInt < 110 ∨ 119 < x.toInt := by
  have e110 := ti_ne (n := 110) (by decide) h110
  have e111 := ti_ne (n := 111) (by decide) h111
  have e112 := ti_ne (n := 112) (by decide) h112
  have e113 := ti_ne (n := 113) (by decide) h113
  have e114 := ti_ne (n := 114) (by decide) h114
  have e115 := ti_ne (n := 115) (by decide) h115
  have e116 := ti_ne (n := 116) (by decide) h116
  have e117 := ti_ne (n := 117) (by decide) h117
  have e118 := ti_ne (n := 118) (by decide) h118
  have e119 := ti_ne (n := 119) (by decide) h119
  omega
theorem tw_0 : Cond.selects RX1 yX1_readItem yX1_readItem ∈ TB := TBm 0 (by decide +kernel) (by decide +kernel)
theorem tw_1 : Cond.selects RX1 yX1_letterHere yX1_letterHere ∈ TB := TBm 1 (by decide +kernel) (by decide +kernel)
theorem tw_2 : Cond.selects RX1 yX1_readNumbers yX1_readNumbers ∈ TB := TBm 2 (by decide +kernel) (by decide +kernel)
theorem tw_3 : Cond.selects RX1 yX1_readFigure yX1_readFigure ∈ TB := TBm 3 (by decide +kernel) (by decide +kernel)
theorem tw_4 : Cond.selects RX3 yX3_shorten yX3_shorten ∈ TB := TBm 4 (by decide +kernel) (by decide +kernel)
theorem tw_5 : Cond.selects RX5 yX5_stepFrom yX5_stepFrom ∈ TB := TBm 5 (by decide +kernel) (by decide +kernel)
theorem tw_6 : Cond.selects RX5 yX5_turnsOf yX5_turnsOf ∈ TB := TBm 6 (by decide +kernel) (by decide +kernel)
theorem tw_7 : Cond.selects RX6 yX6_comersHelpedIn yX6_comersHelpedIn ∈ TB := TBm 7 (by decide +kernel) (by decide +kernel)
theorem tw_8 : Cond.selects RX6 yX6_comersPainted yX6_comersPainted ∈ TB := TBm 8 (by decide +kernel) (by decide +kernel)
theorem tw_9 : Cond.selects RX6 yX6_isCover yX6_isCover ∈ TB := TBm 9 (by decide +kernel) (by decide +kernel)
theorem tw_10 : Cond.selects RX6 yX6_fitsSightings yX6_fitsSightings ∈ TB := TBm 10 (by decide +kernel) (by decide +kernel)
theorem tw_11 : Cond.selects RX6 yX6_weightOf yX6_weightOf ∈ TB := TBm 11 (by decide +kernel) (by decide +kernel)
theorem tw_12 : Cond.selects RX6 yX6_comesTwisted yX6_comesTwisted ∈ TB := TBm 12 (by decide +kernel) (by decide +kernel)
theorem tw_13 : Cond.selects RX6 yX6_actByDraw yX6_actByDraw ∈ TB := TBm 13 (by decide +kernel) (by decide +kernel)
theorem tw_14 : Cond.selects RX6 yX6_layOrClose yX6_layOrClose ∈ TB := TBm 14 (by decide +kernel) (by decide +kernel)
theorem tw_15 : Cond.selects RX6 yX6_tellsAll yX6_tellsAll ∈ TB := TBm 15 (by decide +kernel) (by decide +kernel)
theorem tw_16 : Cond.selects RX6 yX6_mostAlike yX6_mostAlike ∈ TB := TBm 16 (by decide +kernel) (by decide +kernel)
theorem tw_17 : Cond.selects RX6 yX6_alikeWith yX6_alikeWith ∈ TB := TBm 17 (by decide +kernel) (by decide +kernel)
theorem tw_18 : Cond.selects RX6 yX6_tellAlike yX6_tellAlike ∈ TB := TBm 18 (by decide +kernel) (by decide +kernel)
theorem tw_19 : Cond.initialized RL ∈ TB := TBm 19 (by decide +kernel) (by decide +kernel)
theorem tw_20 : Cond.initialized RX6 ∈ TB := TBm 20 (by decide +kernel) (by decide +kernel)
theorem tw_21 : Cond.initialized RX1 ∈ TB := TBm 21 (by decide +kernel) (by decide +kernel)
theorem tw_22 : Cond.initialized RX0 ∈ TB := TBm 22 (by decide +kernel) (by decide +kernel)
theorem tw_23 : Cond.initialized "java/lang/Math" ∈ TB := TBm 23 (by decide +kernel) (by decide +kernel)
theorem tw_24 : Cond.initialized RX5 ∈ TB := TBm 24 (by decide +kernel) (by decide +kernel)
theorem tw_25 : Cond.initialized RX3 ∈ TB := TBm 25 (by decide +kernel) (by decide +kernel)
theorem tw_26 : Cond.initialized RX4 ∈ TB := TBm 26 (by decide +kernel) (by decide +kernel)
theorem tw_27 : Cond.initialized RX2 ∈ TB := TBm 27 (by decide +kernel) (by decide +kernel)
theorem tw_32 : Cond.initialized "java/lang/System" ∈ TB := TBm 32 (by decide +kernel) (by decide +kernel)
theorem tw_33 : Cond.initialized "java/lang/Integer" ∈ TB := TBm 33 (by decide +kernel) (by decide +kernel)
theorem tw_54 : Cond.methodLink RX0 15 yJ9_min_7cf53 ∈ TB := TBm 54 (by decide +kernel) (by decide +kernel)
theorem tw_55 : Cond.static yJ9_min_7cf53 ∈ TB := TBm 55 (by decide +kernel) (by decide +kernel)
theorem tw_56 : Cond.code yJ9_min_7cf53 cJ9_min_7cf53 2 (some .int) ∈ TB := TBm 56 (by decide +kernel) (by decide +kernel)
theorem tw_58 : Cond.static yJ9_max_7cf53 ∈ TB := TBm 58 (by decide +kernel) (by decide +kernel)
theorem tw_59 : Cond.code yJ9_max_7cf53 cJ9_max_7cf53 2 (some .int) ∈ TB := TBm 59 (by decide +kernel) (by decide +kernel)
theorem tw_60 : Cond.fieldLink RX0 9 "SignpostYard$Grid" "columns" "I" ∈ TB := TBm 60 (by decide +kernel) (by decide +kernel)
theorem tw_61 : Cond.fieldLink RX0 24 "SignpostYard$Grid" "cells" "[I" ∈ TB := TBm 61 (by decide +kernel) (by decide +kernel)
theorem tw_68 : Cond.fieldLink RX1 14 "SignpostYard$Letters" "letters" "LSignpostYard$Grid;" ∈ TB := TBm 68 (by decide +kernel) (by decide +kernel)
theorem tw_69 : Cond.fieldLink RX1 20 "SignpostYard$Letters" "numbers" "LSignpostYard$Grid;" ∈ TB := TBm 69 (by decide +kernel) (by decide +kernel)
theorem tw_70 : Cond.fieldLink RX1 23 "SignpostYard$Letters" "length" "I" ∈ TB := TBm 70 (by decide +kernel) (by decide +kernel)
theorem tw_71 : Cond.fieldLink RX1 36 "SignpostYard$Letters" "place" "I" ∈ TB := TBm 71 (by decide +kernel) (by decide +kernel)
theorem tw_95 : Cond.fieldLink RX3 9 "SignpostYard$Roads" "towns" "I" ∈ TB := TBm 95 (by decide +kernel) (by decide +kernel)
theorem tw_96 : Cond.fieldLink RX3 20 "SignpostYard$Roads" "miles" "LSignpostYard$Grid;" ∈ TB := TBm 96 (by decide +kernel) (by decide +kernel)
theorem tw_97 : Cond.fieldLink RX3 24 "SignpostYard$Roads" "paths" "LSignpostYard$Grid;" ∈ TB := TBm 97 (by decide +kernel) (by decide +kernel)
theorem tw_107 : Cond.fieldLink RX5 12 "SignpostYard$Yard" "roads" "LSignpostYard$Roads;" ∈ TB := TBm 107 (by decide +kernel) (by decide +kernel)
theorem tw_108 : Cond.fieldLink RX5 23 "SignpostYard$Yard" "post" "LSignpostYard$Grid;" ∈ TB := TBm 108 (by decide +kernel) (by decide +kernel)
theorem tw_109 : Cond.fieldLink RX5 27 "SignpostYard$Yard" "arms" "LSignpostYard$Grid;" ∈ TB := TBm 109 (by decide +kernel) (by decide +kernel)
theorem tw_110 : Cond.fieldLink RX5 30 "SignpostYard$Yard" "armMiles" "LSignpostYard$Grid;" ∈ TB := TBm 110 (by decide +kernel) (by decide +kernel)
theorem tw_111 : Cond.fieldLink RX5 33 "SignpostYard$Yard" "walker" "LSignpostYard$Grid;" ∈ TB := TBm 111 (by decide +kernel) (by decide +kernel)
theorem tw_112 : Cond.fieldLink RX5 43 "SignpostYard$Yard" "posts" "I" ∈ TB := TBm 112 (by decide +kernel) (by decide +kernel)
theorem tw_113 : Cond.fieldLink RX5 47 "SignpostYard$Yard" "walkers" "I" ∈ TB := TBm 113 (by decide +kernel) (by decide +kernel)
theorem tw_114 : Cond.fieldLink RX5 50 "SignpostYard$Yard" "hour" "I" ∈ TB := TBm 114 (by decide +kernel) (by decide +kernel)
theorem tw_115 : Cond.fieldLink RX5 53 "SignpostYard$Yard" "years" "I" ∈ TB := TBm 115 (by decide +kernel) (by decide +kernel)
theorem tw_116 : Cond.fieldLink RX5 56 "SignpostYard$Yard" "twisted" "I" ∈ TB := TBm 116 (by decide +kernel) (by decide +kernel)
theorem tw_144 : Cond.methodLink RX4 9 yJ9_min_7cf53 ∈ TB := TBm 144 (by decide +kernel) (by decide +kernel)
theorem tw_149 : Cond.fieldLink RX4 20 "SignpostYard$Shelf" "yards" "[LSignpostYard$Yard;" ∈ TB := TBm 149 (by decide +kernel) (by decide +kernel)
theorem tw_150 : Cond.fieldLink RX4 27 "SignpostYard$Shelf" "held" "I" ∈ TB := TBm 150 (by decide +kernel) (by decide +kernel)
theorem tw_151 : Cond.fieldLink RX4 31 "SignpostYard$Shelf" "free" "I" ∈ TB := TBm 151 (by decide +kernel) (by decide +kernel)
theorem tw_167 : Cond.fieldLink RX2 14 "SignpostYard$Notes" "notes" "LSignpostYard$Grid;" ∈ TB := TBm 167 (by decide +kernel) (by decide +kernel)
theorem tw_168 : Cond.fieldLink RX2 20 "SignpostYard$Notes" "held" "I" ∈ TB := TBm 168 (by decide +kernel) (by decide +kernel)
theorem tw_223 : Cond.methodLink RX6 60 yX1_append ∈ TB := TBm 223 (by decide +kernel) (by decide +kernel)
theorem tw_224 : Cond.instanceMethod yX1_append ∈ TB := TBm 224 (by decide +kernel) (by decide +kernel)
theorem tw_225 : Cond.selects RX1 yX1_append yX1_append ∈ TB := TBm 225 (by decide +kernel) (by decide +kernel)
theorem tw_226 : Cond.code yX1_append cX1_append 2 (some .int) ∈ TB := TBm 226 (by decide +kernel) (by decide +kernel)
theorem tw_227 : Cond.methodLink RX1 27 yX0_put ∈ TB := TBm 227 (by decide +kernel) (by decide +kernel)
theorem tw_228 : Cond.instanceMethod yX0_put ∈ TB := TBm 228 (by decide +kernel) (by decide +kernel)
theorem tw_229 : Cond.selects RX0 yX0_put yX0_put ∈ TB := TBm 229 (by decide +kernel) (by decide +kernel)
theorem tw_230 : Cond.code yX0_put cX0_put 5 none ∈ TB := TBm 230 (by decide +kernel) (by decide +kernel)
theorem tw_235 : Cond.methodLink RX1 31 yX5_clear ∈ TB := TBm 235 (by decide +kernel) (by decide +kernel)
theorem tw_236 : Cond.instanceMethod yX5_clear ∈ TB := TBm 236 (by decide +kernel) (by decide +kernel)
theorem tw_237 : Cond.selects RX5 yX5_clear yX5_clear ∈ TB := TBm 237 (by decide +kernel) (by decide +kernel)
theorem tw_238 : Cond.code yX5_clear cX5_clear 1 none ∈ TB := TBm 238 (by decide +kernel) (by decide +kernel)
theorem tw_239 : Cond.methodLink RX5 59 yX3_clear ∈ TB := TBm 239 (by decide +kernel) (by decide +kernel)
theorem tw_240 : Cond.instanceMethod yX3_clear ∈ TB := TBm 240 (by decide +kernel) (by decide +kernel)
theorem tw_241 : Cond.selects RX3 yX3_clear yX3_clear ∈ TB := TBm 241 (by decide +kernel) (by decide +kernel)
theorem tw_242 : Cond.code yX3_clear cX3_clear 2 none ∈ TB := TBm 242 (by decide +kernel) (by decide +kernel)
theorem tw_243 : Cond.methodLink RX3 31 yJ9_min_7cf53 ∈ TB := TBm 243 (by decide +kernel) (by decide +kernel)
theorem tw_244 : Cond.methodLink RX3 37 yJ9_max_7cf53 ∈ TB := TBm 244 (by decide +kernel) (by decide +kernel)
theorem tw_245 : Cond.methodLink RX3 40 yX0_fill ∈ TB := TBm 245 (by decide +kernel) (by decide +kernel)
theorem tw_246 : Cond.instanceMethod yX0_fill ∈ TB := TBm 246 (by decide +kernel) (by decide +kernel)
theorem tw_247 : Cond.selects RX0 yX0_fill yX0_fill ∈ TB := TBm 247 (by decide +kernel) (by decide +kernel)
theorem tw_248 : Cond.code yX0_fill cX0_fill 3 none ∈ TB := TBm 248 (by decide +kernel) (by decide +kernel)
theorem tw_249 : Cond.methodLink RX1 39 yX1_readItem ∈ TB := TBm 249 (by decide +kernel) (by decide +kernel)
theorem tw_251 : Cond.instanceMethod yX1_readItem ∈ TB := TBm 251 (by decide +kernel) (by decide +kernel)
theorem tw_252 : Cond.code yX1_readItem cX1_readItem 7 (some .boolean) ∈ TB := TBm 252 (by decide +kernel) (by decide +kernel)
theorem tw_253 : Cond.methodLink RX1 43 yX1_letterHere ∈ TB := TBm 253 (by decide +kernel) (by decide +kernel)
theorem tw_255 : Cond.instanceMethod yX1_letterHere ∈ TB := TBm 255 (by decide +kernel) (by decide +kernel)
theorem tw_256 : Cond.code yX1_letterHere cX1_letterHere 1 (some .int) ∈ TB := TBm 256 (by decide +kernel) (by decide +kernel)
theorem tw_257 : Cond.methodLink RX1 55 yX0_at ∈ TB := TBm 257 (by decide +kernel) (by decide +kernel)
theorem tw_258 : Cond.instanceMethod yX0_at ∈ TB := TBm 258 (by decide +kernel) (by decide +kernel)
theorem tw_259 : Cond.selects RX0 yX0_at yX0_at ∈ TB := TBm 259 (by decide +kernel) (by decide +kernel)
theorem tw_260 : Cond.code yX0_at cX0_at 5 (some .int) ∈ TB := TBm 260 (by decide +kernel) (by decide +kernel)
theorem tw_261 : Cond.methodLink RX1 47 yX1_numbersBehind ∈ TB := TBm 261 (by decide +kernel) (by decide +kernel)
theorem tw_262 : Cond.static yX1_numbersBehind ∈ TB := TBm 262 (by decide +kernel) (by decide +kernel)
theorem tw_263 : Cond.code yX1_numbersBehind cX1_numbersBehind 1 (some .int) ∈ TB := TBm 263 (by decide +kernel) (by decide +kernel)
theorem tw_264 : Cond.methodLink RX1 51 yX1_readNumbers ∈ TB := TBm 264 (by decide +kernel) (by decide +kernel)
theorem tw_266 : Cond.instanceMethod yX1_readNumbers ∈ TB := TBm 266 (by decide +kernel) (by decide +kernel)
theorem tw_267 : Cond.code yX1_readNumbers cX1_readNumbers 5 (some .boolean) ∈ TB := TBm 267 (by decide +kernel) (by decide +kernel)
theorem tw_268 : Cond.methodLink RX1 73 yX1_readFigure ∈ TB := TBm 268 (by decide +kernel) (by decide +kernel)
theorem tw_270 : Cond.instanceMethod yX1_readFigure ∈ TB := TBm 270 (by decide +kernel) (by decide +kernel)
theorem tw_271 : Cond.code yX1_readFigure cX1_readFigure 2 (some .int) ∈ TB := TBm 271 (by decide +kernel) (by decide +kernel)
theorem tw_272 : Cond.methodLink RX1 59 yX5_tellTowns ∈ TB := TBm 272 (by decide +kernel) (by decide +kernel)
theorem tw_273 : Cond.instanceMethod yX5_tellTowns ∈ TB := TBm 273 (by decide +kernel) (by decide +kernel)
theorem tw_274 : Cond.selects RX5 yX5_tellTowns yX5_tellTowns ∈ TB := TBm 274 (by decide +kernel) (by decide +kernel)
theorem tw_275 : Cond.code yX5_tellTowns cX5_tellTowns 2 (some .boolean) ∈ TB := TBm 275 (by decide +kernel) (by decide +kernel)
theorem tw_276 : Cond.methodLink RX1 62 yX5_tellRoad ∈ TB := TBm 276 (by decide +kernel) (by decide +kernel)
theorem tw_277 : Cond.instanceMethod yX5_tellRoad ∈ TB := TBm 277 (by decide +kernel) (by decide +kernel)
theorem tw_278 : Cond.selects RX5 yX5_tellRoad yX5_tellRoad ∈ TB := TBm 278 (by decide +kernel) (by decide +kernel)
theorem tw_279 : Cond.code yX5_tellRoad cX5_tellRoad 4 (some .boolean) ∈ TB := TBm 279 (by decide +kernel) (by decide +kernel)
theorem tw_280 : Cond.methodLink RX5 63 yX5_areTwoTowns ∈ TB := TBm 280 (by decide +kernel) (by decide +kernel)
theorem tw_281 : Cond.instanceMethod yX5_areTwoTowns ∈ TB := TBm 281 (by decide +kernel) (by decide +kernel)
theorem tw_282 : Cond.selects RX5 yX5_areTwoTowns yX5_areTwoTowns ∈ TB := TBm 282 (by decide +kernel) (by decide +kernel)
theorem tw_283 : Cond.code yX5_areTwoTowns cX5_areTwoTowns 3 (some .boolean) ∈ TB := TBm 283 (by decide +kernel) (by decide +kernel)
theorem tw_284 : Cond.methodLink RX5 71 yX5_isTown ∈ TB := TBm 284 (by decide +kernel) (by decide +kernel)
theorem tw_285 : Cond.instanceMethod yX5_isTown ∈ TB := TBm 285 (by decide +kernel) (by decide +kernel)
theorem tw_286 : Cond.selects RX5 yX5_isTown yX5_isTown ∈ TB := TBm 286 (by decide +kernel) (by decide +kernel)
theorem tw_287 : Cond.code yX5_isTown cX5_isTown 2 (some .boolean) ∈ TB := TBm 287 (by decide +kernel) (by decide +kernel)
theorem tw_288 : Cond.methodLink RX5 85 yX3_towns ∈ TB := TBm 288 (by decide +kernel) (by decide +kernel)
theorem tw_289 : Cond.instanceMethod yX3_towns ∈ TB := TBm 289 (by decide +kernel) (by decide +kernel)
theorem tw_290 : Cond.selects RX3 yX3_towns yX3_towns ∈ TB := TBm 290 (by decide +kernel) (by decide +kernel)
theorem tw_291 : Cond.code yX3_towns cX3_towns 1 (some .int) ∈ TB := TBm 291 (by decide +kernel) (by decide +kernel)
theorem tw_292 : Cond.methodLink RX5 67 yX3_set ∈ TB := TBm 292 (by decide +kernel) (by decide +kernel)
theorem tw_293 : Cond.instanceMethod yX3_set ∈ TB := TBm 293 (by decide +kernel) (by decide +kernel)
theorem tw_294 : Cond.selects RX3 yX3_set yX3_set ∈ TB := TBm 294 (by decide +kernel) (by decide +kernel)
theorem tw_295 : Cond.code yX3_set cX3_set 4 none ∈ TB := TBm 295 (by decide +kernel) (by decide +kernel)
theorem tw_296 : Cond.methodLink RX3 51 yX0_put ∈ TB := TBm 296 (by decide +kernel) (by decide +kernel)
theorem tw_297 : Cond.methodLink RX1 66 yX5_tellPost ∈ TB := TBm 297 (by decide +kernel) (by decide +kernel)
theorem tw_298 : Cond.instanceMethod yX5_tellPost ∈ TB := TBm 298 (by decide +kernel) (by decide +kernel)
theorem tw_299 : Cond.selects RX5 yX5_tellPost yX5_tellPost ∈ TB := TBm 299 (by decide +kernel) (by decide +kernel)
theorem tw_300 : Cond.code yX5_tellPost cX5_tellPost 5 (some .boolean) ∈ TB := TBm 300 (by decide +kernel) (by decide +kernel)
theorem tw_301 : Cond.methodLink RX5 75 yX0_put ∈ TB := TBm 301 (by decide +kernel) (by decide +kernel)
theorem tw_302 : Cond.methodLink RX1 69 yX5_tellWalker ∈ TB := TBm 302 (by decide +kernel) (by decide +kernel)
theorem tw_303 : Cond.instanceMethod yX5_tellWalker ∈ TB := TBm 303 (by decide +kernel) (by decide +kernel)
theorem tw_304 : Cond.selects RX5 yX5_tellWalker yX5_tellWalker ∈ TB := TBm 304 (by decide +kernel) (by decide +kernel)
theorem tw_305 : Cond.code yX5_tellWalker cX5_tellWalker 3 (some .boolean) ∈ TB := TBm 305 (by decide +kernel) (by decide +kernel)
theorem tw_310 : Cond.methodLink RX5 78 yX3_survey ∈ TB := TBm 310 (by decide +kernel) (by decide +kernel)
theorem tw_311 : Cond.instanceMethod yX3_survey ∈ TB := TBm 311 (by decide +kernel) (by decide +kernel)
theorem tw_312 : Cond.selects RX3 yX3_survey yX3_survey ∈ TB := TBm 312 (by decide +kernel) (by decide +kernel)
theorem tw_313 : Cond.code yX3_survey cX3_survey 4 none ∈ TB := TBm 313 (by decide +kernel) (by decide +kernel)
theorem tw_314 : Cond.methodLink RX3 54 yX0_at ∈ TB := TBm 314 (by decide +kernel) (by decide +kernel)
theorem tw_315 : Cond.methodLink RX3 57 yX3_shorten ∈ TB := TBm 315 (by decide +kernel) (by decide +kernel)
theorem tw_317 : Cond.instanceMethod yX3_shorten ∈ TB := TBm 317 (by decide +kernel) (by decide +kernel)
theorem tw_318 : Cond.code yX3_shorten cX3_shorten 7 none ∈ TB := TBm 318 (by decide +kernel) (by decide +kernel)
theorem tw_319 : Cond.methodLink RX5 81 yX5_paintPost ∈ TB := TBm 319 (by decide +kernel) (by decide +kernel)
theorem tw_320 : Cond.instanceMethod yX5_paintPost ∈ TB := TBm 320 (by decide +kernel) (by decide +kernel)
theorem tw_321 : Cond.selects RX5 yX5_paintPost yX5_paintPost ∈ TB := TBm 321 (by decide +kernel) (by decide +kernel)
theorem tw_322 : Cond.code yX5_paintPost cX5_paintPost 6 (some .int) ∈ TB := TBm 322 (by decide +kernel) (by decide +kernel)
theorem tw_323 : Cond.methodLink RX5 89 yX0_at ∈ TB := TBm 323 (by decide +kernel) (by decide +kernel)
theorem tw_324 : Cond.methodLink RX5 126 yX3_firstStep ∈ TB := TBm 324 (by decide +kernel) (by decide +kernel)
theorem tw_325 : Cond.instanceMethod yX3_firstStep ∈ TB := TBm 325 (by decide +kernel) (by decide +kernel)
theorem tw_326 : Cond.selects RX3 yX3_firstStep yX3_firstStep ∈ TB := TBm 326 (by decide +kernel) (by decide +kernel)
theorem tw_327 : Cond.code yX3_firstStep cX3_firstStep 7 (some .int) ∈ TB := TBm 327 (by decide +kernel) (by decide +kernel)
theorem tw_328 : Cond.methodLink RX5 129 yX3_pathMiles ∈ TB := TBm 328 (by decide +kernel) (by decide +kernel)
theorem tw_329 : Cond.instanceMethod yX3_pathMiles ∈ TB := TBm 329 (by decide +kernel) (by decide +kernel)
theorem tw_330 : Cond.selects RX3 yX3_pathMiles yX3_pathMiles ∈ TB := TBm 330 (by decide +kernel) (by decide +kernel)
theorem tw_331 : Cond.code yX3_pathMiles cX3_pathMiles 3 (some .int) ∈ TB := TBm 331 (by decide +kernel) (by decide +kernel)
theorem tw_336 : Cond.fieldLink RX6 10 "SignpostYard" "text" "LSignpostYard$Letters;" ∈ TB := TBm 336 (by decide +kernel) (by decide +kernel)
theorem tw_337 : Cond.fieldLink RX6 19 "SignpostYard" "now" "LSignpostYard$Yard;" ∈ TB := TBm 337 (by decide +kernel) (by decide +kernel)
theorem tw_338 : Cond.fieldLink RX6 23 "SignpostYard" "trial" "LSignpostYard$Yard;" ∈ TB := TBm 338 (by decide +kernel) (by decide +kernel)
theorem tw_339 : Cond.fieldLink RX6 31 "SignpostYard" "undone" "LSignpostYard$Shelf;" ∈ TB := TBm 339 (by decide +kernel) (by decide +kernel)
theorem tw_340 : Cond.fieldLink RX6 35 "SignpostYard" "kept" "LSignpostYard$Shelf;" ∈ TB := TBm 340 (by decide +kernel) (by decide +kernel)
theorem tw_341 : Cond.fieldLink RX6 41 "SignpostYard" "tellings" "LSignpostYard$Notes;" ∈ TB := TBm 341 (by decide +kernel) (by decide +kernel)
theorem tw_342 : Cond.fieldLink RX6 45 "SignpostYard" "sightings" "LSignpostYard$Notes;" ∈ TB := TBm 342 (by decide +kernel) (by decide +kernel)
theorem tw_359 : Cond.methodLink RL 29 yX6_pass ∈ TB := TBm 359 (by decide +kernel) (by decide +kernel)
theorem tw_360 : Cond.instanceMethod yX6_pass ∈ TB := TBm 360 (by decide +kernel) (by decide +kernel)
theorem tw_361 : Cond.selects RX6 yX6_pass yX6_pass ∈ TB := TBm 361 (by decide +kernel) (by decide +kernel)
theorem tw_362 : Cond.code yX6_pass cX6_pass 2 (some .int) ∈ TB := TBm 362 (by decide +kernel) (by decide +kernel)
theorem tw_363 : Cond.methodLink RX6 138 yX5_hour ∈ TB := TBm 363 (by decide +kernel) (by decide +kernel)
theorem tw_364 : Cond.instanceMethod yX5_hour ∈ TB := TBm 364 (by decide +kernel) (by decide +kernel)
theorem tw_365 : Cond.selects RX5 yX5_hour yX5_hour ∈ TB := TBm 365 (by decide +kernel) (by decide +kernel)
theorem tw_366 : Cond.code yX5_hour cX5_hour 1 (some .int) ∈ TB := TBm 366 (by decide +kernel) (by decide +kernel)
theorem tw_367 : Cond.methodLink RX6 141 yX4_setAside ∈ TB := TBm 367 (by decide +kernel) (by decide +kernel)
theorem tw_368 : Cond.instanceMethod yX4_setAside ∈ TB := TBm 368 (by decide +kernel) (by decide +kernel)
theorem tw_369 : Cond.selects RX4 yX4_setAside yX4_setAside ∈ TB := TBm 369 (by decide +kernel) (by decide +kernel)
theorem tw_370 : Cond.code yX4_setAside cX4_setAside 3 none ∈ TB := TBm 370 (by decide +kernel) (by decide +kernel)
theorem tw_371 : Cond.methodLink RX4 34 yX5_become ∈ TB := TBm 371 (by decide +kernel) (by decide +kernel)
theorem tw_372 : Cond.instanceMethod yX5_become ∈ TB := TBm 372 (by decide +kernel) (by decide +kernel)
theorem tw_373 : Cond.selects RX5 yX5_become yX5_become ∈ TB := TBm 373 (by decide +kernel) (by decide +kernel)
theorem tw_374 : Cond.code yX5_become cX5_become 2 none ∈ TB := TBm 374 (by decide +kernel) (by decide +kernel)
theorem tw_375 : Cond.methodLink RX5 36 yX3_become ∈ TB := TBm 375 (by decide +kernel) (by decide +kernel)
theorem tw_376 : Cond.instanceMethod yX3_become ∈ TB := TBm 376 (by decide +kernel) (by decide +kernel)
theorem tw_377 : Cond.selects RX3 yX3_become yX3_become ∈ TB := TBm 377 (by decide +kernel) (by decide +kernel)
theorem tw_378 : Cond.code yX3_become cX3_become 2 none ∈ TB := TBm 378 (by decide +kernel) (by decide +kernel)
theorem tw_379 : Cond.methodLink RX3 27 yX0_become ∈ TB := TBm 379 (by decide +kernel) (by decide +kernel)
theorem tw_380 : Cond.instanceMethod yX0_become ∈ TB := TBm 380 (by decide +kernel) (by decide +kernel)
theorem tw_381 : Cond.selects RX0 yX0_become yX0_become ∈ TB := TBm 381 (by decide +kernel) (by decide +kernel)
theorem tw_382 : Cond.code yX0_become cX0_become 2 none ∈ TB := TBm 382 (by decide +kernel) (by decide +kernel)
theorem tw_383 : Cond.methodLink RX0 28 arraycopyName ∈ TB := TBm 383 (by decide +kernel) (by decide +kernel)
theorem tw_384 : Cond.static arraycopyName ∈ TB := TBm 384 (by decide +kernel) (by decide +kernel)
theorem tw_385 : Cond.native arraycopyName ∈ TB := TBm 385 (by decide +kernel) (by decide +kernel)
theorem tw_386 : Cond.methodLink RX5 40 yX0_become ∈ TB := TBm 386 (by decide +kernel) (by decide +kernel)
theorem tw_387 : Cond.methodLink RX6 144 yX5_passHours ∈ TB := TBm 387 (by decide +kernel) (by decide +kernel)
theorem tw_388 : Cond.instanceMethod yX5_passHours ∈ TB := TBm 388 (by decide +kernel) (by decide +kernel)
theorem tw_389 : Cond.selects RX5 yX5_passHours yX5_passHours ∈ TB := TBm 389 (by decide +kernel) (by decide +kernel)
theorem tw_390 : Cond.code yX5_passHours cX5_passHours 6 none ∈ TB := TBm 390 (by decide +kernel) (by decide +kernel)
theorem tw_391 : Cond.methodLink RX5 108 yX5_stepFrom ∈ TB := TBm 391 (by decide +kernel) (by decide +kernel)
theorem tw_393 : Cond.instanceMethod yX5_stepFrom ∈ TB := TBm 393 (by decide +kernel) (by decide +kernel)
theorem tw_394 : Cond.code yX5_stepFrom cX5_stepFrom 5 (some .int) ∈ TB := TBm 394 (by decide +kernel) (by decide +kernel)
theorem tw_395 : Cond.methodLink RX5 111 yX5_lowestPostIn ∈ TB := TBm 395 (by decide +kernel) (by decide +kernel)
theorem tw_396 : Cond.instanceMethod yX5_lowestPostIn ∈ TB := TBm 396 (by decide +kernel) (by decide +kernel)
theorem tw_397 : Cond.selects RX5 yX5_lowestPostIn yX5_lowestPostIn ∈ TB := TBm 397 (by decide +kernel) (by decide +kernel)
theorem tw_398 : Cond.code yX5_lowestPostIn cX5_lowestPostIn 3 (some .int) ∈ TB := TBm 398 (by decide +kernel) (by decide +kernel)
theorem tw_399 : Cond.methodLink RX5 114 yX3_nearest ∈ TB := TBm 399 (by decide +kernel) (by decide +kernel)
theorem tw_400 : Cond.instanceMethod yX3_nearest ∈ TB := TBm 400 (by decide +kernel) (by decide +kernel)
theorem tw_401 : Cond.selects RX3 yX3_nearest yX3_nearest ∈ TB := TBm 401 (by decide +kernel) (by decide +kernel)
theorem tw_402 : Cond.code yX3_nearest cX3_nearest 6 (some .int) ∈ TB := TBm 402 (by decide +kernel) (by decide +kernel)
theorem tw_403 : Cond.methodLink RX5 117 yX5_pointing ∈ TB := TBm 403 (by decide +kernel) (by decide +kernel)
theorem tw_404 : Cond.instanceMethod yX5_pointing ∈ TB := TBm 404 (by decide +kernel) (by decide +kernel)
theorem tw_405 : Cond.selects RX5 yX5_pointing yX5_pointing ∈ TB := TBm 405 (by decide +kernel) (by decide +kernel)
theorem tw_406 : Cond.code yX5_pointing cX5_pointing 7 (some .int) ∈ TB := TBm 406 (by decide +kernel) (by decide +kernel)
theorem tw_407 : Cond.methodLink RX5 102 yX5_turnsOf ∈ TB := TBm 407 (by decide +kernel) (by decide +kernel)
theorem tw_409 : Cond.instanceMethod yX5_turnsOf ∈ TB := TBm 409 (by decide +kernel) (by decide +kernel)
theorem tw_410 : Cond.code yX5_turnsOf cX5_turnsOf 3 (some .int) ∈ TB := TBm 410 (by decide +kernel) (by decide +kernel)
theorem tw_412 : Cond.static yX6_hasBit ∈ TB := TBm 412 (by decide +kernel) (by decide +kernel)
theorem tw_413 : Cond.code yX6_hasBit cX6_hasBit 2 (some .boolean) ∈ TB := TBm 413 (by decide +kernel) (by decide +kernel)
theorem tw_414 : Cond.methodLink RX5 105 yX3_turned ∈ TB := TBm 414 (by decide +kernel) (by decide +kernel)
theorem tw_415 : Cond.instanceMethod yX3_turned ∈ TB := TBm 415 (by decide +kernel) (by decide +kernel)
theorem tw_416 : Cond.selects RX3 yX3_turned yX3_turned ∈ TB := TBm 416 (by decide +kernel) (by decide +kernel)
theorem tw_417 : Cond.code yX3_turned cX3_turned 5 (some .int) ∈ TB := TBm 417 (by decide +kernel) (by decide +kernel)
theorem tw_418 : Cond.methodLink RX5 120 yX3_between ∈ TB := TBm 418 (by decide +kernel) (by decide +kernel)
theorem tw_419 : Cond.instanceMethod yX3_between ∈ TB := TBm 419 (by decide +kernel) (by decide +kernel)
theorem tw_420 : Cond.selects RX3 yX3_between yX3_between ∈ TB := TBm 420 (by decide +kernel) (by decide +kernel)
theorem tw_421 : Cond.code yX3_between cX3_between 3 (some .int) ∈ TB := TBm 421 (by decide +kernel) (by decide +kernel)
theorem tw_422 : Cond.methodLink RL 85 yX6_year ∈ TB := TBm 422 (by decide +kernel) (by decide +kernel)
theorem tw_423 : Cond.instanceMethod yX6_year ∈ TB := TBm 423 (by decide +kernel) (by decide +kernel)
theorem tw_424 : Cond.selects RX6 yX6_year yX6_year ∈ TB := TBm 424 (by decide +kernel) (by decide +kernel)
theorem tw_425 : Cond.code yX6_year cX6_year 1 (some .int) ∈ TB := TBm 425 (by decide +kernel) (by decide +kernel)
theorem tw_426 : Cond.methodLink RX6 147 yX5_passYear ∈ TB := TBm 426 (by decide +kernel) (by decide +kernel)
theorem tw_427 : Cond.instanceMethod yX5_passYear ∈ TB := TBm 427 (by decide +kernel) (by decide +kernel)
theorem tw_428 : Cond.selects RX5 yX5_passYear yX5_passYear ∈ TB := TBm 428 (by decide +kernel) (by decide +kernel)
theorem tw_429 : Cond.code yX5_passYear cX5_passYear 4 (some .int) ∈ TB := TBm 429 (by decide +kernel) (by decide +kernel)
theorem tw_430 : Cond.methodLink RX5 96 yX5_isRetired ∈ TB := TBm 430 (by decide +kernel) (by decide +kernel)
theorem tw_431 : Cond.instanceMethod yX5_isRetired ∈ TB := TBm 431 (by decide +kernel) (by decide +kernel)
theorem tw_432 : Cond.selects RX5 yX5_isRetired yX5_isRetired ∈ TB := TBm 432 (by decide +kernel) (by decide +kernel)
theorem tw_433 : Cond.code yX5_isRetired cX5_isRetired 2 (some .boolean) ∈ TB := TBm 433 (by decide +kernel) (by decide +kernel)
theorem tw_434 : Cond.methodLink RX5 123 yX5_retirePost ∈ TB := TBm 434 (by decide +kernel) (by decide +kernel)
theorem tw_435 : Cond.instanceMethod yX5_retirePost ∈ TB := TBm 435 (by decide +kernel) (by decide +kernel)
theorem tw_436 : Cond.selects RX5 yX5_retirePost yX5_retirePost ∈ TB := TBm 436 (by decide +kernel) (by decide +kernel)
theorem tw_437 : Cond.code yX5_retirePost cX5_retirePost 3 none ∈ TB := TBm 437 (by decide +kernel) (by decide +kernel)
theorem tw_438 : Cond.methodLink RL 32 yX6_lays ∈ TB := TBm 438 (by decide +kernel) (by decide +kernel)
theorem tw_439 : Cond.instanceMethod yX6_lays ∈ TB := TBm 439 (by decide +kernel) (by decide +kernel)
theorem tw_440 : Cond.selects RX6 yX6_lays yX6_lays ∈ TB := TBm 440 (by decide +kernel) (by decide +kernel)
theorem tw_441 : Cond.code yX6_lays cX6_lays 5 (some .int) ∈ TB := TBm 441 (by decide +kernel) (by decide +kernel)
theorem tw_442 : Cond.methodLink RX6 87 yX5_areTwoTowns ∈ TB := TBm 442 (by decide +kernel) (by decide +kernel)
theorem tw_443 : Cond.methodLink RX6 91 yX5_roads ∈ TB := TBm 443 (by decide +kernel) (by decide +kernel)
theorem tw_444 : Cond.instanceMethod yX5_roads ∈ TB := TBm 444 (by decide +kernel) (by decide +kernel)
theorem tw_445 : Cond.selects RX5 yX5_roads yX5_roads ∈ TB := TBm 445 (by decide +kernel) (by decide +kernel)
theorem tw_446 : Cond.code yX5_roads cX5_roads 1 (some (.object "SignpostYard$Roads")) ∈ TB := TBm 446 (by decide +kernel) (by decide +kernel)
theorem tw_447 : Cond.methodLink RX6 95 yX3_between ∈ TB := TBm 447 (by decide +kernel) (by decide +kernel)
theorem tw_448 : Cond.methodLink RX6 150 yX3_change ∈ TB := TBm 448 (by decide +kernel) (by decide +kernel)
theorem tw_449 : Cond.instanceMethod yX3_change ∈ TB := TBm 449 (by decide +kernel) (by decide +kernel)
theorem tw_450 : Cond.selects RX3 yX3_change yX3_change ∈ TB := TBm 450 (by decide +kernel) (by decide +kernel)
theorem tw_451 : Cond.code yX3_change cX3_change 4 none ∈ TB := TBm 451 (by decide +kernel) (by decide +kernel)
theorem tw_452 : Cond.methodLink RX3 44 yX3_set ∈ TB := TBm 452 (by decide +kernel) (by decide +kernel)
theorem tw_453 : Cond.methodLink RX3 48 yX3_survey ∈ TB := TBm 453 (by decide +kernel) (by decide +kernel)
theorem tw_454 : Cond.methodLink RL 35 yX6_paint ∈ TB := TBm 454 (by decide +kernel) (by decide +kernel)
theorem tw_455 : Cond.instanceMethod yX6_paint ∈ TB := TBm 455 (by decide +kernel) (by decide +kernel)
theorem tw_456 : Cond.selects RX6 yX6_paint yX6_paint ∈ TB := TBm 456 (by decide +kernel) (by decide +kernel)
theorem tw_457 : Cond.code yX6_paint cX6_paint 2 (some .int) ∈ TB := TBm 457 (by decide +kernel) (by decide +kernel)
theorem tw_458 : Cond.methodLink RX6 101 yX5_isPost ∈ TB := TBm 458 (by decide +kernel) (by decide +kernel)
theorem tw_459 : Cond.instanceMethod yX5_isPost ∈ TB := TBm 459 (by decide +kernel) (by decide +kernel)
theorem tw_460 : Cond.selects RX5 yX5_isPost yX5_isPost ∈ TB := TBm 460 (by decide +kernel) (by decide +kernel)
theorem tw_461 : Cond.code yX5_isPost cX5_isPost 2 (some .boolean) ∈ TB := TBm 461 (by decide +kernel) (by decide +kernel)
theorem tw_462 : Cond.methodLink RX6 154 yX5_isRetired ∈ TB := TBm 462 (by decide +kernel) (by decide +kernel)
theorem tw_463 : Cond.methodLink RX6 157 yX5_paintPost ∈ TB := TBm 463 (by decide +kernel) (by decide +kernel)
theorem tw_464 : Cond.methodLink RL 38 yX6_move ∈ TB := TBm 464 (by decide +kernel) (by decide +kernel)
theorem tw_465 : Cond.instanceMethod yX6_move ∈ TB := TBm 465 (by decide +kernel) (by decide +kernel)
theorem tw_466 : Cond.selects RX6 yX6_move yX6_move ∈ TB := TBm 466 (by decide +kernel) (by decide +kernel)
theorem tw_467 : Cond.code yX6_move cX6_move 4 (some .int) ∈ TB := TBm 467 (by decide +kernel) (by decide +kernel)
theorem tw_468 : Cond.methodLink RX6 114 yX5_isTown ∈ TB := TBm 468 (by decide +kernel) (by decide +kernel)
theorem tw_469 : Cond.methodLink RX6 108 yX5_townOf ∈ TB := TBm 469 (by decide +kernel) (by decide +kernel)
theorem tw_470 : Cond.instanceMethod yX5_townOf ∈ TB := TBm 470 (by decide +kernel) (by decide +kernel)
theorem tw_471 : Cond.selects RX5 yX5_townOf yX5_townOf ∈ TB := TBm 471 (by decide +kernel) (by decide +kernel)
theorem tw_472 : Cond.code yX5_townOf cX5_townOf 2 (some .int) ∈ TB := TBm 472 (by decide +kernel) (by decide +kernel)
theorem tw_473 : Cond.methodLink RX6 160 yX5_movePost ∈ TB := TBm 473 (by decide +kernel) (by decide +kernel)
theorem tw_474 : Cond.instanceMethod yX5_movePost ∈ TB := TBm 474 (by decide +kernel) (by decide +kernel)
theorem tw_475 : Cond.selects RX5 yX5_movePost yX5_movePost ∈ TB := TBm 475 (by decide +kernel) (by decide +kernel)
theorem tw_476 : Cond.code yX5_movePost cX5_movePost 3 none ∈ TB := TBm 476 (by decide +kernel) (by decide +kernel)
theorem tw_477 : Cond.methodLink RL 89 yX6_undo ∈ TB := TBm 477 (by decide +kernel) (by decide +kernel)
theorem tw_478 : Cond.instanceMethod yX6_undo ∈ TB := TBm 478 (by decide +kernel) (by decide +kernel)
theorem tw_479 : Cond.selects RX6 yX6_undo yX6_undo ∈ TB := TBm 479 (by decide +kernel) (by decide +kernel)
theorem tw_480 : Cond.code yX6_undo cX6_undo 1 (some .int) ∈ TB := TBm 480 (by decide +kernel) (by decide +kernel)
theorem tw_481 : Cond.methodLink RX6 167 yX4_giveBack ∈ TB := TBm 481 (by decide +kernel) (by decide +kernel)
theorem tw_482 : Cond.instanceMethod yX4_giveBack ∈ TB := TBm 482 (by decide +kernel) (by decide +kernel)
theorem tw_483 : Cond.selects RX4 yX4_giveBack yX4_giveBack ∈ TB := TBm 483 (by decide +kernel) (by decide +kernel)
theorem tw_484 : Cond.code yX4_giveBack cX4_giveBack 4 (some .boolean) ∈ TB := TBm 484 (by decide +kernel) (by decide +kernel)
theorem tw_485 : Cond.methodLink RX6 171 yX4_held ∈ TB := TBm 485 (by decide +kernel) (by decide +kernel)
theorem tw_486 : Cond.instanceMethod yX4_held ∈ TB := TBm 486 (by decide +kernel) (by decide +kernel)
theorem tw_487 : Cond.selects RX4 yX4_held yX4_held ∈ TB := TBm 487 (by decide +kernel) (by decide +kernel)
theorem tw_488 : Cond.code yX4_held cX4_held 1 (some .int) ∈ TB := TBm 488 (by decide +kernel) (by decide +kernel)
theorem tw_489 : Cond.methodLink RL 104 yX6_lost ∈ TB := TBm 489 (by decide +kernel) (by decide +kernel)
theorem tw_490 : Cond.instanceMethod yX6_lost ∈ TB := TBm 490 (by decide +kernel) (by decide +kernel)
theorem tw_491 : Cond.selects RX6 yX6_lost yX6_lost ∈ TB := TBm 491 (by decide +kernel) (by decide +kernel)
theorem tw_492 : Cond.code yX6_lost cX6_lost 3 (some .int) ∈ TB := TBm 492 (by decide +kernel) (by decide +kernel)
theorem tw_493 : Cond.methodLink RX6 80 yX5_become ∈ TB := TBm 493 (by decide +kernel) (by decide +kernel)
theorem tw_494 : Cond.methodLink RX6 77 yX5_walkers ∈ TB := TBm 494 (by decide +kernel) (by decide +kernel)
theorem tw_495 : Cond.instanceMethod yX5_walkers ∈ TB := TBm 495 (by decide +kernel) (by decide +kernel)
theorem tw_496 : Cond.selects RX5 yX5_walkers yX5_walkers ∈ TB := TBm 496 (by decide +kernel) (by decide +kernel)
theorem tw_497 : Cond.code yX5_walkers cX5_walkers 1 (some .int) ∈ TB := TBm 497 (by decide +kernel) (by decide +kernel)
theorem tw_498 : Cond.methodLink RX6 135 yX5_hasCome ∈ TB := TBm 498 (by decide +kernel) (by decide +kernel)
theorem tw_499 : Cond.instanceMethod yX5_hasCome ∈ TB := TBm 499 (by decide +kernel) (by decide +kernel)
theorem tw_500 : Cond.selects RX5 yX5_hasCome yX5_hasCome ∈ TB := TBm 500 (by decide +kernel) (by decide +kernel)
theorem tw_501 : Cond.code yX5_hasCome cX5_hasCome 2 (some .boolean) ∈ TB := TBm 501 (by decide +kernel) (by decide +kernel)
theorem tw_502 : Cond.methodLink RL 77 yX6_count ∈ TB := TBm 502 (by decide +kernel) (by decide +kernel)
theorem tw_503 : Cond.instanceMethod yX6_count ∈ TB := TBm 503 (by decide +kernel) (by decide +kernel)
theorem tw_504 : Cond.selects RX6 yX6_count yX6_count ∈ TB := TBm 504 (by decide +kernel) (by decide +kernel)
theorem tw_505 : Cond.code yX6_count cX6_count 2 (some .int) ∈ TB := TBm 505 (by decide +kernel) (by decide +kernel)
theorem tw_506 : Cond.methodLink RX6 174 yX5_towns ∈ TB := TBm 506 (by decide +kernel) (by decide +kernel)
theorem tw_507 : Cond.instanceMethod yX5_towns ∈ TB := TBm 507 (by decide +kernel) (by decide +kernel)
theorem tw_508 : Cond.selects RX5 yX5_towns yX5_towns ∈ TB := TBm 508 (by decide +kernel) (by decide +kernel)
theorem tw_509 : Cond.code yX5_towns cX5_towns 1 (some .int) ∈ TB := TBm 509 (by decide +kernel) (by decide +kernel)
theorem tw_510 : Cond.methodLink RX6 74 yX5_posts ∈ TB := TBm 510 (by decide +kernel) (by decide +kernel)
theorem tw_511 : Cond.instanceMethod yX5_posts ∈ TB := TBm 511 (by decide +kernel) (by decide +kernel)
theorem tw_512 : Cond.selects RX5 yX5_posts yX5_posts ∈ TB := TBm 512 (by decide +kernel) (by decide +kernel)
theorem tw_513 : Cond.code yX5_posts cX5_posts 1 (some .int) ∈ TB := TBm 513 (by decide +kernel) (by decide +kernel)
theorem tw_514 : Cond.methodLink RX6 288 yX5_years ∈ TB := TBm 514 (by decide +kernel) (by decide +kernel)
theorem tw_515 : Cond.instanceMethod yX5_years ∈ TB := TBm 515 (by decide +kernel) (by decide +kernel)
theorem tw_516 : Cond.selects RX5 yX5_years yX5_years ∈ TB := TBm 516 (by decide +kernel) (by decide +kernel)
theorem tw_517 : Cond.code yX5_years cX5_years 1 (some .int) ∈ TB := TBm 517 (by decide +kernel) (by decide +kernel)
theorem tw_518 : Cond.methodLink RX6 291 yX3_howMany ∈ TB := TBm 518 (by decide +kernel) (by decide +kernel)
theorem tw_519 : Cond.instanceMethod yX3_howMany ∈ TB := TBm 519 (by decide +kernel) (by decide +kernel)
theorem tw_520 : Cond.selects RX3 yX3_howMany yX3_howMany ∈ TB := TBm 520 (by decide +kernel) (by decide +kernel)
theorem tw_521 : Cond.code yX3_howMany cX3_howMany 4 (some .int) ∈ TB := TBm 521 (by decide +kernel) (by decide +kernel)
theorem tw_522 : Cond.methodLink RX6 268 yX5_retiredCount ∈ TB := TBm 522 (by decide +kernel) (by decide +kernel)
theorem tw_523 : Cond.instanceMethod yX5_retiredCount ∈ TB := TBm 523 (by decide +kernel) (by decide +kernel)
theorem tw_524 : Cond.selects RX5 yX5_retiredCount yX5_retiredCount ∈ TB := TBm 524 (by decide +kernel) (by decide +kernel)
theorem tw_525 : Cond.code yX5_retiredCount cX5_retiredCount 3 (some .int) ∈ TB := TBm 525 (by decide +kernel) (by decide +kernel)
theorem tw_526 : Cond.methodLink RX6 186 yX5_comeCount ∈ TB := TBm 526 (by decide +kernel) (by decide +kernel)
theorem tw_527 : Cond.instanceMethod yX5_comeCount ∈ TB := TBm 527 (by decide +kernel) (by decide +kernel)
theorem tw_528 : Cond.selects RX5 yX5_comeCount yX5_comeCount ∈ TB := TBm 528 (by decide +kernel) (by decide +kernel)
theorem tw_529 : Cond.code yX5_comeCount cX5_comeCount 3 (some .int) ∈ TB := TBm 529 (by decide +kernel) (by decide +kernel)
theorem tw_530 : Cond.methodLink RX5 99 yX5_hasCome ∈ TB := TBm 530 (by decide +kernel) (by decide +kernel)
theorem tw_531 : Cond.methodLink RX6 219 yX2_held ∈ TB := TBm 531 (by decide +kernel) (by decide +kernel)
theorem tw_532 : Cond.instanceMethod yX2_held ∈ TB := TBm 532 (by decide +kernel) (by decide +kernel)
theorem tw_533 : Cond.selects RX2 yX2_held yX2_held ∈ TB := TBm 533 (by decide +kernel) (by decide +kernel)
theorem tw_534 : Cond.code yX2_held cX2_held 1 (some .int) ∈ TB := TBm 534 (by decide +kernel) (by decide +kernel)
theorem tw_535 : Cond.methodLink RX6 294 yX1_length ∈ TB := TBm 535 (by decide +kernel) (by decide +kernel)
theorem tw_536 : Cond.instanceMethod yX1_length ∈ TB := TBm 536 (by decide +kernel) (by decide +kernel)
theorem tw_537 : Cond.selects RX1 yX1_length yX1_length ∈ TB := TBm 537 (by decide +kernel) (by decide +kernel)
theorem tw_538 : Cond.code yX1_length cX1_length 1 (some .int) ∈ TB := TBm 538 (by decide +kernel) (by decide +kernel)
theorem tw_543 : Cond.methodLink RL 80 yL_low ∈ TB := TBm 543 (by decide +kernel) (by decide +kernel)
theorem tw_544 : Cond.static yL_low ∈ TB := TBm 544 (by decide +kernel) (by decide +kernel)
theorem tw_545 : Cond.code yL_low cL_low 2 (some .int) ∈ TB := TBm 545 (by decide +kernel) (by decide +kernel)
theorem tw_546 : Cond.constant RL 8 (2147483647) ∈ TB := TBm 546 (by decide +kernel) (by decide +kernel)
theorem tw_550 : Cond.methodLink RL 9 yX6_write ∈ TB := TBm 550 (by decide +kernel) (by decide +kernel)
theorem tw_551 : Cond.instanceMethod yX6_write ∈ TB := TBm 551 (by decide +kernel) (by decide +kernel)
theorem tw_552 : Cond.selects RX6 yX6_write yX6_write ∈ TB := TBm 552 (by decide +kernel) (by decide +kernel)
theorem tw_553 : Cond.code yX6_write cX6_write 2 (some .int) ∈ TB := TBm 553 (by decide +kernel) (by decide +kernel)
theorem tw_554 : Cond.methodLink RL 15 yX6_road ∈ TB := TBm 554 (by decide +kernel) (by decide +kernel)
theorem tw_555 : Cond.instanceMethod yX6_road ∈ TB := TBm 555 (by decide +kernel) (by decide +kernel)
theorem tw_556 : Cond.selects RX6 yX6_road yX6_road ∈ TB := TBm 556 (by decide +kernel) (by decide +kernel)
theorem tw_557 : Cond.code yX6_road cX6_road 4 (some .int) ∈ TB := TBm 557 (by decide +kernel) (by decide +kernel)
theorem tw_558 : Cond.methodLink RL 19 yX6_post ∈ TB := TBm 558 (by decide +kernel) (by decide +kernel)
theorem tw_559 : Cond.instanceMethod yX6_post ∈ TB := TBm 559 (by decide +kernel) (by decide +kernel)
theorem tw_560 : Cond.selects RX6 yX6_post yX6_post ∈ TB := TBm 560 (by decide +kernel) (by decide +kernel)
theorem tw_561 : Cond.code yX6_post cX6_post 3 (some .int) ∈ TB := TBm 561 (by decide +kernel) (by decide +kernel)
theorem tw_562 : Cond.methodLink RX6 105 yX5_kindOf ∈ TB := TBm 562 (by decide +kernel) (by decide +kernel)
theorem tw_563 : Cond.instanceMethod yX5_kindOf ∈ TB := TBm 563 (by decide +kernel) (by decide +kernel)
theorem tw_564 : Cond.selects RX5 yX5_kindOf yX5_kindOf ∈ TB := TBm 564 (by decide +kernel) (by decide +kernel)
theorem tw_565 : Cond.code yX5_kindOf cX5_kindOf 2 (some .int) ∈ TB := TBm 565 (by decide +kernel) (by decide +kernel)
theorem tw_566 : Cond.methodLink RX6 111 yX5_ageOf ∈ TB := TBm 566 (by decide +kernel) (by decide +kernel)
theorem tw_567 : Cond.instanceMethod yX5_ageOf ∈ TB := TBm 567 (by decide +kernel) (by decide +kernel)
theorem tw_568 : Cond.selects RX5 yX5_ageOf yX5_ageOf ∈ TB := TBm 568 (by decide +kernel) (by decide +kernel)
theorem tw_569 : Cond.code yX5_ageOf cX5_ageOf 2 (some .int) ∈ TB := TBm 569 (by decide +kernel) (by decide +kernel)
theorem tw_570 : Cond.methodLink RL 22 yX6_arm ∈ TB := TBm 570 (by decide +kernel) (by decide +kernel)
theorem tw_571 : Cond.instanceMethod yX6_arm ∈ TB := TBm 571 (by decide +kernel) (by decide +kernel)
theorem tw_572 : Cond.selects RX6 yX6_arm yX6_arm ∈ TB := TBm 572 (by decide +kernel) (by decide +kernel)
theorem tw_573 : Cond.code yX6_arm cX6_arm 4 (some .int) ∈ TB := TBm 573 (by decide +kernel) (by decide +kernel)
theorem tw_574 : Cond.methodLink RX6 117 yX5_armOf ∈ TB := TBm 574 (by decide +kernel) (by decide +kernel)
theorem tw_575 : Cond.instanceMethod yX5_armOf ∈ TB := TBm 575 (by decide +kernel) (by decide +kernel)
theorem tw_576 : Cond.selects RX5 yX5_armOf yX5_armOf ∈ TB := TBm 576 (by decide +kernel) (by decide +kernel)
theorem tw_577 : Cond.code yX5_armOf cX5_armOf 3 (some .int) ∈ TB := TBm 577 (by decide +kernel) (by decide +kernel)
theorem tw_578 : Cond.methodLink RX6 120 yX5_milesOf ∈ TB := TBm 578 (by decide +kernel) (by decide +kernel)
theorem tw_579 : Cond.instanceMethod yX5_milesOf ∈ TB := TBm 579 (by decide +kernel) (by decide +kernel)
theorem tw_580 : Cond.selects RX5 yX5_milesOf yX5_milesOf ∈ TB := TBm 580 (by decide +kernel) (by decide +kernel)
theorem tw_581 : Cond.code yX5_milesOf cX5_milesOf 3 (some .int) ∈ TB := TBm 581 (by decide +kernel) (by decide +kernel)
theorem tw_582 : Cond.methodLink RX6 123 yX5_pointing ∈ TB := TBm 582 (by decide +kernel) (by decide +kernel)
theorem tw_583 : Cond.methodLink RL 26 yX6_walker ∈ TB := TBm 583 (by decide +kernel) (by decide +kernel)
theorem tw_584 : Cond.instanceMethod yX6_walker ∈ TB := TBm 584 (by decide +kernel) (by decide +kernel)
theorem tw_585 : Cond.selects RX6 yX6_walker yX6_walker ∈ TB := TBm 585 (by decide +kernel) (by decide +kernel)
theorem tw_586 : Cond.code yX6_walker cX6_walker 3 (some .int) ∈ TB := TBm 586 (by decide +kernel) (by decide +kernel)
theorem tw_587 : Cond.methodLink RX6 126 yX5_isWalker ∈ TB := TBm 587 (by decide +kernel) (by decide +kernel)
theorem tw_588 : Cond.instanceMethod yX5_isWalker ∈ TB := TBm 588 (by decide +kernel) (by decide +kernel)
theorem tw_589 : Cond.selects RX5 yX5_isWalker yX5_isWalker ∈ TB := TBm 589 (by decide +kernel) (by decide +kernel)
theorem tw_590 : Cond.code yX5_isWalker cX5_isWalker 2 (some .boolean) ∈ TB := TBm 590 (by decide +kernel) (by decide +kernel)
theorem tw_591 : Cond.methodLink RX6 129 yX5_placeOf ∈ TB := TBm 591 (by decide +kernel) (by decide +kernel)
theorem tw_592 : Cond.instanceMethod yX5_placeOf ∈ TB := TBm 592 (by decide +kernel) (by decide +kernel)
theorem tw_593 : Cond.selects RX5 yX5_placeOf yX5_placeOf ∈ TB := TBm 593 (by decide +kernel) (by decide +kernel)
theorem tw_594 : Cond.code yX5_placeOf cX5_placeOf 2 (some .int) ∈ TB := TBm 594 (by decide +kernel) (by decide +kernel)
theorem tw_595 : Cond.methodLink RX6 132 yX5_goalOf ∈ TB := TBm 595 (by decide +kernel) (by decide +kernel)
theorem tw_596 : Cond.instanceMethod yX5_goalOf ∈ TB := TBm 596 (by decide +kernel) (by decide +kernel)
theorem tw_597 : Cond.selects RX5 yX5_goalOf yX5_goalOf ∈ TB := TBm 597 (by decide +kernel) (by decide +kernel)
theorem tw_598 : Cond.code yX5_goalOf cX5_goalOf 2 (some .int) ∈ TB := TBm 598 (by decide +kernel) (by decide +kernel)
theorem tw_599 : Cond.methodLink RL 41 yX6_retire ∈ TB := TBm 599 (by decide +kernel) (by decide +kernel)
theorem tw_600 : Cond.instanceMethod yX6_retire ∈ TB := TBm 600 (by decide +kernel) (by decide +kernel)
theorem tw_601 : Cond.selects RX6 yX6_retire yX6_retire ∈ TB := TBm 601 (by decide +kernel) (by decide +kernel)
theorem tw_602 : Cond.code yX6_retire cX6_retire 3 (some .int) ∈ TB := TBm 602 (by decide +kernel) (by decide +kernel)
theorem tw_603 : Cond.methodLink RX6 164 yX5_retirePost ∈ TB := TBm 603 (by decide +kernel) (by decide +kernel)
theorem tw_604 : Cond.methodLink RL 44 yX6_comes ∈ TB := TBm 604 (by decide +kernel) (by decide +kernel)
theorem tw_605 : Cond.instanceMethod yX6_comes ∈ TB := TBm 605 (by decide +kernel) (by decide +kernel)
theorem tw_606 : Cond.selects RX6 yX6_comes yX6_comes ∈ TB := TBm 606 (by decide +kernel) (by decide +kernel)
theorem tw_607 : Cond.code yX6_comes cX6_comes 3 (some .int) ∈ TB := TBm 607 (by decide +kernel) (by decide +kernel)
theorem tw_608 : Cond.methodLink RL 47 yX6_trail ∈ TB := TBm 608 (by decide +kernel) (by decide +kernel)
theorem tw_609 : Cond.instanceMethod yX6_trail ∈ TB := TBm 609 (by decide +kernel) (by decide +kernel)
theorem tw_610 : Cond.selects RX6 yX6_trail yX6_trail ∈ TB := TBm 610 (by decide +kernel) (by decide +kernel)
theorem tw_611 : Cond.code yX6_trail cX6_trail 3 (some .int) ∈ TB := TBm 611 (by decide +kernel) (by decide +kernel)
theorem tw_612 : Cond.methodLink RL 50 yX6_helps ∈ TB := TBm 612 (by decide +kernel) (by decide +kernel)
theorem tw_613 : Cond.instanceMethod yX6_helps ∈ TB := TBm 613 (by decide +kernel) (by decide +kernel)
theorem tw_614 : Cond.selects RX6 yX6_helps yX6_helps ∈ TB := TBm 614 (by decide +kernel) (by decide +kernel)
theorem tw_615 : Cond.code yX6_helps cX6_helps 6 (some .int) ∈ TB := TBm 615 (by decide +kernel) (by decide +kernel)
theorem tw_616 : Cond.methodLink RX6 177 yX5_lowestPostIn ∈ TB := TBm 616 (by decide +kernel) (by decide +kernel)
theorem tw_617 : Cond.methodLink RX6 180 yX6_comersHelpedIn ∈ TB := TBm 617 (by decide +kernel) (by decide +kernel)
theorem tw_619 : Cond.instanceMethod yX6_comersHelpedIn ∈ TB := TBm 619 (by decide +kernel) (by decide +kernel)
theorem tw_620 : Cond.code yX6_comersHelpedIn cX6_comersHelpedIn 2 (some .int) ∈ TB := TBm 620 (by decide +kernel) (by decide +kernel)
theorem tw_621 : Cond.methodLink RX6 183 yX5_standPlain ∈ TB := TBm 621 (by decide +kernel) (by decide +kernel)
theorem tw_622 : Cond.instanceMethod yX5_standPlain ∈ TB := TBm 622 (by decide +kernel) (by decide +kernel)
theorem tw_623 : Cond.selects RX5 yX5_standPlain yX5_standPlain ∈ TB := TBm 623 (by decide +kernel) (by decide +kernel)
theorem tw_624 : Cond.code yX5_standPlain cX5_standPlain 2 none ∈ TB := TBm 624 (by decide +kernel) (by decide +kernel)
theorem tw_625 : Cond.methodLink RL 53 yX6_paints ∈ TB := TBm 625 (by decide +kernel) (by decide +kernel)
theorem tw_626 : Cond.instanceMethod yX6_paints ∈ TB := TBm 626 (by decide +kernel) (by decide +kernel)
theorem tw_627 : Cond.selects RX6 yX6_paints yX6_paints ∈ TB := TBm 627 (by decide +kernel) (by decide +kernel)
theorem tw_628 : Cond.code yX6_paints cX6_paints 8 (some .int) ∈ TB := TBm 628 (by decide +kernel) (by decide +kernel)
theorem tw_629 : Cond.methodLink RX6 189 yX6_comersPainted ∈ TB := TBm 629 (by decide +kernel) (by decide +kernel)
theorem tw_631 : Cond.instanceMethod yX6_comersPainted ∈ TB := TBm 631 (by decide +kernel) (by decide +kernel)
theorem tw_632 : Cond.code yX6_comersPainted cX6_comersPainted 3 (some .int) ∈ TB := TBm 632 (by decide +kernel) (by decide +kernel)
theorem tw_633 : Cond.methodLink RX6 200 yX6_hasBit ∈ TB := TBm 633 (by decide +kernel) (by decide +kernel)
theorem tw_634 : Cond.methodLink RX6 192 yX5_noneRetired ∈ TB := TBm 634 (by decide +kernel) (by decide +kernel)
theorem tw_635 : Cond.instanceMethod yX5_noneRetired ∈ TB := TBm 635 (by decide +kernel) (by decide +kernel)
theorem tw_636 : Cond.selects RX5 yX5_noneRetired yX5_noneRetired ∈ TB := TBm 636 (by decide +kernel) (by decide +kernel)
theorem tw_637 : Cond.code yX5_noneRetired cX5_noneRetired 3 (some .boolean) ∈ TB := TBm 637 (by decide +kernel) (by decide +kernel)
theorem tw_638 : Cond.methodLink RX6 195 yJ6_bitCount_0f7a4 ∈ TB := TBm 638 (by decide +kernel) (by decide +kernel)
theorem tw_639 : Cond.static yJ6_bitCount_0f7a4 ∈ TB := TBm 639 (by decide +kernel) (by decide +kernel)
theorem tw_640 : Cond.code yJ6_bitCount_0f7a4 cJ6_bitCount_0f7a4 1 (some .int) ∈ TB := TBm 640 (by decide +kernel) (by decide +kernel)
theorem tw_641 : Cond.constant "java/lang/Integer" 265 (1431655765) ∈ TB := TBm 641 (by decide +kernel) (by decide +kernel)
theorem tw_642 : Cond.constant "java/lang/Integer" 266 (858993459) ∈ TB := TBm 642 (by decide +kernel) (by decide +kernel)
theorem tw_643 : Cond.constant "java/lang/Integer" 267 (252645135) ∈ TB := TBm 643 (by decide +kernel) (by decide +kernel)
theorem tw_644 : Cond.methodLink RL 56 yX6_cover ∈ TB := TBm 644 (by decide +kernel) (by decide +kernel)
theorem tw_645 : Cond.instanceMethod yX6_cover ∈ TB := TBm 645 (by decide +kernel) (by decide +kernel)
theorem tw_646 : Cond.selects RX6 yX6_cover yX6_cover ∈ TB := TBm 646 (by decide +kernel) (by decide +kernel)
theorem tw_647 : Cond.code yX6_cover cX6_cover 6 (some .int) ∈ TB := TBm 647 (by decide +kernel) (by decide +kernel)
theorem tw_648 : Cond.methodLink RX6 203 yX6_isCover ∈ TB := TBm 648 (by decide +kernel) (by decide +kernel)
theorem tw_650 : Cond.instanceMethod yX6_isCover ∈ TB := TBm 650 (by decide +kernel) (by decide +kernel)
theorem tw_651 : Cond.code yX6_isCover cX6_isCover 3 (some .boolean) ∈ TB := TBm 651 (by decide +kernel) (by decide +kernel)
theorem tw_652 : Cond.methodLink RX6 206 yX5_dropPosts ∈ TB := TBm 652 (by decide +kernel) (by decide +kernel)
theorem tw_653 : Cond.instanceMethod yX5_dropPosts ∈ TB := TBm 653 (by decide +kernel) (by decide +kernel)
theorem tw_654 : Cond.selects RX5 yX5_dropPosts yX5_dropPosts ∈ TB := TBm 654 (by decide +kernel) (by decide +kernel)
theorem tw_655 : Cond.code yX5_dropPosts cX5_dropPosts 1 none ∈ TB := TBm 655 (by decide +kernel) (by decide +kernel)
theorem tw_656 : Cond.methodLink RL 59 yX6_far ∈ TB := TBm 656 (by decide +kernel) (by decide +kernel)
theorem tw_657 : Cond.instanceMethod yX6_far ∈ TB := TBm 657 (by decide +kernel) (by decide +kernel)
theorem tw_658 : Cond.selects RX6 yX6_far yX6_far ∈ TB := TBm 658 (by decide +kernel) (by decide +kernel)
theorem tw_659 : Cond.code yX6_far cX6_far 3 (some .int) ∈ TB := TBm 659 (by decide +kernel) (by decide +kernel)
theorem tw_660 : Cond.methodLink RX6 209 yX3_pathMiles ∈ TB := TBm 660 (by decide +kernel) (by decide +kernel)
theorem tw_661 : Cond.methodLink RL 62 yX6_told ∈ TB := TBm 661 (by decide +kernel) (by decide +kernel)
theorem tw_662 : Cond.instanceMethod yX6_told ∈ TB := TBm 662 (by decide +kernel) (by decide +kernel)
theorem tw_663 : Cond.selects RX6 yX6_told yX6_told ∈ TB := TBm 663 (by decide +kernel) (by decide +kernel)
theorem tw_664 : Cond.code yX6_told cX6_told 4 (some .int) ∈ TB := TBm 664 (by decide +kernel) (by decide +kernel)
theorem tw_665 : Cond.methodLink RX6 212 yX2_add ∈ TB := TBm 665 (by decide +kernel) (by decide +kernel)
theorem tw_666 : Cond.instanceMethod yX2_add ∈ TB := TBm 666 (by decide +kernel) (by decide +kernel)
theorem tw_667 : Cond.selects RX2 yX2_add yX2_add ∈ TB := TBm 667 (by decide +kernel) (by decide +kernel)
theorem tw_668 : Cond.code yX2_add cX2_add 4 (some .int) ∈ TB := TBm 668 (by decide +kernel) (by decide +kernel)
theorem tw_669 : Cond.methodLink RX2 28 yX0_put ∈ TB := TBm 669 (by decide +kernel) (by decide +kernel)
theorem tw_670 : Cond.methodLink RL 65 yX6_seen ∈ TB := TBm 670 (by decide +kernel) (by decide +kernel)
theorem tw_671 : Cond.instanceMethod yX6_seen ∈ TB := TBm 671 (by decide +kernel) (by decide +kernel)
theorem tw_672 : Cond.selects RX6 yX6_seen yX6_seen ∈ TB := TBm 672 (by decide +kernel) (by decide +kernel)
theorem tw_673 : Cond.code yX6_seen cX6_seen 4 (some .int) ∈ TB := TBm 673 (by decide +kernel) (by decide +kernel)
theorem tw_674 : Cond.methodLink RL 68 yX6_kinds ∈ TB := TBm 674 (by decide +kernel) (by decide +kernel)
theorem tw_675 : Cond.instanceMethod yX6_kinds ∈ TB := TBm 675 (by decide +kernel) (by decide +kernel)
theorem tw_676 : Cond.selects RX6 yX6_kinds yX6_kinds ∈ TB := TBm 676 (by decide +kernel) (by decide +kernel)
theorem tw_677 : Cond.code yX6_kinds cX6_kinds 4 (some .int) ∈ TB := TBm 677 (by decide +kernel) (by decide +kernel)
theorem tw_678 : Cond.methodLink RX6 244 yX5_turnInto ∈ TB := TBm 678 (by decide +kernel) (by decide +kernel)
theorem tw_679 : Cond.instanceMethod yX5_turnInto ∈ TB := TBm 679 (by decide +kernel) (by decide +kernel)
theorem tw_680 : Cond.selects RX5 yX5_turnInto yX5_turnInto ∈ TB := TBm 680 (by decide +kernel) (by decide +kernel)
theorem tw_681 : Cond.code yX5_turnInto cX5_turnInto 3 none ∈ TB := TBm 681 (by decide +kernel) (by decide +kernel)
theorem tw_682 : Cond.methodLink RX6 247 yX6_fitsSightings ∈ TB := TBm 682 (by decide +kernel) (by decide +kernel)
theorem tw_684 : Cond.instanceMethod yX6_fitsSightings ∈ TB := TBm 684 (by decide +kernel) (by decide +kernel)
theorem tw_685 : Cond.code yX6_fitsSightings cX6_fitsSightings 4 (some .boolean) ∈ TB := TBm 685 (by decide +kernel) (by decide +kernel)
theorem tw_686 : Cond.methodLink RX6 220 yX2_number ∈ TB := TBm 686 (by decide +kernel) (by decide +kernel)
theorem tw_687 : Cond.instanceMethod yX2_number ∈ TB := TBm 687 (by decide +kernel) (by decide +kernel)
theorem tw_688 : Cond.selects RX2 yX2_number yX2_number ∈ TB := TBm 688 (by decide +kernel) (by decide +kernel)
theorem tw_689 : Cond.code yX2_number cX2_number 3 (some .int) ∈ TB := TBm 689 (by decide +kernel) (by decide +kernel)
theorem tw_690 : Cond.methodLink RX2 24 yX0_at ∈ TB := TBm 690 (by decide +kernel) (by decide +kernel)
theorem tw_691 : Cond.methodLink RL 71 yX6_likely ∈ TB := TBm 691 (by decide +kernel) (by decide +kernel)
theorem tw_692 : Cond.instanceMethod yX6_likely ∈ TB := TBm 692 (by decide +kernel) (by decide +kernel)
theorem tw_693 : Cond.selects RX6 yX6_likely yX6_likely ∈ TB := TBm 693 (by decide +kernel) (by decide +kernel)
theorem tw_694 : Cond.code yX6_likely cX6_likely 9 (some .int) ∈ TB := TBm 694 (by decide +kernel) (by decide +kernel)
theorem tw_695 : Cond.methodLink RX6 250 yX6_weightOf ∈ TB := TBm 695 (by decide +kernel) (by decide +kernel)
theorem tw_697 : Cond.instanceMethod yX6_weightOf ∈ TB := TBm 697 (by decide +kernel) (by decide +kernel)
theorem tw_698 : Cond.code yX6_weightOf cX6_weightOf 5 (some .int) ∈ TB := TBm 698 (by decide +kernel) (by decide +kernel)
theorem tw_699 : Cond.methodLink RX6 253 yX6_comesTwisted ∈ TB := TBm 699 (by decide +kernel) (by decide +kernel)
theorem tw_701 : Cond.instanceMethod yX6_comesTwisted ∈ TB := TBm 701 (by decide +kernel) (by decide +kernel)
theorem tw_702 : Cond.code yX6_comesTwisted cX6_comesTwisted 3 (some .boolean) ∈ TB := TBm 702 (by decide +kernel) (by decide +kernel)
theorem tw_703 : Cond.methodLink RX6 259 yX5_twist ∈ TB := TBm 703 (by decide +kernel) (by decide +kernel)
theorem tw_704 : Cond.instanceMethod yX5_twist ∈ TB := TBm 704 (by decide +kernel) (by decide +kernel)
theorem tw_705 : Cond.selects RX5 yX5_twist yX5_twist ∈ TB := TBm 705 (by decide +kernel) (by decide +kernel)
theorem tw_706 : Cond.code yX5_twist cX5_twist 2 none ∈ TB := TBm 706 (by decide +kernel) (by decide +kernel)
theorem tw_707 : Cond.methodLink RX6 256 yX6_commonPart ∈ TB := TBm 707 (by decide +kernel) (by decide +kernel)
theorem tw_708 : Cond.static yX6_commonPart ∈ TB := TBm 708 (by decide +kernel) (by decide +kernel)
theorem tw_709 : Cond.code yX6_commonPart cX6_commonPart 6 (some .int) ∈ TB := TBm 709 (by decide +kernel) (by decide +kernel)
theorem tw_710 : Cond.methodLink RL 74 yX6_century ∈ TB := TBm 710 (by decide +kernel) (by decide +kernel)
theorem tw_711 : Cond.instanceMethod yX6_century ∈ TB := TBm 711 (by decide +kernel) (by decide +kernel)
theorem tw_712 : Cond.selects RX6 yX6_century yX6_century ∈ TB := TBm 712 (by decide +kernel) (by decide +kernel)
theorem tw_713 : Cond.code yX6_century cX6_century 5 (some .int) ∈ TB := TBm 713 (by decide +kernel) (by decide +kernel)
theorem tw_714 : Cond.methodLink RX6 262 yX6_drawn ∈ TB := TBm 714 (by decide +kernel) (by decide +kernel)
theorem tw_715 : Cond.static yX6_drawn ∈ TB := TBm 715 (by decide +kernel) (by decide +kernel)
theorem tw_716 : Cond.code yX6_drawn cX6_drawn 4 (some .int) ∈ TB := TBm 716 (by decide +kernel) (by decide +kernel)
theorem tw_717 : Cond.constantLong RX6 274 (7919) ∈ TB := TBm 717 (by decide +kernel) (by decide +kernel)
theorem tw_718 : Cond.constantLong RX6 276 (6151) ∈ TB := TBm 718 (by decide +kernel) (by decide +kernel)
theorem tw_719 : Cond.constantLong RX6 278 (65521) ∈ TB := TBm 719 (by decide +kernel) (by decide +kernel)
theorem tw_720 : Cond.constantLong RX6 280 (2) ∈ TB := TBm 720 (by decide +kernel) (by decide +kernel)
theorem tw_721 : Cond.methodLink RX6 265 yX6_actByDraw ∈ TB := TBm 721 (by decide +kernel) (by decide +kernel)
theorem tw_723 : Cond.instanceMethod yX6_actByDraw ∈ TB := TBm 723 (by decide +kernel) (by decide +kernel)
theorem tw_724 : Cond.code yX6_actByDraw cX6_actByDraw 6 none ∈ TB := TBm 724 (by decide +kernel) (by decide +kernel)
theorem tw_725 : Cond.methodLink RX6 282 yX6_layOrClose ∈ TB := TBm 725 (by decide +kernel) (by decide +kernel)
theorem tw_727 : Cond.instanceMethod yX6_layOrClose ∈ TB := TBm 727 (by decide +kernel) (by decide +kernel)
theorem tw_728 : Cond.code yX6_layOrClose cX6_layOrClose 5 none ∈ TB := TBm 728 (by decide +kernel) (by decide +kernel)
theorem tw_729 : Cond.methodLink RX6 285 yX3_townBehind ∈ TB := TBm 729 (by decide +kernel) (by decide +kernel)
theorem tw_730 : Cond.instanceMethod yX3_townBehind ∈ TB := TBm 730 (by decide +kernel) (by decide +kernel)
theorem tw_731 : Cond.selects RX3 yX3_townBehind yX3_townBehind ∈ TB := TBm 731 (by decide +kernel) (by decide +kernel)
theorem tw_732 : Cond.code yX3_townBehind cX3_townBehind 2 (some .int) ∈ TB := TBm 732 (by decide +kernel) (by decide +kernel)
theorem tw_733 : Cond.methodLink RX6 271 yX3_milesOfAll ∈ TB := TBm 733 (by decide +kernel) (by decide +kernel)
theorem tw_734 : Cond.instanceMethod yX3_milesOfAll ∈ TB := TBm 734 (by decide +kernel) (by decide +kernel)
theorem tw_735 : Cond.selects RX3 yX3_milesOfAll yX3_milesOfAll ∈ TB := TBm 735 (by decide +kernel) (by decide +kernel)
theorem tw_736 : Cond.code yX3_milesOfAll cX3_milesOfAll 4 (some .int) ∈ TB := TBm 736 (by decide +kernel) (by decide +kernel)
theorem tw_740 : Cond.methodLink RL 92 yX6_keep ∈ TB := TBm 740 (by decide +kernel) (by decide +kernel)
theorem tw_741 : Cond.instanceMethod yX6_keep ∈ TB := TBm 741 (by decide +kernel) (by decide +kernel)
theorem tw_742 : Cond.selects RX6 yX6_keep yX6_keep ∈ TB := TBm 742 (by decide +kernel) (by decide +kernel)
theorem tw_743 : Cond.code yX6_keep cX6_keep 1 (some .int) ∈ TB := TBm 743 (by decide +kernel) (by decide +kernel)
theorem tw_744 : Cond.methodLink RL 95 yX6_back ∈ TB := TBm 744 (by decide +kernel) (by decide +kernel)
theorem tw_745 : Cond.instanceMethod yX6_back ∈ TB := TBm 745 (by decide +kernel) (by decide +kernel)
theorem tw_746 : Cond.selects RX6 yX6_back yX6_back ∈ TB := TBm 746 (by decide +kernel) (by decide +kernel)
theorem tw_747 : Cond.code yX6_back cX6_back 1 (some .int) ∈ TB := TBm 747 (by decide +kernel) (by decide +kernel)
theorem tw_748 : Cond.methodLink RX6 84 yX4_empty ∈ TB := TBm 748 (by decide +kernel) (by decide +kernel)
theorem tw_749 : Cond.instanceMethod yX4_empty ∈ TB := TBm 749 (by decide +kernel) (by decide +kernel)
theorem tw_750 : Cond.selects RX4 yX4_empty yX4_empty ∈ TB := TBm 750 (by decide +kernel) (by decide +kernel)
theorem tw_751 : Cond.code yX4_empty cX4_empty 1 none ∈ TB := TBm 751 (by decide +kernel) (by decide +kernel)
theorem tw_752 : Cond.methodLink RL 98 yX6_forget ∈ TB := TBm 752 (by decide +kernel) (by decide +kernel)
theorem tw_753 : Cond.instanceMethod yX6_forget ∈ TB := TBm 753 (by decide +kernel) (by decide +kernel)
theorem tw_754 : Cond.selects RX6 yX6_forget yX6_forget ∈ TB := TBm 754 (by decide +kernel) (by decide +kernel)
theorem tw_755 : Cond.code yX6_forget cX6_forget 1 (some .int) ∈ TB := TBm 755 (by decide +kernel) (by decide +kernel)
theorem tw_756 : Cond.methodLink RX6 86 yX2_empty ∈ TB := TBm 756 (by decide +kernel) (by decide +kernel)
theorem tw_757 : Cond.instanceMethod yX2_empty ∈ TB := TBm 757 (by decide +kernel) (by decide +kernel)
theorem tw_758 : Cond.selects RX2 yX2_empty yX2_empty ∈ TB := TBm 758 (by decide +kernel) (by decide +kernel)
theorem tw_759 : Cond.code yX2_empty cX2_empty 2 (some .int) ∈ TB := TBm 759 (by decide +kernel) (by decide +kernel)
theorem tw_760 : Cond.methodLink RL 101 yX6_stood ∈ TB := TBm 760 (by decide +kernel) (by decide +kernel)
theorem tw_761 : Cond.instanceMethod yX6_stood ∈ TB := TBm 761 (by decide +kernel) (by decide +kernel)
theorem tw_762 : Cond.selects RX6 yX6_stood yX6_stood ∈ TB := TBm 762 (by decide +kernel) (by decide +kernel)
theorem tw_763 : Cond.code yX6_stood cX6_stood 3 (some .int) ∈ TB := TBm 763 (by decide +kernel) (by decide +kernel)
theorem tw_764 : Cond.methodLink RX6 216 yX6_tellsAll ∈ TB := TBm 764 (by decide +kernel) (by decide +kernel)
theorem tw_766 : Cond.instanceMethod yX6_tellsAll ∈ TB := TBm 766 (by decide +kernel) (by decide +kernel)
theorem tw_767 : Cond.code yX6_tellsAll cX6_tellsAll 6 (some .boolean) ∈ TB := TBm 767 (by decide +kernel) (by decide +kernel)
theorem tw_768 : Cond.methodLink RX6 223 yX3_firstStep ∈ TB := TBm 768 (by decide +kernel) (by decide +kernel)
theorem tw_769 : Cond.methodLink RL 107 yX6_next ∈ TB := TBm 769 (by decide +kernel) (by decide +kernel)
theorem tw_770 : Cond.instanceMethod yX6_next ∈ TB := TBm 770 (by decide +kernel) (by decide +kernel)
theorem tw_771 : Cond.selects RX6 yX6_next yX6_next ∈ TB := TBm 771 (by decide +kernel) (by decide +kernel)
theorem tw_772 : Cond.code yX6_next cX6_next 6 (some .int) ∈ TB := TBm 772 (by decide +kernel) (by decide +kernel)
theorem tw_773 : Cond.methodLink RX6 226 yX6_stood ∈ TB := TBm 773 (by decide +kernel) (by decide +kernel)
theorem tw_774 : Cond.methodLink RX6 229 yX6_mostAlike ∈ TB := TBm 774 (by decide +kernel) (by decide +kernel)
theorem tw_776 : Cond.instanceMethod yX6_mostAlike ∈ TB := TBm 776 (by decide +kernel) (by decide +kernel)
theorem tw_777 : Cond.code yX6_mostAlike cX6_mostAlike 5 (some .int) ∈ TB := TBm 777 (by decide +kernel) (by decide +kernel)
theorem tw_778 : Cond.methodLink RX6 232 yX6_alikeWith ∈ TB := TBm 778 (by decide +kernel) (by decide +kernel)
theorem tw_780 : Cond.instanceMethod yX6_alikeWith ∈ TB := TBm 780 (by decide +kernel) (by decide +kernel)
theorem tw_781 : Cond.code yX6_alikeWith cX6_alikeWith 6 (some .int) ∈ TB := TBm 781 (by decide +kernel) (by decide +kernel)
theorem tw_782 : Cond.methodLink RX6 240 yX6_tellAlike ∈ TB := TBm 782 (by decide +kernel) (by decide +kernel)
theorem tw_784 : Cond.instanceMethod yX6_tellAlike ∈ TB := TBm 784 (by decide +kernel) (by decide +kernel)
theorem tw_785 : Cond.code yX6_tellAlike cX6_tellAlike 6 (some .boolean) ∈ TB := TBm 785 (by decide +kernel) (by decide +kernel)
theorem tw_786 : Cond.methodLink RX6 235 yJ9_max_7cf53 ∈ TB := TBm 786 (by decide +kernel) (by decide +kernel)
theorem inT0 : ∀ x ∈ u_ws RX0 TX0 2, x ∈ TB := by
  intro x hx
  obtain ⟨j, hj, rfl⟩ := List.mem_map.mp hx
  have hj := List.mem_range.mp hj
  match j, hj with
  | 0, _ => exact TBm 62 (by decide +kernel) (by decide +kernel)
  | 1, _ => exact TBm 64 (by decide +kernel) (by decide +kernel)
theorem inT1 : ∀ x ∈ u_ws RX1 TX1 4, x ∈ TB := by
  intro x hx
  obtain ⟨j, hj, rfl⟩ := List.mem_map.mp hx
  have hj := List.mem_range.mp hj
  match j, hj with
  | 0, _ => exact TBm 72 (by decide +kernel) (by decide +kernel)
  | 1, _ => exact TBm 74 (by decide +kernel) (by decide +kernel)
  | 2, _ => exact TBm 76 (by decide +kernel) (by decide +kernel)
  | 3, _ => exact TBm 78 (by decide +kernel) (by decide +kernel)
theorem inT2 : ∀ x ∈ u_ws RX2 TX2 2, x ∈ TB := by
  intro x hx
  obtain ⟨j, hj, rfl⟩ := List.mem_map.mp hx
  have hj := List.mem_range.mp hj
  match j, hj with
  | 0, _ => exact TBm 169 (by decide +kernel) (by decide +kernel)
  | 1, _ => exact TBm 171 (by decide +kernel) (by decide +kernel)
theorem inT3 : ∀ x ∈ u_ws RX3 TX3 3, x ∈ TB := by
  intro x hx
  obtain ⟨j, hj, rfl⟩ := List.mem_map.mp hx
  have hj := List.mem_range.mp hj
  match j, hj with
  | 0, _ => exact TBm 98 (by decide +kernel) (by decide +kernel)
  | 1, _ => exact TBm 100 (by decide +kernel) (by decide +kernel)
  | 2, _ => exact TBm 102 (by decide +kernel) (by decide +kernel)
theorem inT4 : ∀ x ∈ u_ws RX4 TX4 3, x ∈ TB := by
  intro x hx
  obtain ⟨j, hj, rfl⟩ := List.mem_map.mp hx
  have hj := List.mem_range.mp hj
  match j, hj with
  | 0, _ => exact TBm 152 (by decide +kernel) (by decide +kernel)
  | 1, _ => exact TBm 154 (by decide +kernel) (by decide +kernel)
  | 2, _ => exact TBm 156 (by decide +kernel) (by decide +kernel)
theorem inT5 : ∀ x ∈ u_ws RX5 TX5 10, x ∈ TB := by
  intro x hx
  obtain ⟨j, hj, rfl⟩ := List.mem_map.mp hx
  have hj := List.mem_range.mp hj
  match j, hj with
  | 0, _ => exact TBm 117 (by decide +kernel) (by decide +kernel)
  | 1, _ => exact TBm 119 (by decide +kernel) (by decide +kernel)
  | 2, _ => exact TBm 121 (by decide +kernel) (by decide +kernel)
  | 3, _ => exact TBm 123 (by decide +kernel) (by decide +kernel)
  | 4, _ => exact TBm 125 (by decide +kernel) (by decide +kernel)
  | 5, _ => exact TBm 127 (by decide +kernel) (by decide +kernel)
  | 6, _ => exact TBm 129 (by decide +kernel) (by decide +kernel)
  | 7, _ => exact TBm 131 (by decide +kernel) (by decide +kernel)
  | 8, _ => exact TBm 133 (by decide +kernel) (by decide +kernel)
  | 9, _ => exact TBm 135 (by decide +kernel) (by decide +kernel)
theorem inT6 : ∀ x ∈ u_ws RX6 TX6 7, x ∈ TB := by
  intro x hx
  obtain ⟨j, hj, rfl⟩ := List.mem_map.mp hx
  have hj := List.mem_range.mp hj
  match j, hj with
  | 0, _ => exact TBm 343 (by decide +kernel) (by decide +kernel)
  | 1, _ => exact TBm 345 (by decide +kernel) (by decide +kernel)
  | 2, _ => exact TBm 347 (by decide +kernel) (by decide +kernel)
  | 3, _ => exact TBm 349 (by decide +kernel) (by decide +kernel)
  | 4, _ => exact TBm 351 (by decide +kernel) (by decide +kernel)
  | 5, _ => exact TBm 353 (by decide +kernel) (by decide +kernel)
  | 6, _ => exact TBm 355 (by decide +kernel) (by decide +kernel)
section GP
variable {p : Program} {l : Launch} {e : Env} {R : Room} {s : State} {m : MethodId} {args : Array Value} {below : List Frame} {meth : Method} {c : Code} {H : Heap} {locs : List Loc} {cells slots : Nat} {Q : State → Prop} {cc : ByteArray} {pc : Nat} {ls : Array Slot} {rest : List Value} {D : va_G} {w : Wv} {σ : Sg} {H0 : Heap}
theorem gt_X6_10 (hx : p.tables.exec = Jvm.exec) (hb : c.code = cc) (hts : ∀ x ∈ TB, x.before args s = true) (hown : s.vm.findClass RX6 = some m.cls) (hK : KN D w s) (hP : va_P D vwCl (WL w σ) H) (hdg : decode cc pc = .ok (.getfield 10, 3)) (kk : W p l e R s m args below meth c H locs cells slots Q (F0 m (pc + 3) ls (.ref (w.1 1) :: rest))) : W p l e R s m args below meth c H locs cells slots Q (F0 m pc ls (.ref (w.1 (0)) :: rest)) := q_get hx hb hts inT6 hown hK hP o0 (ce6 kd0) rfl 0 (by decide) rfl tw_336 rfl hdg kk
theorem gt_X6_19 (hx : p.tables.exec = Jvm.exec) (hb : c.code = cc) (hts : ∀ x ∈ TB, x.before args s = true) (hown : s.vm.findClass RX6 = some m.cls) (hK : KN D w s) (hP : va_P D vwCl (WL w σ) H) (hdg : decode cc pc = .ok (.getfield 19, 3)) (kk : W p l e R s m args below meth c H locs cells slots Q (F0 m (pc + 3) ls (.ref (w.1 6) :: rest))) : W p l e R s m args below meth c H locs cells slots Q (F0 m pc ls (.ref (w.1 (0)) :: rest)) := q_get hx hb hts inT6 hown hK hP o0 (ce6 kd0) rfl 1 (by decide) rfl tw_337 rfl hdg kk
theorem gt_X6_23 (hx : p.tables.exec = Jvm.exec) (hb : c.code = cc) (hts : ∀ x ∈ TB, x.before args s = true) (hown : s.vm.findClass RX6 = some m.cls) (hK : KN D w s) (hP : va_P D vwCl (WL w σ) H) (hdg : decode cc pc = .ok (.getfield 23, 3)) (kk : W p l e R s m args below meth c H locs cells slots Q (F0 m (pc + 3) ls (.ref (w.1 20) :: rest))) : W p l e R s m args below meth c H locs cells slots Q (F0 m pc ls (.ref (w.1 (0)) :: rest)) := q_get hx hb hts inT6 hown hK hP o0 (ce6 kd0) rfl 2 (by decide) rfl tw_338 rfl hdg kk
theorem gt_X6_31 (hx : p.tables.exec = Jvm.exec) (hb : c.code = cc) (hts : ∀ x ∈ TB, x.before args s = true) (hown : s.vm.findClass RX6 = some m.cls) (hK : KN D w s) (hP : va_P D vwCl (WL w σ) H) (hdg : decode cc pc = .ok (.getfield 31, 3)) (kk : W p l e R s m args below meth c H locs cells slots Q (F0 m (pc + 3) ls (.ref (w.1 34) :: rest))) : W p l e R s m args below meth c H locs cells slots Q (F0 m pc ls (.ref (w.1 (0)) :: rest)) := q_get hx hb hts inT6 hown hK hP o0 (ce6 kd0) rfl 3 (by decide) rfl tw_339 rfl hdg kk
theorem gt_X6_35 (hx : p.tables.exec = Jvm.exec) (hb : c.code = cc) (hts : ∀ x ∈ TB, x.before args s = true) (hown : s.vm.findClass RX6 = some m.cls) (hK : KN D w s) (hP : va_P D vwCl (WL w σ) H) (hdg : decode cc pc = .ok (.getfield 35, 3)) (kk : W p l e R s m args below meth c H locs cells slots Q (F0 m (pc + 3) ls (.ref (w.1 148) :: rest))) : W p l e R s m args below meth c H locs cells slots Q (F0 m pc ls (.ref (w.1 (0)) :: rest)) := q_get hx hb hts inT6 hown hK hP o0 (ce6 kd0) rfl 4 (by decide) rfl tw_340 rfl hdg kk
theorem gt_X6_41 (hx : p.tables.exec = Jvm.exec) (hb : c.code = cc) (hts : ∀ x ∈ TB, x.before args s = true) (hown : s.vm.findClass RX6 = some m.cls) (hK : KN D w s) (hP : va_P D vwCl (WL w σ) H) (hdg : decode cc pc = .ok (.getfield 41, 3)) (kk : W p l e R s m args below meth c H locs cells slots Q (F0 m (pc + 3) ls (.ref (w.1 178) :: rest))) : W p l e R s m args below meth c H locs cells slots Q (F0 m pc ls (.ref (w.1 (0)) :: rest)) := q_get hx hb hts inT6 hown hK hP o0 (ce6 kd0) rfl 5 (by decide) rfl tw_341 rfl hdg kk
theorem gt_X6_45 (hx : p.tables.exec = Jvm.exec) (hb : c.code = cc) (hts : ∀ x ∈ TB, x.before args s = true) (hown : s.vm.findClass RX6 = some m.cls) (hK : KN D w s) (hP : va_P D vwCl (WL w σ) H) (hdg : decode cc pc = .ok (.getfield 45, 3)) (kk : W p l e R s m args below meth c H locs cells slots Q (F0 m (pc + 3) ls (.ref (w.1 181) :: rest))) : W p l e R s m args below meth c H locs cells slots Q (F0 m pc ls (.ref (w.1 (0)) :: rest)) := q_get hx hb hts inT6 hown hK hP o0 (ce6 kd0) rfl 6 (by decide) rfl tw_342 rfl hdg kk
theorem gt_X0_9 (hx : p.tables.exec = Jvm.exec) (hb : c.code = cc) (hts : ∀ x ∈ TB, x.before args s = true) (hown : s.vm.findClass RX0 = some m.cls) (hK : KN D w s) (hP : va_P D vwCl (WL w σ) H) {i : Nat} (hi : i < 184) (hk : kd i = 0) (hdg : decode cc pc = .ok (.getfield 9, 3)) (kk : W p l e R s m args below meth c H locs cells slots Q (F0 m (pc + 3) ls (.int (σ i 0) :: rest))) : W p l e R s m args below meth c H locs cells slots Q (F0 m pc ls (.ref (w.1 (i)) :: rest)) := q_get hx hb hts inT0 hown hK hP hi (ce0 hk) rfl 0 (by decide) rfl tw_60 rfl hdg kk
theorem gt_X0_24 (hx : p.tables.exec = Jvm.exec) (hb : c.code = cc) (hts : ∀ x ∈ TB, x.before args s = true) (hown : s.vm.findClass RX0 = some m.cls) (hK : KN D w s) (hP : va_P D vwCl (WL w σ) H) {i : Nat} (hi : i < 184) (hk : kd i = 0) (hdg : decode cc pc = .ok (.getfield 24, 3)) (kk : W p l e R s m args below meth c H locs cells slots Q (F0 m (pc + 3) ls (.ref (w.1 (i + 1)) :: rest))) : W p l e R s m args below meth c H locs cells slots Q (F0 m pc ls (.ref (w.1 (i)) :: rest)) := q_get hx hb hts inT0 hown hK hP hi (ce0 hk) rfl 1 (by decide) rfl tw_61 rfl hdg kk
theorem gt_X1_14 (hx : p.tables.exec = Jvm.exec) (hb : c.code = cc) (hts : ∀ x ∈ TB, x.before args s = true) (hown : s.vm.findClass RX1 = some m.cls) (hK : KN D w s) (hP : va_P D vwCl (WL w σ) H) {i : Nat} (hi : i < 184) (hk : kd i = 1) (hdg : decode cc pc = .ok (.getfield 14, 3)) (kk : W p l e R s m args below meth c H locs cells slots Q (F0 m (pc + 3) ls (.ref (w.1 (i + 1)) :: rest))) : W p l e R s m args below meth c H locs cells slots Q (F0 m pc ls (.ref (w.1 (i)) :: rest)) := q_get hx hb hts inT1 hown hK hP hi (ce1 hk) rfl 0 (by decide) rfl tw_68 rfl hdg kk
theorem gt_X1_20 (hx : p.tables.exec = Jvm.exec) (hb : c.code = cc) (hts : ∀ x ∈ TB, x.before args s = true) (hown : s.vm.findClass RX1 = some m.cls) (hK : KN D w s) (hP : va_P D vwCl (WL w σ) H) {i : Nat} (hi : i < 184) (hk : kd i = 1) (hdg : decode cc pc = .ok (.getfield 20, 3)) (kk : W p l e R s m args below meth c H locs cells slots Q (F0 m (pc + 3) ls (.ref (w.1 (i + 3)) :: rest))) : W p l e R s m args below meth c H locs cells slots Q (F0 m pc ls (.ref (w.1 (i)) :: rest)) := q_get hx hb hts inT1 hown hK hP hi (ce1 hk) rfl 1 (by decide) rfl tw_69 rfl hdg kk
theorem gt_X1_23 (hx : p.tables.exec = Jvm.exec) (hb : c.code = cc) (hts : ∀ x ∈ TB, x.before args s = true) (hown : s.vm.findClass RX1 = some m.cls) (hK : KN D w s) (hP : va_P D vwCl (WL w σ) H) {i : Nat} (hi : i < 184) (hk : kd i = 1) (hdg : decode cc pc = .ok (.getfield 23, 3)) (kk : W p l e R s m args below meth c H locs cells slots Q (F0 m (pc + 3) ls (.int (σ i 2) :: rest))) : W p l e R s m args below meth c H locs cells slots Q (F0 m pc ls (.ref (w.1 (i)) :: rest)) := q_get hx hb hts inT1 hown hK hP hi (ce1 hk) rfl 2 (by decide) rfl tw_70 rfl hdg kk
theorem sfe_1_2 {v : Int32} {i : Nat} (hk : kd i = 1) : ce w (sf σ i 2 v) i = .inr (1, [.ref (w.1 (i + 1)), .ref (w.1 (i + 3)), .int (σ i 2), .int (σ i 3)].set 2 (.int v)) := (ce1 hk).trans (by simp [sf, va_up, upd])
theorem pt_X1_23 (hx : p.tables.exec = Jvm.exec) (hb : c.code = cc) (hts : ∀ x ∈ TB, x.before args s = true) (hown : s.vm.findClass RX1 = some m.cls) (hK : KN D w s) (hP : va_P D vwCl (WL w σ) H) (hJ : Inj w) (hS : va_S (AL w) H0 H locs) {i : Nat} (hi : i < 184) (hk : kd i = 1) {v : Int32} {σ' : Sg} (hg : some (sf σ i 2 v) = some σ') (hdg : decode cc pc = .ok (.putfield 23, 3)) (kk : ∀ (H : Heap) (locs : List Loc), va_P D vwCl (WL w σ') H → va_S (AL w) H0 H locs → W p l e R s m args below meth c H locs cells slots Q (F0 m (pc + 3) ls rest)) : W p l e R s m args below meth c H locs cells slots Q (F0 m pc ls (.int v :: .ref (w.1 (i)) :: rest)) := by
  cases hg
  exact q_put hx hb hts inT1 tyX1 tyX1_ok nmX1 hown hK hP hJ hS hi (ce1 hk) rfl 2 (by decide) rfl tw_70 rfl rfl rfl (Nat.le_of_ble_eq_true rfl) (fun j hj => sf_ne hj) (sfe_1_2 hk) hdg kk
theorem gt_X1_36 (hx : p.tables.exec = Jvm.exec) (hb : c.code = cc) (hts : ∀ x ∈ TB, x.before args s = true) (hown : s.vm.findClass RX1 = some m.cls) (hK : KN D w s) (hP : va_P D vwCl (WL w σ) H) {i : Nat} (hi : i < 184) (hk : kd i = 1) (hdg : decode cc pc = .ok (.getfield 36, 3)) (kk : W p l e R s m args below meth c H locs cells slots Q (F0 m (pc + 3) ls (.int (σ i 3) :: rest))) : W p l e R s m args below meth c H locs cells slots Q (F0 m pc ls (.ref (w.1 (i)) :: rest)) := q_get hx hb hts inT1 hown hK hP hi (ce1 hk) rfl 3 (by decide) rfl tw_71 rfl hdg kk
theorem sfe_1_3 {v : Int32} {i : Nat} (hk : kd i = 1) : ce w (sf σ i 3 v) i = .inr (1, [.ref (w.1 (i + 1)), .ref (w.1 (i + 3)), .int (σ i 2), .int (σ i 3)].set 3 (.int v)) := (ce1 hk).trans (by simp [sf, va_up, upd])
theorem pt_X1_36 (hx : p.tables.exec = Jvm.exec) (hb : c.code = cc) (hts : ∀ x ∈ TB, x.before args s = true) (hown : s.vm.findClass RX1 = some m.cls) (hK : KN D w s) (hP : va_P D vwCl (WL w σ) H) (hJ : Inj w) (hS : va_S (AL w) H0 H locs) {i : Nat} (hi : i < 184) (hk : kd i = 1) {v : Int32} {σ' : Sg} (hg : some (sf σ i 3 v) = some σ') (hdg : decode cc pc = .ok (.putfield 36, 3)) (kk : ∀ (H : Heap) (locs : List Loc), va_P D vwCl (WL w σ') H → va_S (AL w) H0 H locs → W p l e R s m args below meth c H locs cells slots Q (F0 m (pc + 3) ls rest)) : W p l e R s m args below meth c H locs cells slots Q (F0 m pc ls (.int v :: .ref (w.1 (i)) :: rest)) := by
  cases hg
  exact q_put hx hb hts inT1 tyX1 tyX1_ok nmX1 hown hK hP hJ hS hi (ce1 hk) rfl 3 (by decide) rfl tw_71 rfl rfl rfl (Nat.le_of_ble_eq_true rfl) (fun j hj => sf_ne hj) (sfe_1_3 hk) hdg kk
theorem gt_X2_14 (hx : p.tables.exec = Jvm.exec) (hb : c.code = cc) (hts : ∀ x ∈ TB, x.before args s = true) (hown : s.vm.findClass RX2 = some m.cls) (hK : KN D w s) (hP : va_P D vwCl (WL w σ) H) {i : Nat} (hi : i < 184) (hk : kd i = 2) (hdg : decode cc pc = .ok (.getfield 14, 3)) (kk : W p l e R s m args below meth c H locs cells slots Q (F0 m (pc + 3) ls (.ref (w.1 (i + 1)) :: rest))) : W p l e R s m args below meth c H locs cells slots Q (F0 m pc ls (.ref (w.1 (i)) :: rest)) := q_get hx hb hts inT2 hown hK hP hi (ce2 hk) rfl 0 (by decide) rfl tw_167 rfl hdg kk
theorem gt_X2_20 (hx : p.tables.exec = Jvm.exec) (hb : c.code = cc) (hts : ∀ x ∈ TB, x.before args s = true) (hown : s.vm.findClass RX2 = some m.cls) (hK : KN D w s) (hP : va_P D vwCl (WL w σ) H) {i : Nat} (hi : i < 184) (hk : kd i = 2) (hdg : decode cc pc = .ok (.getfield 20, 3)) (kk : W p l e R s m args below meth c H locs cells slots Q (F0 m (pc + 3) ls (.int (σ i 1) :: rest))) : W p l e R s m args below meth c H locs cells slots Q (F0 m pc ls (.ref (w.1 (i)) :: rest)) := q_get hx hb hts inT2 hown hK hP hi (ce2 hk) rfl 1 (by decide) rfl tw_168 rfl hdg kk
theorem sfe_2_1 {v : Int32} {i : Nat} (hk : kd i = 2) : ce w (sf σ i 1 v) i = .inr (2, [.ref (w.1 (i + 1)), .int (σ i 1)].set 1 (.int v)) := (ce2 hk).trans (by simp [sf, va_up, upd])
theorem pt_X2_20 (hx : p.tables.exec = Jvm.exec) (hb : c.code = cc) (hts : ∀ x ∈ TB, x.before args s = true) (hown : s.vm.findClass RX2 = some m.cls) (hK : KN D w s) (hP : va_P D vwCl (WL w σ) H) (hJ : Inj w) (hS : va_S (AL w) H0 H locs) {i : Nat} (hi : i < 184) (hk : kd i = 2) {v : Int32} {σ' : Sg} (hg : some (sf σ i 1 v) = some σ') (hdg : decode cc pc = .ok (.putfield 20, 3)) (kk : ∀ (H : Heap) (locs : List Loc), va_P D vwCl (WL w σ') H → va_S (AL w) H0 H locs → W p l e R s m args below meth c H locs cells slots Q (F0 m (pc + 3) ls rest)) : W p l e R s m args below meth c H locs cells slots Q (F0 m pc ls (.int v :: .ref (w.1 (i)) :: rest)) := by
  cases hg
  exact q_put hx hb hts inT2 tyX2 tyX2_ok nmX2 hown hK hP hJ hS hi (ce2 hk) rfl 1 (by decide) rfl tw_168 rfl rfl rfl (Nat.le_of_ble_eq_true rfl) (fun j hj => sf_ne hj) (sfe_2_1 hk) hdg kk
theorem gt_X3_9 (hx : p.tables.exec = Jvm.exec) (hb : c.code = cc) (hts : ∀ x ∈ TB, x.before args s = true) (hown : s.vm.findClass RX3 = some m.cls) (hK : KN D w s) (hP : va_P D vwCl (WL w σ) H) {i : Nat} (hi : i < 184) (hk : kd i = 3) (hdg : decode cc pc = .ok (.getfield 9, 3)) (kk : W p l e R s m args below meth c H locs cells slots Q (F0 m (pc + 3) ls (.int (σ i 0) :: rest))) : W p l e R s m args below meth c H locs cells slots Q (F0 m pc ls (.ref (w.1 (i)) :: rest)) := q_get hx hb hts inT3 hown hK hP hi (ce3 hk) rfl 0 (by decide) rfl tw_95 rfl hdg kk
theorem sfe_3_0 {v : Int32} {i : Nat} (hk : kd i = 3) : ce w (sf σ i 0 v) i = .inr (3, [.int (σ i 0), .ref (w.1 (i + 1)), .ref (w.1 (i + 3))].set 0 (.int v)) := (ce3 hk).trans (by simp [sf, va_up, upd])
theorem pt_X3_9 (hx : p.tables.exec = Jvm.exec) (hb : c.code = cc) (hts : ∀ x ∈ TB, x.before args s = true) (hown : s.vm.findClass RX3 = some m.cls) (hK : KN D w s) (hP : va_P D vwCl (WL w σ) H) (hJ : Inj w) (hS : va_S (AL w) H0 H locs) {i : Nat} (hi : i < 184) (hk : kd i = 3) {v : Int32} {σ' : Sg} (hg : some (sf σ i 0 v) = some σ') (hdg : decode cc pc = .ok (.putfield 9, 3)) (kk : ∀ (H : Heap) (locs : List Loc), va_P D vwCl (WL w σ') H → va_S (AL w) H0 H locs → W p l e R s m args below meth c H locs cells slots Q (F0 m (pc + 3) ls rest)) : W p l e R s m args below meth c H locs cells slots Q (F0 m pc ls (.int v :: .ref (w.1 (i)) :: rest)) := by
  cases hg
  exact q_put hx hb hts inT3 tyX3 tyX3_ok nmX3 hown hK hP hJ hS hi (ce3 hk) rfl 0 (by decide) rfl tw_95 rfl rfl rfl (Nat.le_of_ble_eq_true rfl) (fun j hj => sf_ne hj) (sfe_3_0 hk) hdg kk
theorem gt_X3_20 (hx : p.tables.exec = Jvm.exec) (hb : c.code = cc) (hts : ∀ x ∈ TB, x.before args s = true) (hown : s.vm.findClass RX3 = some m.cls) (hK : KN D w s) (hP : va_P D vwCl (WL w σ) H) {i : Nat} (hi : i < 184) (hk : kd i = 3) (hdg : decode cc pc = .ok (.getfield 20, 3)) (kk : W p l e R s m args below meth c H locs cells slots Q (F0 m (pc + 3) ls (.ref (w.1 (i + 1)) :: rest))) : W p l e R s m args below meth c H locs cells slots Q (F0 m pc ls (.ref (w.1 (i)) :: rest)) := q_get hx hb hts inT3 hown hK hP hi (ce3 hk) rfl 1 (by decide) rfl tw_96 rfl hdg kk
theorem gt_X3_24 (hx : p.tables.exec = Jvm.exec) (hb : c.code = cc) (hts : ∀ x ∈ TB, x.before args s = true) (hown : s.vm.findClass RX3 = some m.cls) (hK : KN D w s) (hP : va_P D vwCl (WL w σ) H) {i : Nat} (hi : i < 184) (hk : kd i = 3) (hdg : decode cc pc = .ok (.getfield 24, 3)) (kk : W p l e R s m args below meth c H locs cells slots Q (F0 m (pc + 3) ls (.ref (w.1 (i + 3)) :: rest))) : W p l e R s m args below meth c H locs cells slots Q (F0 m pc ls (.ref (w.1 (i)) :: rest)) := q_get hx hb hts inT3 hown hK hP hi (ce3 hk) rfl 2 (by decide) rfl tw_97 rfl hdg kk
theorem gt_X4_20 (hx : p.tables.exec = Jvm.exec) (hb : c.code = cc) (hts : ∀ x ∈ TB, x.before args s = true) (hown : s.vm.findClass RX4 = some m.cls) (hK : KN D w s) (hP : va_P D vwCl (WL w σ) H) {i : Nat} (hi : i < 184) (hk : kd i = 4) (hdg : decode cc pc = .ok (.getfield 20, 3)) (kk : W p l e R s m args below meth c H locs cells slots Q (F0 m (pc + 3) ls (.ref (w.1 (i + 1)) :: rest))) : W p l e R s m args below meth c H locs cells slots Q (F0 m pc ls (.ref (w.1 (i)) :: rest)) := q_get hx hb hts inT4 hown hK hP hi (ce4 hk) rfl 0 (by decide) rfl tw_149 rfl hdg kk
theorem gt_X4_27 (hx : p.tables.exec = Jvm.exec) (hb : c.code = cc) (hts : ∀ x ∈ TB, x.before args s = true) (hown : s.vm.findClass RX4 = some m.cls) (hK : KN D w s) (hP : va_P D vwCl (WL w σ) H) {i : Nat} (hi : i < 184) (hk : kd i = 4) (hdg : decode cc pc = .ok (.getfield 27, 3)) (kk : W p l e R s m args below meth c H locs cells slots Q (F0 m (pc + 3) ls (.int (σ i 1) :: rest))) : W p l e R s m args below meth c H locs cells slots Q (F0 m pc ls (.ref (w.1 (i)) :: rest)) := q_get hx hb hts inT4 hown hK hP hi (ce4 hk) rfl 1 (by decide) rfl tw_150 rfl hdg kk
theorem sfe_4_1 {v : Int32} {i : Nat} (hk : kd i = 4) : ce w (sf σ i 1 v) i = .inr (4, [.ref (w.1 (i + 1)), .int (σ i 1), .int (σ i 2)].set 1 (.int v)) := (ce4 hk).trans (by simp [sf, va_up, upd])
theorem pt_X4_27 (hx : p.tables.exec = Jvm.exec) (hb : c.code = cc) (hts : ∀ x ∈ TB, x.before args s = true) (hown : s.vm.findClass RX4 = some m.cls) (hK : KN D w s) (hP : va_P D vwCl (WL w σ) H) (hJ : Inj w) (hS : va_S (AL w) H0 H locs) {i : Nat} (hi : i < 184) (hk : kd i = 4) {v : Int32} {σ' : Sg} (hg : some (sf σ i 1 v) = some σ') (hdg : decode cc pc = .ok (.putfield 27, 3)) (kk : ∀ (H : Heap) (locs : List Loc), va_P D vwCl (WL w σ') H → va_S (AL w) H0 H locs → W p l e R s m args below meth c H locs cells slots Q (F0 m (pc + 3) ls rest)) : W p l e R s m args below meth c H locs cells slots Q (F0 m pc ls (.int v :: .ref (w.1 (i)) :: rest)) := by
  cases hg
  exact q_put hx hb hts inT4 tyX4 tyX4_ok nmX4 hown hK hP hJ hS hi (ce4 hk) rfl 1 (by decide) rfl tw_150 rfl rfl rfl (Nat.le_of_ble_eq_true rfl) (fun j hj => sf_ne hj) (sfe_4_1 hk) hdg kk
theorem gt_X4_31 (hx : p.tables.exec = Jvm.exec) (hb : c.code = cc) (hts : ∀ x ∈ TB, x.before args s = true) (hown : s.vm.findClass RX4 = some m.cls) (hK : KN D w s) (hP : va_P D vwCl (WL w σ) H) {i : Nat} (hi : i < 184) (hk : kd i = 4) (hdg : decode cc pc = .ok (.getfield 31, 3)) (kk : W p l e R s m args below meth c H locs cells slots Q (F0 m (pc + 3) ls (.int (σ i 2) :: rest))) : W p l e R s m args below meth c H locs cells slots Q (F0 m pc ls (.ref (w.1 (i)) :: rest)) := q_get hx hb hts inT4 hown hK hP hi (ce4 hk) rfl 2 (by decide) rfl tw_151 rfl hdg kk
theorem sfe_4_2 {v : Int32} {i : Nat} (hk : kd i = 4) : ce w (sf σ i 2 v) i = .inr (4, [.ref (w.1 (i + 1)), .int (σ i 1), .int (σ i 2)].set 2 (.int v)) := (ce4 hk).trans (by simp [sf, va_up, upd])
theorem pt_X4_31 (hx : p.tables.exec = Jvm.exec) (hb : c.code = cc) (hts : ∀ x ∈ TB, x.before args s = true) (hown : s.vm.findClass RX4 = some m.cls) (hK : KN D w s) (hP : va_P D vwCl (WL w σ) H) (hJ : Inj w) (hS : va_S (AL w) H0 H locs) {i : Nat} (hi : i < 184) (hk : kd i = 4) {v : Int32} {σ' : Sg} (hg : some (sf σ i 2 v) = some σ') (hdg : decode cc pc = .ok (.putfield 31, 3)) (kk : ∀ (H : Heap) (locs : List Loc), va_P D vwCl (WL w σ') H → va_S (AL w) H0 H locs → W p l e R s m args below meth c H locs cells slots Q (F0 m (pc + 3) ls rest)) : W p l e R s m args below meth c H locs cells slots Q (F0 m pc ls (.int v :: .ref (w.1 (i)) :: rest)) := by
  cases hg
  exact q_put hx hb hts inT4 tyX4 tyX4_ok nmX4 hown hK hP hJ hS hi (ce4 hk) rfl 2 (by decide) rfl tw_151 rfl rfl rfl (Nat.le_of_ble_eq_true rfl) (fun j hj => sf_ne hj) (sfe_4_2 hk) hdg kk
theorem gt_X5_12 (hx : p.tables.exec = Jvm.exec) (hb : c.code = cc) (hts : ∀ x ∈ TB, x.before args s = true) (hown : s.vm.findClass RX5 = some m.cls) (hK : KN D w s) (hP : va_P D vwCl (WL w σ) H) {i : Nat} (hi : i < 184) (hk : kd i = 5) (hdg : decode cc pc = .ok (.getfield 12, 3)) (kk : W p l e R s m args below meth c H locs cells slots Q (F0 m (pc + 3) ls (.ref (w.1 (i + 1)) :: rest))) : W p l e R s m args below meth c H locs cells slots Q (F0 m pc ls (.ref (w.1 (i)) :: rest)) := q_get hx hb hts inT5 hown hK hP hi (ce5 hk) rfl 0 (by decide) rfl tw_107 rfl hdg kk
theorem gt_X5_23 (hx : p.tables.exec = Jvm.exec) (hb : c.code = cc) (hts : ∀ x ∈ TB, x.before args s = true) (hown : s.vm.findClass RX5 = some m.cls) (hK : KN D w s) (hP : va_P D vwCl (WL w σ) H) {i : Nat} (hi : i < 184) (hk : kd i = 5) (hdg : decode cc pc = .ok (.getfield 23, 3)) (kk : W p l e R s m args below meth c H locs cells slots Q (F0 m (pc + 3) ls (.ref (w.1 (i + 6)) :: rest))) : W p l e R s m args below meth c H locs cells slots Q (F0 m pc ls (.ref (w.1 (i)) :: rest)) := q_get hx hb hts inT5 hown hK hP hi (ce5 hk) rfl 1 (by decide) rfl tw_108 rfl hdg kk
theorem gt_X5_27 (hx : p.tables.exec = Jvm.exec) (hb : c.code = cc) (hts : ∀ x ∈ TB, x.before args s = true) (hown : s.vm.findClass RX5 = some m.cls) (hK : KN D w s) (hP : va_P D vwCl (WL w σ) H) {i : Nat} (hi : i < 184) (hk : kd i = 5) (hdg : decode cc pc = .ok (.getfield 27, 3)) (kk : W p l e R s m args below meth c H locs cells slots Q (F0 m (pc + 3) ls (.ref (w.1 (i + 8)) :: rest))) : W p l e R s m args below meth c H locs cells slots Q (F0 m pc ls (.ref (w.1 (i)) :: rest)) := q_get hx hb hts inT5 hown hK hP hi (ce5 hk) rfl 2 (by decide) rfl tw_109 rfl hdg kk
theorem gt_X5_30 (hx : p.tables.exec = Jvm.exec) (hb : c.code = cc) (hts : ∀ x ∈ TB, x.before args s = true) (hown : s.vm.findClass RX5 = some m.cls) (hK : KN D w s) (hP : va_P D vwCl (WL w σ) H) {i : Nat} (hi : i < 184) (hk : kd i = 5) (hdg : decode cc pc = .ok (.getfield 30, 3)) (kk : W p l e R s m args below meth c H locs cells slots Q (F0 m (pc + 3) ls (.ref (w.1 (i + 10)) :: rest))) : W p l e R s m args below meth c H locs cells slots Q (F0 m pc ls (.ref (w.1 (i)) :: rest)) := q_get hx hb hts inT5 hown hK hP hi (ce5 hk) rfl 3 (by decide) rfl tw_110 rfl hdg kk
theorem gt_X5_33 (hx : p.tables.exec = Jvm.exec) (hb : c.code = cc) (hts : ∀ x ∈ TB, x.before args s = true) (hown : s.vm.findClass RX5 = some m.cls) (hK : KN D w s) (hP : va_P D vwCl (WL w σ) H) {i : Nat} (hi : i < 184) (hk : kd i = 5) (hdg : decode cc pc = .ok (.getfield 33, 3)) (kk : W p l e R s m args below meth c H locs cells slots Q (F0 m (pc + 3) ls (.ref (w.1 (i + 12)) :: rest))) : W p l e R s m args below meth c H locs cells slots Q (F0 m pc ls (.ref (w.1 (i)) :: rest)) := q_get hx hb hts inT5 hown hK hP hi (ce5 hk) rfl 4 (by decide) rfl tw_111 rfl hdg kk
theorem gt_X5_43 (hx : p.tables.exec = Jvm.exec) (hb : c.code = cc) (hts : ∀ x ∈ TB, x.before args s = true) (hown : s.vm.findClass RX5 = some m.cls) (hK : KN D w s) (hP : va_P D vwCl (WL w σ) H) {i : Nat} (hi : i < 184) (hk : kd i = 5) (hdg : decode cc pc = .ok (.getfield 43, 3)) (kk : W p l e R s m args below meth c H locs cells slots Q (F0 m (pc + 3) ls (.int (σ i 5) :: rest))) : W p l e R s m args below meth c H locs cells slots Q (F0 m pc ls (.ref (w.1 (i)) :: rest)) := q_get hx hb hts inT5 hown hK hP hi (ce5 hk) rfl 5 (by decide) rfl tw_112 rfl hdg kk
theorem sfe_5_5 {v : Int32} {i : Nat} (hk : kd i = 5) : ce w (sf σ i 5 v) i = .inr (5, [.ref (w.1 (i + 1)), .ref (w.1 (i + 6)), .ref (w.1 (i + 8)), .ref (w.1 (i + 10)), .ref (w.1 (i + 12)), .int (σ i 5), .int (σ i 6), .int (σ i 7), .int (σ i 8), .int (σ i 9)].set 5 (.int v)) := (ce5 hk).trans (by simp [sf, va_up, upd])
theorem pt_X5_43 (hx : p.tables.exec = Jvm.exec) (hb : c.code = cc) (hts : ∀ x ∈ TB, x.before args s = true) (hown : s.vm.findClass RX5 = some m.cls) (hK : KN D w s) (hP : va_P D vwCl (WL w σ) H) (hJ : Inj w) (hS : va_S (AL w) H0 H locs) {i : Nat} (hi : i < 184) (hk : kd i = 5) {v : Int32} {σ' : Sg} (hg : some (sf σ i 5 v) = some σ') (hdg : decode cc pc = .ok (.putfield 43, 3)) (kk : ∀ (H : Heap) (locs : List Loc), va_P D vwCl (WL w σ') H → va_S (AL w) H0 H locs → W p l e R s m args below meth c H locs cells slots Q (F0 m (pc + 3) ls rest)) : W p l e R s m args below meth c H locs cells slots Q (F0 m pc ls (.int v :: .ref (w.1 (i)) :: rest)) := by
  cases hg
  exact q_put hx hb hts inT5 tyX5 tyX5_ok nmX5 hown hK hP hJ hS hi (ce5 hk) rfl 5 (by decide) rfl tw_112 rfl rfl rfl (Nat.le_of_ble_eq_true rfl) (fun j hj => sf_ne hj) (sfe_5_5 hk) hdg kk
theorem gt_X5_47 (hx : p.tables.exec = Jvm.exec) (hb : c.code = cc) (hts : ∀ x ∈ TB, x.before args s = true) (hown : s.vm.findClass RX5 = some m.cls) (hK : KN D w s) (hP : va_P D vwCl (WL w σ) H) {i : Nat} (hi : i < 184) (hk : kd i = 5) (hdg : decode cc pc = .ok (.getfield 47, 3)) (kk : W p l e R s m args below meth c H locs cells slots Q (F0 m (pc + 3) ls (.int (σ i 6) :: rest))) : W p l e R s m args below meth c H locs cells slots Q (F0 m pc ls (.ref (w.1 (i)) :: rest)) := q_get hx hb hts inT5 hown hK hP hi (ce5 hk) rfl 6 (by decide) rfl tw_113 rfl hdg kk
theorem sfe_5_6 {v : Int32} {i : Nat} (hk : kd i = 5) : ce w (sf σ i 6 v) i = .inr (5, [.ref (w.1 (i + 1)), .ref (w.1 (i + 6)), .ref (w.1 (i + 8)), .ref (w.1 (i + 10)), .ref (w.1 (i + 12)), .int (σ i 5), .int (σ i 6), .int (σ i 7), .int (σ i 8), .int (σ i 9)].set 6 (.int v)) := (ce5 hk).trans (by simp [sf, va_up, upd])
theorem pt_X5_47 (hx : p.tables.exec = Jvm.exec) (hb : c.code = cc) (hts : ∀ x ∈ TB, x.before args s = true) (hown : s.vm.findClass RX5 = some m.cls) (hK : KN D w s) (hP : va_P D vwCl (WL w σ) H) (hJ : Inj w) (hS : va_S (AL w) H0 H locs) {i : Nat} (hi : i < 184) (hk : kd i = 5) {v : Int32} {σ' : Sg} (hg : some (sf σ i 6 v) = some σ') (hdg : decode cc pc = .ok (.putfield 47, 3)) (kk : ∀ (H : Heap) (locs : List Loc), va_P D vwCl (WL w σ') H → va_S (AL w) H0 H locs → W p l e R s m args below meth c H locs cells slots Q (F0 m (pc + 3) ls rest)) : W p l e R s m args below meth c H locs cells slots Q (F0 m pc ls (.int v :: .ref (w.1 (i)) :: rest)) := by
  cases hg
  exact q_put hx hb hts inT5 tyX5 tyX5_ok nmX5 hown hK hP hJ hS hi (ce5 hk) rfl 6 (by decide) rfl tw_113 rfl rfl rfl (Nat.le_of_ble_eq_true rfl) (fun j hj => sf_ne hj) (sfe_5_6 hk) hdg kk
theorem gt_X5_50 (hx : p.tables.exec = Jvm.exec) (hb : c.code = cc) (hts : ∀ x ∈ TB, x.before args s = true) (hown : s.vm.findClass RX5 = some m.cls) (hK : KN D w s) (hP : va_P D vwCl (WL w σ) H) {i : Nat} (hi : i < 184) (hk : kd i = 5) (hdg : decode cc pc = .ok (.getfield 50, 3)) (kk : W p l e R s m args below meth c H locs cells slots Q (F0 m (pc + 3) ls (.int (σ i 7) :: rest))) : W p l e R s m args below meth c H locs cells slots Q (F0 m pc ls (.ref (w.1 (i)) :: rest)) := q_get hx hb hts inT5 hown hK hP hi (ce5 hk) rfl 7 (by decide) rfl tw_114 rfl hdg kk
theorem sfe_5_7 {v : Int32} {i : Nat} (hk : kd i = 5) : ce w (sf σ i 7 v) i = .inr (5, [.ref (w.1 (i + 1)), .ref (w.1 (i + 6)), .ref (w.1 (i + 8)), .ref (w.1 (i + 10)), .ref (w.1 (i + 12)), .int (σ i 5), .int (σ i 6), .int (σ i 7), .int (σ i 8), .int (σ i 9)].set 7 (.int v)) := (ce5 hk).trans (by simp [sf, va_up, upd])
theorem pt_X5_50 (hx : p.tables.exec = Jvm.exec) (hb : c.code = cc) (hts : ∀ x ∈ TB, x.before args s = true) (hown : s.vm.findClass RX5 = some m.cls) (hK : KN D w s) (hP : va_P D vwCl (WL w σ) H) (hJ : Inj w) (hS : va_S (AL w) H0 H locs) {i : Nat} (hi : i < 184) (hk : kd i = 5) {v : Int32} {σ' : Sg} (hg : some (sf σ i 7 v) = some σ') (hdg : decode cc pc = .ok (.putfield 50, 3)) (kk : ∀ (H : Heap) (locs : List Loc), va_P D vwCl (WL w σ') H → va_S (AL w) H0 H locs → W p l e R s m args below meth c H locs cells slots Q (F0 m (pc + 3) ls rest)) : W p l e R s m args below meth c H locs cells slots Q (F0 m pc ls (.int v :: .ref (w.1 (i)) :: rest)) := by
  cases hg
  exact q_put hx hb hts inT5 tyX5 tyX5_ok nmX5 hown hK hP hJ hS hi (ce5 hk) rfl 7 (by decide) rfl tw_114 rfl rfl rfl (Nat.le_of_ble_eq_true rfl) (fun j hj => sf_ne hj) (sfe_5_7 hk) hdg kk
theorem gt_X5_53 (hx : p.tables.exec = Jvm.exec) (hb : c.code = cc) (hts : ∀ x ∈ TB, x.before args s = true) (hown : s.vm.findClass RX5 = some m.cls) (hK : KN D w s) (hP : va_P D vwCl (WL w σ) H) {i : Nat} (hi : i < 184) (hk : kd i = 5) (hdg : decode cc pc = .ok (.getfield 53, 3)) (kk : W p l e R s m args below meth c H locs cells slots Q (F0 m (pc + 3) ls (.int (σ i 8) :: rest))) : W p l e R s m args below meth c H locs cells slots Q (F0 m pc ls (.ref (w.1 (i)) :: rest)) := q_get hx hb hts inT5 hown hK hP hi (ce5 hk) rfl 8 (by decide) rfl tw_115 rfl hdg kk
theorem sfe_5_8 {v : Int32} {i : Nat} (hk : kd i = 5) : ce w (sf σ i 8 v) i = .inr (5, [.ref (w.1 (i + 1)), .ref (w.1 (i + 6)), .ref (w.1 (i + 8)), .ref (w.1 (i + 10)), .ref (w.1 (i + 12)), .int (σ i 5), .int (σ i 6), .int (σ i 7), .int (σ i 8), .int (σ i 9)].set 8 (.int v)) := (ce5 hk).trans (by simp [sf, va_up, upd])
theorem pt_X5_53 (hx : p.tables.exec = Jvm.exec) (hb : c.code = cc) (hts : ∀ x ∈ TB, x.before args s = true) (hown : s.vm.findClass RX5 = some m.cls) (hK : KN D w s) (hP : va_P D vwCl (WL w σ) H) (hJ : Inj w) (hS : va_S (AL w) H0 H locs) {i : Nat} (hi : i < 184) (hk : kd i = 5) {v : Int32} {σ' : Sg} (hg : some (sf σ i 8 v) = some σ') (hdg : decode cc pc = .ok (.putfield 53, 3)) (kk : ∀ (H : Heap) (locs : List Loc), va_P D vwCl (WL w σ') H → va_S (AL w) H0 H locs → W p l e R s m args below meth c H locs cells slots Q (F0 m (pc + 3) ls rest)) : W p l e R s m args below meth c H locs cells slots Q (F0 m pc ls (.int v :: .ref (w.1 (i)) :: rest)) := by
  cases hg
  exact q_put hx hb hts inT5 tyX5 tyX5_ok nmX5 hown hK hP hJ hS hi (ce5 hk) rfl 8 (by decide) rfl tw_115 rfl rfl rfl (Nat.le_of_ble_eq_true rfl) (fun j hj => sf_ne hj) (sfe_5_8 hk) hdg kk
theorem gt_X5_56 (hx : p.tables.exec = Jvm.exec) (hb : c.code = cc) (hts : ∀ x ∈ TB, x.before args s = true) (hown : s.vm.findClass RX5 = some m.cls) (hK : KN D w s) (hP : va_P D vwCl (WL w σ) H) {i : Nat} (hi : i < 184) (hk : kd i = 5) (hdg : decode cc pc = .ok (.getfield 56, 3)) (kk : W p l e R s m args below meth c H locs cells slots Q (F0 m (pc + 3) ls (.int (σ i 9) :: rest))) : W p l e R s m args below meth c H locs cells slots Q (F0 m pc ls (.ref (w.1 (i)) :: rest)) := q_get hx hb hts inT5 hown hK hP hi (ce5 hk) rfl 9 (by decide) rfl tw_116 rfl hdg kk
theorem sfe_5_9 {v : Int32} {i : Nat} (hk : kd i = 5) : ce w (sf σ i 9 v) i = .inr (5, [.ref (w.1 (i + 1)), .ref (w.1 (i + 6)), .ref (w.1 (i + 8)), .ref (w.1 (i + 10)), .ref (w.1 (i + 12)), .int (σ i 5), .int (σ i 6), .int (σ i 7), .int (σ i 8), .int (σ i 9)].set 9 (.int v)) := (ce5 hk).trans (by simp [sf, va_up, upd])
theorem pt_X5_56 (hx : p.tables.exec = Jvm.exec) (hb : c.code = cc) (hts : ∀ x ∈ TB, x.before args s = true) (hown : s.vm.findClass RX5 = some m.cls) (hK : KN D w s) (hP : va_P D vwCl (WL w σ) H) (hJ : Inj w) (hS : va_S (AL w) H0 H locs) {i : Nat} (hi : i < 184) (hk : kd i = 5) {v : Int32} {σ' : Sg} (hg : some (sf σ i 9 v) = some σ') (hdg : decode cc pc = .ok (.putfield 56, 3)) (kk : ∀ (H : Heap) (locs : List Loc), va_P D vwCl (WL w σ') H → va_S (AL w) H0 H locs → W p l e R s m args below meth c H locs cells slots Q (F0 m (pc + 3) ls rest)) : W p l e R s m args below meth c H locs cells slots Q (F0 m pc ls (.int v :: .ref (w.1 (i)) :: rest)) := by
  cases hg
  exact q_put hx hb hts inT5 tyX5 tyX5_ok nmX5 hown hK hP hJ hS hi (ce5 hk) rfl 9 (by decide) rfl tw_116 rfl rfl rfl (Nat.le_of_ble_eq_true rfl) (fun j hj => sf_ne hj) (sfe_5_9 hk) hdg kk
end GP
theorem hw_L_101 : Cond.methodLink RL 101 yX6_stood ∈ TB ∧ Cond.instanceMethod yX6_stood ∈ TB ∧ Cond.selects RX6 yX6_stood yX6_stood ∈ TB ∧ Cond.initialized RX6 ∈ TB ∧ Cond.code yX6_stood cX6_stood 3 (some .int) ∈ TB := ⟨tw_760, tw_761, tw_762, tw_20, tw_763⟩
theorem hw_L_104 : Cond.methodLink RL 104 yX6_lost ∈ TB ∧ Cond.instanceMethod yX6_lost ∈ TB ∧ Cond.selects RX6 yX6_lost yX6_lost ∈ TB ∧ Cond.initialized RX6 ∈ TB ∧ Cond.code yX6_lost cX6_lost 3 (some .int) ∈ TB := ⟨tw_489, tw_490, tw_491, tw_20, tw_492⟩
theorem hw_L_107 : Cond.methodLink RL 107 yX6_next ∈ TB ∧ Cond.instanceMethod yX6_next ∈ TB ∧ Cond.selects RX6 yX6_next yX6_next ∈ TB ∧ Cond.initialized RX6 ∈ TB ∧ Cond.code yX6_next cX6_next 6 (some .int) ∈ TB := ⟨tw_769, tw_770, tw_771, tw_20, tw_772⟩
theorem hw_L_15 : Cond.methodLink RL 15 yX6_road ∈ TB ∧ Cond.instanceMethod yX6_road ∈ TB ∧ Cond.selects RX6 yX6_road yX6_road ∈ TB ∧ Cond.initialized RX6 ∈ TB ∧ Cond.code yX6_road cX6_road 4 (some .int) ∈ TB := ⟨tw_554, tw_555, tw_556, tw_20, tw_557⟩
theorem hw_L_19 : Cond.methodLink RL 19 yX6_post ∈ TB ∧ Cond.instanceMethod yX6_post ∈ TB ∧ Cond.selects RX6 yX6_post yX6_post ∈ TB ∧ Cond.initialized RX6 ∈ TB ∧ Cond.code yX6_post cX6_post 3 (some .int) ∈ TB := ⟨tw_558, tw_559, tw_560, tw_20, tw_561⟩
theorem hw_L_22 : Cond.methodLink RL 22 yX6_arm ∈ TB ∧ Cond.instanceMethod yX6_arm ∈ TB ∧ Cond.selects RX6 yX6_arm yX6_arm ∈ TB ∧ Cond.initialized RX6 ∈ TB ∧ Cond.code yX6_arm cX6_arm 4 (some .int) ∈ TB := ⟨tw_570, tw_571, tw_572, tw_20, tw_573⟩
theorem hw_L_26 : Cond.methodLink RL 26 yX6_walker ∈ TB ∧ Cond.instanceMethod yX6_walker ∈ TB ∧ Cond.selects RX6 yX6_walker yX6_walker ∈ TB ∧ Cond.initialized RX6 ∈ TB ∧ Cond.code yX6_walker cX6_walker 3 (some .int) ∈ TB := ⟨tw_583, tw_584, tw_585, tw_20, tw_586⟩
theorem hw_L_29 : Cond.methodLink RL 29 yX6_pass ∈ TB ∧ Cond.instanceMethod yX6_pass ∈ TB ∧ Cond.selects RX6 yX6_pass yX6_pass ∈ TB ∧ Cond.initialized RX6 ∈ TB ∧ Cond.code yX6_pass cX6_pass 2 (some .int) ∈ TB := ⟨tw_359, tw_360, tw_361, tw_20, tw_362⟩
theorem hw_L_32 : Cond.methodLink RL 32 yX6_lays ∈ TB ∧ Cond.instanceMethod yX6_lays ∈ TB ∧ Cond.selects RX6 yX6_lays yX6_lays ∈ TB ∧ Cond.initialized RX6 ∈ TB ∧ Cond.code yX6_lays cX6_lays 5 (some .int) ∈ TB := ⟨tw_438, tw_439, tw_440, tw_20, tw_441⟩
theorem hw_L_35 : Cond.methodLink RL 35 yX6_paint ∈ TB ∧ Cond.instanceMethod yX6_paint ∈ TB ∧ Cond.selects RX6 yX6_paint yX6_paint ∈ TB ∧ Cond.initialized RX6 ∈ TB ∧ Cond.code yX6_paint cX6_paint 2 (some .int) ∈ TB := ⟨tw_454, tw_455, tw_456, tw_20, tw_457⟩
theorem hw_L_38 : Cond.methodLink RL 38 yX6_move ∈ TB ∧ Cond.instanceMethod yX6_move ∈ TB ∧ Cond.selects RX6 yX6_move yX6_move ∈ TB ∧ Cond.initialized RX6 ∈ TB ∧ Cond.code yX6_move cX6_move 4 (some .int) ∈ TB := ⟨tw_464, tw_465, tw_466, tw_20, tw_467⟩
theorem hw_L_41 : Cond.methodLink RL 41 yX6_retire ∈ TB ∧ Cond.instanceMethod yX6_retire ∈ TB ∧ Cond.selects RX6 yX6_retire yX6_retire ∈ TB ∧ Cond.initialized RX6 ∈ TB ∧ Cond.code yX6_retire cX6_retire 3 (some .int) ∈ TB := ⟨tw_599, tw_600, tw_601, tw_20, tw_602⟩
theorem hw_L_44 : Cond.methodLink RL 44 yX6_comes ∈ TB ∧ Cond.instanceMethod yX6_comes ∈ TB ∧ Cond.selects RX6 yX6_comes yX6_comes ∈ TB ∧ Cond.initialized RX6 ∈ TB ∧ Cond.code yX6_comes cX6_comes 3 (some .int) ∈ TB := ⟨tw_604, tw_605, tw_606, tw_20, tw_607⟩
theorem hw_L_47 : Cond.methodLink RL 47 yX6_trail ∈ TB ∧ Cond.instanceMethod yX6_trail ∈ TB ∧ Cond.selects RX6 yX6_trail yX6_trail ∈ TB ∧ Cond.initialized RX6 ∈ TB ∧ Cond.code yX6_trail cX6_trail 3 (some .int) ∈ TB := ⟨tw_608, tw_609, tw_610, tw_20, tw_611⟩
theorem hw_L_50 : Cond.methodLink RL 50 yX6_helps ∈ TB ∧ Cond.instanceMethod yX6_helps ∈ TB ∧ Cond.selects RX6 yX6_helps yX6_helps ∈ TB ∧ Cond.initialized RX6 ∈ TB ∧ Cond.code yX6_helps cX6_helps 6 (some .int) ∈ TB := ⟨tw_612, tw_613, tw_614, tw_20, tw_615⟩
theorem hw_L_53 : Cond.methodLink RL 53 yX6_paints ∈ TB ∧ Cond.instanceMethod yX6_paints ∈ TB ∧ Cond.selects RX6 yX6_paints yX6_paints ∈ TB ∧ Cond.initialized RX6 ∈ TB ∧ Cond.code yX6_paints cX6_paints 8 (some .int) ∈ TB := ⟨tw_625, tw_626, tw_627, tw_20, tw_628⟩
theorem hw_L_56 : Cond.methodLink RL 56 yX6_cover ∈ TB ∧ Cond.instanceMethod yX6_cover ∈ TB ∧ Cond.selects RX6 yX6_cover yX6_cover ∈ TB ∧ Cond.initialized RX6 ∈ TB ∧ Cond.code yX6_cover cX6_cover 6 (some .int) ∈ TB := ⟨tw_644, tw_645, tw_646, tw_20, tw_647⟩
theorem hw_L_59 : Cond.methodLink RL 59 yX6_far ∈ TB ∧ Cond.instanceMethod yX6_far ∈ TB ∧ Cond.selects RX6 yX6_far yX6_far ∈ TB ∧ Cond.initialized RX6 ∈ TB ∧ Cond.code yX6_far cX6_far 3 (some .int) ∈ TB := ⟨tw_656, tw_657, tw_658, tw_20, tw_659⟩
theorem hw_L_62 : Cond.methodLink RL 62 yX6_told ∈ TB ∧ Cond.instanceMethod yX6_told ∈ TB ∧ Cond.selects RX6 yX6_told yX6_told ∈ TB ∧ Cond.initialized RX6 ∈ TB ∧ Cond.code yX6_told cX6_told 4 (some .int) ∈ TB := ⟨tw_661, tw_662, tw_663, tw_20, tw_664⟩
theorem hw_L_65 : Cond.methodLink RL 65 yX6_seen ∈ TB ∧ Cond.instanceMethod yX6_seen ∈ TB ∧ Cond.selects RX6 yX6_seen yX6_seen ∈ TB ∧ Cond.initialized RX6 ∈ TB ∧ Cond.code yX6_seen cX6_seen 4 (some .int) ∈ TB := ⟨tw_670, tw_671, tw_672, tw_20, tw_673⟩
theorem hw_L_68 : Cond.methodLink RL 68 yX6_kinds ∈ TB ∧ Cond.instanceMethod yX6_kinds ∈ TB ∧ Cond.selects RX6 yX6_kinds yX6_kinds ∈ TB ∧ Cond.initialized RX6 ∈ TB ∧ Cond.code yX6_kinds cX6_kinds 4 (some .int) ∈ TB := ⟨tw_674, tw_675, tw_676, tw_20, tw_677⟩
theorem hw_L_71 : Cond.methodLink RL 71 yX6_likely ∈ TB ∧ Cond.instanceMethod yX6_likely ∈ TB ∧ Cond.selects RX6 yX6_likely yX6_likely ∈ TB ∧ Cond.initialized RX6 ∈ TB ∧ Cond.code yX6_likely cX6_likely 9 (some .int) ∈ TB := ⟨tw_691, tw_692, tw_693, tw_20, tw_694⟩
theorem hw_L_74 : Cond.methodLink RL 74 yX6_century ∈ TB ∧ Cond.instanceMethod yX6_century ∈ TB ∧ Cond.selects RX6 yX6_century yX6_century ∈ TB ∧ Cond.initialized RX6 ∈ TB ∧ Cond.code yX6_century cX6_century 5 (some .int) ∈ TB := ⟨tw_710, tw_711, tw_712, tw_20, tw_713⟩
theorem hw_L_77 : Cond.methodLink RL 77 yX6_count ∈ TB ∧ Cond.instanceMethod yX6_count ∈ TB ∧ Cond.selects RX6 yX6_count yX6_count ∈ TB ∧ Cond.initialized RX6 ∈ TB ∧ Cond.code yX6_count cX6_count 2 (some .int) ∈ TB := ⟨tw_502, tw_503, tw_504, tw_20, tw_505⟩
theorem hw_L_80 : Cond.methodLink RL 80 yL_low ∈ TB ∧ Cond.static yL_low ∈ TB ∧ Cond.initialized yL_low.cls ∈ TB ∧ Cond.code yL_low cL_low 2 (some .int) ∈ TB := ⟨tw_543, tw_544, tw_19, tw_545⟩
theorem hw_L_85 : Cond.methodLink RL 85 yX6_year ∈ TB ∧ Cond.instanceMethod yX6_year ∈ TB ∧ Cond.selects RX6 yX6_year yX6_year ∈ TB ∧ Cond.initialized RX6 ∈ TB ∧ Cond.code yX6_year cX6_year 1 (some .int) ∈ TB := ⟨tw_422, tw_423, tw_424, tw_20, tw_425⟩
theorem hw_L_89 : Cond.methodLink RL 89 yX6_undo ∈ TB ∧ Cond.instanceMethod yX6_undo ∈ TB ∧ Cond.selects RX6 yX6_undo yX6_undo ∈ TB ∧ Cond.initialized RX6 ∈ TB ∧ Cond.code yX6_undo cX6_undo 1 (some .int) ∈ TB := ⟨tw_477, tw_478, tw_479, tw_20, tw_480⟩
theorem hw_L_9 : Cond.methodLink RL 9 yX6_write ∈ TB ∧ Cond.instanceMethod yX6_write ∈ TB ∧ Cond.selects RX6 yX6_write yX6_write ∈ TB ∧ Cond.initialized RX6 ∈ TB ∧ Cond.code yX6_write cX6_write 2 (some .int) ∈ TB := ⟨tw_550, tw_551, tw_552, tw_20, tw_553⟩
theorem hw_L_92 : Cond.methodLink RL 92 yX6_keep ∈ TB ∧ Cond.instanceMethod yX6_keep ∈ TB ∧ Cond.selects RX6 yX6_keep yX6_keep ∈ TB ∧ Cond.initialized RX6 ∈ TB ∧ Cond.code yX6_keep cX6_keep 1 (some .int) ∈ TB := ⟨tw_740, tw_741, tw_742, tw_20, tw_743⟩
theorem hw_L_95 : Cond.methodLink RL 95 yX6_back ∈ TB ∧ Cond.instanceMethod yX6_back ∈ TB ∧ Cond.selects RX6 yX6_back yX6_back ∈ TB ∧ Cond.initialized RX6 ∈ TB ∧ Cond.code yX6_back cX6_back 1 (some .int) ∈ TB := ⟨tw_744, tw_745, tw_746, tw_20, tw_747⟩
theorem hw_L_98 : Cond.methodLink RL 98 yX6_forget ∈ TB ∧ Cond.instanceMethod yX6_forget ∈ TB ∧ Cond.selects RX6 yX6_forget yX6_forget ∈ TB ∧ Cond.initialized RX6 ∈ TB ∧ Cond.code yX6_forget cX6_forget 1 (some .int) ∈ TB := ⟨tw_752, tw_753, tw_754, tw_20, tw_755⟩
theorem hw_X1_27 : Cond.methodLink RX1 27 yX0_put ∈ TB ∧ Cond.instanceMethod yX0_put ∈ TB ∧ Cond.selects RX0 yX0_put yX0_put ∈ TB ∧ Cond.initialized RX0 ∈ TB ∧ Cond.code yX0_put cX0_put 5 none ∈ TB := ⟨tw_227, tw_228, tw_229, tw_22, tw_230⟩
theorem hw_X1_31 : Cond.methodLink RX1 31 yX5_clear ∈ TB ∧ Cond.instanceMethod yX5_clear ∈ TB ∧ Cond.selects RX5 yX5_clear yX5_clear ∈ TB ∧ Cond.initialized RX5 ∈ TB ∧ Cond.code yX5_clear cX5_clear 1 none ∈ TB := ⟨tw_235, tw_236, tw_237, tw_24, tw_238⟩
theorem hw_X1_39 : Cond.methodLink RX1 39 yX1_readItem ∈ TB ∧ Cond.instanceMethod yX1_readItem ∈ TB ∧ Cond.selects RX1 yX1_readItem yX1_readItem ∈ TB ∧ Cond.initialized RX1 ∈ TB ∧ Cond.code yX1_readItem cX1_readItem 7 (some .boolean) ∈ TB := ⟨tw_249, tw_251, tw_0, tw_21, tw_252⟩
theorem hw_X1_43 : Cond.methodLink RX1 43 yX1_letterHere ∈ TB ∧ Cond.instanceMethod yX1_letterHere ∈ TB ∧ Cond.selects RX1 yX1_letterHere yX1_letterHere ∈ TB ∧ Cond.initialized RX1 ∈ TB ∧ Cond.code yX1_letterHere cX1_letterHere 1 (some .int) ∈ TB := ⟨tw_253, tw_255, tw_1, tw_21, tw_256⟩
theorem hw_X1_47 : Cond.methodLink RX1 47 yX1_numbersBehind ∈ TB ∧ Cond.static yX1_numbersBehind ∈ TB ∧ Cond.initialized yX1_numbersBehind.cls ∈ TB ∧ Cond.code yX1_numbersBehind cX1_numbersBehind 1 (some .int) ∈ TB := ⟨tw_261, tw_262, tw_21, tw_263⟩
theorem hw_X1_51 : Cond.methodLink RX1 51 yX1_readNumbers ∈ TB ∧ Cond.instanceMethod yX1_readNumbers ∈ TB ∧ Cond.selects RX1 yX1_readNumbers yX1_readNumbers ∈ TB ∧ Cond.initialized RX1 ∈ TB ∧ Cond.code yX1_readNumbers cX1_readNumbers 5 (some .boolean) ∈ TB := ⟨tw_264, tw_266, tw_2, tw_21, tw_267⟩
theorem hw_X1_55 : Cond.methodLink RX1 55 yX0_at ∈ TB ∧ Cond.instanceMethod yX0_at ∈ TB ∧ Cond.selects RX0 yX0_at yX0_at ∈ TB ∧ Cond.initialized RX0 ∈ TB ∧ Cond.code yX0_at cX0_at 5 (some .int) ∈ TB := ⟨tw_257, tw_258, tw_259, tw_22, tw_260⟩
theorem hw_X1_59 : Cond.methodLink RX1 59 yX5_tellTowns ∈ TB ∧ Cond.instanceMethod yX5_tellTowns ∈ TB ∧ Cond.selects RX5 yX5_tellTowns yX5_tellTowns ∈ TB ∧ Cond.initialized RX5 ∈ TB ∧ Cond.code yX5_tellTowns cX5_tellTowns 2 (some .boolean) ∈ TB := ⟨tw_272, tw_273, tw_274, tw_24, tw_275⟩
theorem hw_X1_62 : Cond.methodLink RX1 62 yX5_tellRoad ∈ TB ∧ Cond.instanceMethod yX5_tellRoad ∈ TB ∧ Cond.selects RX5 yX5_tellRoad yX5_tellRoad ∈ TB ∧ Cond.initialized RX5 ∈ TB ∧ Cond.code yX5_tellRoad cX5_tellRoad 4 (some .boolean) ∈ TB := ⟨tw_276, tw_277, tw_278, tw_24, tw_279⟩
theorem hw_X1_66 : Cond.methodLink RX1 66 yX5_tellPost ∈ TB ∧ Cond.instanceMethod yX5_tellPost ∈ TB ∧ Cond.selects RX5 yX5_tellPost yX5_tellPost ∈ TB ∧ Cond.initialized RX5 ∈ TB ∧ Cond.code yX5_tellPost cX5_tellPost 5 (some .boolean) ∈ TB := ⟨tw_297, tw_298, tw_299, tw_24, tw_300⟩
theorem hw_X1_69 : Cond.methodLink RX1 69 yX5_tellWalker ∈ TB ∧ Cond.instanceMethod yX5_tellWalker ∈ TB ∧ Cond.selects RX5 yX5_tellWalker yX5_tellWalker ∈ TB ∧ Cond.initialized RX5 ∈ TB ∧ Cond.code yX5_tellWalker cX5_tellWalker 3 (some .boolean) ∈ TB := ⟨tw_302, tw_303, tw_304, tw_24, tw_305⟩
theorem hw_X1_73 : Cond.methodLink RX1 73 yX1_readFigure ∈ TB ∧ Cond.instanceMethod yX1_readFigure ∈ TB ∧ Cond.selects RX1 yX1_readFigure yX1_readFigure ∈ TB ∧ Cond.initialized RX1 ∈ TB ∧ Cond.code yX1_readFigure cX1_readFigure 2 (some .int) ∈ TB := ⟨tw_268, tw_270, tw_3, tw_21, tw_271⟩
theorem hw_X2_24 : Cond.methodLink RX2 24 yX0_at ∈ TB ∧ Cond.instanceMethod yX0_at ∈ TB ∧ Cond.selects RX0 yX0_at yX0_at ∈ TB ∧ Cond.initialized RX0 ∈ TB ∧ Cond.code yX0_at cX0_at 5 (some .int) ∈ TB := ⟨tw_690, tw_258, tw_259, tw_22, tw_260⟩
theorem hw_X2_28 : Cond.methodLink RX2 28 yX0_put ∈ TB ∧ Cond.instanceMethod yX0_put ∈ TB ∧ Cond.selects RX0 yX0_put yX0_put ∈ TB ∧ Cond.initialized RX0 ∈ TB ∧ Cond.code yX0_put cX0_put 5 none ∈ TB := ⟨tw_669, tw_228, tw_229, tw_22, tw_230⟩
theorem hw_X3_27 : Cond.methodLink RX3 27 yX0_become ∈ TB ∧ Cond.instanceMethod yX0_become ∈ TB ∧ Cond.selects RX0 yX0_become yX0_become ∈ TB ∧ Cond.initialized RX0 ∈ TB ∧ Cond.code yX0_become cX0_become 2 none ∈ TB := ⟨tw_379, tw_380, tw_381, tw_22, tw_382⟩
theorem hw_X3_40 : Cond.methodLink RX3 40 yX0_fill ∈ TB ∧ Cond.instanceMethod yX0_fill ∈ TB ∧ Cond.selects RX0 yX0_fill yX0_fill ∈ TB ∧ Cond.initialized RX0 ∈ TB ∧ Cond.code yX0_fill cX0_fill 3 none ∈ TB := ⟨tw_245, tw_246, tw_247, tw_22, tw_248⟩
theorem hw_X3_44 : Cond.methodLink RX3 44 yX3_set ∈ TB ∧ Cond.instanceMethod yX3_set ∈ TB ∧ Cond.selects RX3 yX3_set yX3_set ∈ TB ∧ Cond.initialized RX3 ∈ TB ∧ Cond.code yX3_set cX3_set 4 none ∈ TB := ⟨tw_452, tw_293, tw_294, tw_25, tw_295⟩
theorem hw_X3_48 : Cond.methodLink RX3 48 yX3_survey ∈ TB ∧ Cond.instanceMethod yX3_survey ∈ TB ∧ Cond.selects RX3 yX3_survey yX3_survey ∈ TB ∧ Cond.initialized RX3 ∈ TB ∧ Cond.code yX3_survey cX3_survey 4 none ∈ TB := ⟨tw_453, tw_311, tw_312, tw_25, tw_313⟩
theorem hw_X3_51 : Cond.methodLink RX3 51 yX0_put ∈ TB ∧ Cond.instanceMethod yX0_put ∈ TB ∧ Cond.selects RX0 yX0_put yX0_put ∈ TB ∧ Cond.initialized RX0 ∈ TB ∧ Cond.code yX0_put cX0_put 5 none ∈ TB := ⟨tw_296, tw_228, tw_229, tw_22, tw_230⟩
theorem hw_X3_54 : Cond.methodLink RX3 54 yX0_at ∈ TB ∧ Cond.instanceMethod yX0_at ∈ TB ∧ Cond.selects RX0 yX0_at yX0_at ∈ TB ∧ Cond.initialized RX0 ∈ TB ∧ Cond.code yX0_at cX0_at 5 (some .int) ∈ TB := ⟨tw_314, tw_258, tw_259, tw_22, tw_260⟩
theorem hw_X3_57 : Cond.methodLink RX3 57 yX3_shorten ∈ TB ∧ Cond.instanceMethod yX3_shorten ∈ TB ∧ Cond.selects RX3 yX3_shorten yX3_shorten ∈ TB ∧ Cond.initialized RX3 ∈ TB ∧ Cond.code yX3_shorten cX3_shorten 7 none ∈ TB := ⟨tw_315, tw_317, tw_4, tw_25, tw_318⟩
theorem hw_X4_34 : Cond.methodLink RX4 34 yX5_become ∈ TB ∧ Cond.instanceMethod yX5_become ∈ TB ∧ Cond.selects RX5 yX5_become yX5_become ∈ TB ∧ Cond.initialized RX5 ∈ TB ∧ Cond.code yX5_become cX5_become 2 none ∈ TB := ⟨tw_371, tw_372, tw_373, tw_24, tw_374⟩
theorem hw_X5_102 : Cond.methodLink RX5 102 yX5_turnsOf ∈ TB ∧ Cond.instanceMethod yX5_turnsOf ∈ TB ∧ Cond.selects RX5 yX5_turnsOf yX5_turnsOf ∈ TB ∧ Cond.initialized RX5 ∈ TB ∧ Cond.code yX5_turnsOf cX5_turnsOf 3 (some .int) ∈ TB := ⟨tw_407, tw_409, tw_6, tw_24, tw_410⟩
theorem hw_X5_105 : Cond.methodLink RX5 105 yX3_turned ∈ TB ∧ Cond.instanceMethod yX3_turned ∈ TB ∧ Cond.selects RX3 yX3_turned yX3_turned ∈ TB ∧ Cond.initialized RX3 ∈ TB ∧ Cond.code yX3_turned cX3_turned 5 (some .int) ∈ TB := ⟨tw_414, tw_415, tw_416, tw_25, tw_417⟩
theorem hw_X5_108 : Cond.methodLink RX5 108 yX5_stepFrom ∈ TB ∧ Cond.instanceMethod yX5_stepFrom ∈ TB ∧ Cond.selects RX5 yX5_stepFrom yX5_stepFrom ∈ TB ∧ Cond.initialized RX5 ∈ TB ∧ Cond.code yX5_stepFrom cX5_stepFrom 5 (some .int) ∈ TB := ⟨tw_391, tw_393, tw_5, tw_24, tw_394⟩
theorem hw_X5_111 : Cond.methodLink RX5 111 yX5_lowestPostIn ∈ TB ∧ Cond.instanceMethod yX5_lowestPostIn ∈ TB ∧ Cond.selects RX5 yX5_lowestPostIn yX5_lowestPostIn ∈ TB ∧ Cond.initialized RX5 ∈ TB ∧ Cond.code yX5_lowestPostIn cX5_lowestPostIn 3 (some .int) ∈ TB := ⟨tw_395, tw_396, tw_397, tw_24, tw_398⟩
theorem hw_X5_114 : Cond.methodLink RX5 114 yX3_nearest ∈ TB ∧ Cond.instanceMethod yX3_nearest ∈ TB ∧ Cond.selects RX3 yX3_nearest yX3_nearest ∈ TB ∧ Cond.initialized RX3 ∈ TB ∧ Cond.code yX3_nearest cX3_nearest 6 (some .int) ∈ TB := ⟨tw_399, tw_400, tw_401, tw_25, tw_402⟩
theorem hw_X5_117 : Cond.methodLink RX5 117 yX5_pointing ∈ TB ∧ Cond.instanceMethod yX5_pointing ∈ TB ∧ Cond.selects RX5 yX5_pointing yX5_pointing ∈ TB ∧ Cond.initialized RX5 ∈ TB ∧ Cond.code yX5_pointing cX5_pointing 7 (some .int) ∈ TB := ⟨tw_403, tw_404, tw_405, tw_24, tw_406⟩
theorem hw_X5_120 : Cond.methodLink RX5 120 yX3_between ∈ TB ∧ Cond.instanceMethod yX3_between ∈ TB ∧ Cond.selects RX3 yX3_between yX3_between ∈ TB ∧ Cond.initialized RX3 ∈ TB ∧ Cond.code yX3_between cX3_between 3 (some .int) ∈ TB := ⟨tw_418, tw_419, tw_420, tw_25, tw_421⟩
theorem hw_X5_123 : Cond.methodLink RX5 123 yX5_retirePost ∈ TB ∧ Cond.instanceMethod yX5_retirePost ∈ TB ∧ Cond.selects RX5 yX5_retirePost yX5_retirePost ∈ TB ∧ Cond.initialized RX5 ∈ TB ∧ Cond.code yX5_retirePost cX5_retirePost 3 none ∈ TB := ⟨tw_434, tw_435, tw_436, tw_24, tw_437⟩
theorem hw_X5_126 : Cond.methodLink RX5 126 yX3_firstStep ∈ TB ∧ Cond.instanceMethod yX3_firstStep ∈ TB ∧ Cond.selects RX3 yX3_firstStep yX3_firstStep ∈ TB ∧ Cond.initialized RX3 ∈ TB ∧ Cond.code yX3_firstStep cX3_firstStep 7 (some .int) ∈ TB := ⟨tw_324, tw_325, tw_326, tw_25, tw_327⟩
theorem hw_X5_129 : Cond.methodLink RX5 129 yX3_pathMiles ∈ TB ∧ Cond.instanceMethod yX3_pathMiles ∈ TB ∧ Cond.selects RX3 yX3_pathMiles yX3_pathMiles ∈ TB ∧ Cond.initialized RX3 ∈ TB ∧ Cond.code yX3_pathMiles cX3_pathMiles 3 (some .int) ∈ TB := ⟨tw_328, tw_329, tw_330, tw_25, tw_331⟩
theorem hw_X5_36 : Cond.methodLink RX5 36 yX3_become ∈ TB ∧ Cond.instanceMethod yX3_become ∈ TB ∧ Cond.selects RX3 yX3_become yX3_become ∈ TB ∧ Cond.initialized RX3 ∈ TB ∧ Cond.code yX3_become cX3_become 2 none ∈ TB := ⟨tw_375, tw_376, tw_377, tw_25, tw_378⟩
theorem hw_X5_40 : Cond.methodLink RX5 40 yX0_become ∈ TB ∧ Cond.instanceMethod yX0_become ∈ TB ∧ Cond.selects RX0 yX0_become yX0_become ∈ TB ∧ Cond.initialized RX0 ∈ TB ∧ Cond.code yX0_become cX0_become 2 none ∈ TB := ⟨tw_386, tw_380, tw_381, tw_22, tw_382⟩
theorem hw_X5_59 : Cond.methodLink RX5 59 yX3_clear ∈ TB ∧ Cond.instanceMethod yX3_clear ∈ TB ∧ Cond.selects RX3 yX3_clear yX3_clear ∈ TB ∧ Cond.initialized RX3 ∈ TB ∧ Cond.code yX3_clear cX3_clear 2 none ∈ TB := ⟨tw_239, tw_240, tw_241, tw_25, tw_242⟩
theorem hw_X5_63 : Cond.methodLink RX5 63 yX5_areTwoTowns ∈ TB ∧ Cond.instanceMethod yX5_areTwoTowns ∈ TB ∧ Cond.selects RX5 yX5_areTwoTowns yX5_areTwoTowns ∈ TB ∧ Cond.initialized RX5 ∈ TB ∧ Cond.code yX5_areTwoTowns cX5_areTwoTowns 3 (some .boolean) ∈ TB := ⟨tw_280, tw_281, tw_282, tw_24, tw_283⟩
theorem hw_X5_67 : Cond.methodLink RX5 67 yX3_set ∈ TB ∧ Cond.instanceMethod yX3_set ∈ TB ∧ Cond.selects RX3 yX3_set yX3_set ∈ TB ∧ Cond.initialized RX3 ∈ TB ∧ Cond.code yX3_set cX3_set 4 none ∈ TB := ⟨tw_292, tw_293, tw_294, tw_25, tw_295⟩
theorem hw_X5_71 : Cond.methodLink RX5 71 yX5_isTown ∈ TB ∧ Cond.instanceMethod yX5_isTown ∈ TB ∧ Cond.selects RX5 yX5_isTown yX5_isTown ∈ TB ∧ Cond.initialized RX5 ∈ TB ∧ Cond.code yX5_isTown cX5_isTown 2 (some .boolean) ∈ TB := ⟨tw_284, tw_285, tw_286, tw_24, tw_287⟩
theorem hw_X5_75 : Cond.methodLink RX5 75 yX0_put ∈ TB ∧ Cond.instanceMethod yX0_put ∈ TB ∧ Cond.selects RX0 yX0_put yX0_put ∈ TB ∧ Cond.initialized RX0 ∈ TB ∧ Cond.code yX0_put cX0_put 5 none ∈ TB := ⟨tw_301, tw_228, tw_229, tw_22, tw_230⟩
theorem hw_X5_78 : Cond.methodLink RX5 78 yX3_survey ∈ TB ∧ Cond.instanceMethod yX3_survey ∈ TB ∧ Cond.selects RX3 yX3_survey yX3_survey ∈ TB ∧ Cond.initialized RX3 ∈ TB ∧ Cond.code yX3_survey cX3_survey 4 none ∈ TB := ⟨tw_310, tw_311, tw_312, tw_25, tw_313⟩
theorem hw_X5_81 : Cond.methodLink RX5 81 yX5_paintPost ∈ TB ∧ Cond.instanceMethod yX5_paintPost ∈ TB ∧ Cond.selects RX5 yX5_paintPost yX5_paintPost ∈ TB ∧ Cond.initialized RX5 ∈ TB ∧ Cond.code yX5_paintPost cX5_paintPost 6 (some .int) ∈ TB := ⟨tw_319, tw_320, tw_321, tw_24, tw_322⟩
theorem hw_X5_85 : Cond.methodLink RX5 85 yX3_towns ∈ TB ∧ Cond.instanceMethod yX3_towns ∈ TB ∧ Cond.selects RX3 yX3_towns yX3_towns ∈ TB ∧ Cond.initialized RX3 ∈ TB ∧ Cond.code yX3_towns cX3_towns 1 (some .int) ∈ TB := ⟨tw_288, tw_289, tw_290, tw_25, tw_291⟩
theorem hw_X5_89 : Cond.methodLink RX5 89 yX0_at ∈ TB ∧ Cond.instanceMethod yX0_at ∈ TB ∧ Cond.selects RX0 yX0_at yX0_at ∈ TB ∧ Cond.initialized RX0 ∈ TB ∧ Cond.code yX0_at cX0_at 5 (some .int) ∈ TB := ⟨tw_323, tw_258, tw_259, tw_22, tw_260⟩
theorem hw_X5_93 : Cond.static yX6_hasBit ∈ TB ∧ Cond.initialized yX6_hasBit.cls ∈ TB ∧ Cond.code yX6_hasBit cX6_hasBit 2 (some .boolean) ∈ TB := ⟨tw_412, tw_20, tw_413⟩
theorem hw_X5_96 : Cond.methodLink RX5 96 yX5_isRetired ∈ TB ∧ Cond.instanceMethod yX5_isRetired ∈ TB ∧ Cond.selects RX5 yX5_isRetired yX5_isRetired ∈ TB ∧ Cond.initialized RX5 ∈ TB ∧ Cond.code yX5_isRetired cX5_isRetired 2 (some .boolean) ∈ TB := ⟨tw_430, tw_431, tw_432, tw_24, tw_433⟩
theorem hw_X5_99 : Cond.methodLink RX5 99 yX5_hasCome ∈ TB ∧ Cond.instanceMethod yX5_hasCome ∈ TB ∧ Cond.selects RX5 yX5_hasCome yX5_hasCome ∈ TB ∧ Cond.initialized RX5 ∈ TB ∧ Cond.code yX5_hasCome cX5_hasCome 2 (some .boolean) ∈ TB := ⟨tw_530, tw_499, tw_500, tw_24, tw_501⟩
theorem hw_X6_101 : Cond.methodLink RX6 101 yX5_isPost ∈ TB ∧ Cond.instanceMethod yX5_isPost ∈ TB ∧ Cond.selects RX5 yX5_isPost yX5_isPost ∈ TB ∧ Cond.initialized RX5 ∈ TB ∧ Cond.code yX5_isPost cX5_isPost 2 (some .boolean) ∈ TB := ⟨tw_458, tw_459, tw_460, tw_24, tw_461⟩
theorem hw_X6_105 : Cond.methodLink RX6 105 yX5_kindOf ∈ TB ∧ Cond.instanceMethod yX5_kindOf ∈ TB ∧ Cond.selects RX5 yX5_kindOf yX5_kindOf ∈ TB ∧ Cond.initialized RX5 ∈ TB ∧ Cond.code yX5_kindOf cX5_kindOf 2 (some .int) ∈ TB := ⟨tw_562, tw_563, tw_564, tw_24, tw_565⟩
theorem hw_X6_108 : Cond.methodLink RX6 108 yX5_townOf ∈ TB ∧ Cond.instanceMethod yX5_townOf ∈ TB ∧ Cond.selects RX5 yX5_townOf yX5_townOf ∈ TB ∧ Cond.initialized RX5 ∈ TB ∧ Cond.code yX5_townOf cX5_townOf 2 (some .int) ∈ TB := ⟨tw_469, tw_470, tw_471, tw_24, tw_472⟩
theorem hw_X6_111 : Cond.methodLink RX6 111 yX5_ageOf ∈ TB ∧ Cond.instanceMethod yX5_ageOf ∈ TB ∧ Cond.selects RX5 yX5_ageOf yX5_ageOf ∈ TB ∧ Cond.initialized RX5 ∈ TB ∧ Cond.code yX5_ageOf cX5_ageOf 2 (some .int) ∈ TB := ⟨tw_566, tw_567, tw_568, tw_24, tw_569⟩
theorem hw_X6_114 : Cond.methodLink RX6 114 yX5_isTown ∈ TB ∧ Cond.instanceMethod yX5_isTown ∈ TB ∧ Cond.selects RX5 yX5_isTown yX5_isTown ∈ TB ∧ Cond.initialized RX5 ∈ TB ∧ Cond.code yX5_isTown cX5_isTown 2 (some .boolean) ∈ TB := ⟨tw_468, tw_285, tw_286, tw_24, tw_287⟩
theorem hw_X6_117 : Cond.methodLink RX6 117 yX5_armOf ∈ TB ∧ Cond.instanceMethod yX5_armOf ∈ TB ∧ Cond.selects RX5 yX5_armOf yX5_armOf ∈ TB ∧ Cond.initialized RX5 ∈ TB ∧ Cond.code yX5_armOf cX5_armOf 3 (some .int) ∈ TB := ⟨tw_574, tw_575, tw_576, tw_24, tw_577⟩
theorem hw_X6_120 : Cond.methodLink RX6 120 yX5_milesOf ∈ TB ∧ Cond.instanceMethod yX5_milesOf ∈ TB ∧ Cond.selects RX5 yX5_milesOf yX5_milesOf ∈ TB ∧ Cond.initialized RX5 ∈ TB ∧ Cond.code yX5_milesOf cX5_milesOf 3 (some .int) ∈ TB := ⟨tw_578, tw_579, tw_580, tw_24, tw_581⟩
theorem hw_X6_123 : Cond.methodLink RX6 123 yX5_pointing ∈ TB ∧ Cond.instanceMethod yX5_pointing ∈ TB ∧ Cond.selects RX5 yX5_pointing yX5_pointing ∈ TB ∧ Cond.initialized RX5 ∈ TB ∧ Cond.code yX5_pointing cX5_pointing 7 (some .int) ∈ TB := ⟨tw_582, tw_404, tw_405, tw_24, tw_406⟩
theorem hw_X6_126 : Cond.methodLink RX6 126 yX5_isWalker ∈ TB ∧ Cond.instanceMethod yX5_isWalker ∈ TB ∧ Cond.selects RX5 yX5_isWalker yX5_isWalker ∈ TB ∧ Cond.initialized RX5 ∈ TB ∧ Cond.code yX5_isWalker cX5_isWalker 2 (some .boolean) ∈ TB := ⟨tw_587, tw_588, tw_589, tw_24, tw_590⟩
theorem hw_X6_129 : Cond.methodLink RX6 129 yX5_placeOf ∈ TB ∧ Cond.instanceMethod yX5_placeOf ∈ TB ∧ Cond.selects RX5 yX5_placeOf yX5_placeOf ∈ TB ∧ Cond.initialized RX5 ∈ TB ∧ Cond.code yX5_placeOf cX5_placeOf 2 (some .int) ∈ TB := ⟨tw_591, tw_592, tw_593, tw_24, tw_594⟩
theorem hw_X6_132 : Cond.methodLink RX6 132 yX5_goalOf ∈ TB ∧ Cond.instanceMethod yX5_goalOf ∈ TB ∧ Cond.selects RX5 yX5_goalOf yX5_goalOf ∈ TB ∧ Cond.initialized RX5 ∈ TB ∧ Cond.code yX5_goalOf cX5_goalOf 2 (some .int) ∈ TB := ⟨tw_595, tw_596, tw_597, tw_24, tw_598⟩
theorem hw_X6_135 : Cond.methodLink RX6 135 yX5_hasCome ∈ TB ∧ Cond.instanceMethod yX5_hasCome ∈ TB ∧ Cond.selects RX5 yX5_hasCome yX5_hasCome ∈ TB ∧ Cond.initialized RX5 ∈ TB ∧ Cond.code yX5_hasCome cX5_hasCome 2 (some .boolean) ∈ TB := ⟨tw_498, tw_499, tw_500, tw_24, tw_501⟩
theorem hw_X6_138 : Cond.methodLink RX6 138 yX5_hour ∈ TB ∧ Cond.instanceMethod yX5_hour ∈ TB ∧ Cond.selects RX5 yX5_hour yX5_hour ∈ TB ∧ Cond.initialized RX5 ∈ TB ∧ Cond.code yX5_hour cX5_hour 1 (some .int) ∈ TB := ⟨tw_363, tw_364, tw_365, tw_24, tw_366⟩
theorem hw_X6_141 : Cond.methodLink RX6 141 yX4_setAside ∈ TB ∧ Cond.instanceMethod yX4_setAside ∈ TB ∧ Cond.selects RX4 yX4_setAside yX4_setAside ∈ TB ∧ Cond.initialized RX4 ∈ TB ∧ Cond.code yX4_setAside cX4_setAside 3 none ∈ TB := ⟨tw_367, tw_368, tw_369, tw_26, tw_370⟩
theorem hw_X6_144 : Cond.methodLink RX6 144 yX5_passHours ∈ TB ∧ Cond.instanceMethod yX5_passHours ∈ TB ∧ Cond.selects RX5 yX5_passHours yX5_passHours ∈ TB ∧ Cond.initialized RX5 ∈ TB ∧ Cond.code yX5_passHours cX5_passHours 6 none ∈ TB := ⟨tw_387, tw_388, tw_389, tw_24, tw_390⟩
theorem hw_X6_147 : Cond.methodLink RX6 147 yX5_passYear ∈ TB ∧ Cond.instanceMethod yX5_passYear ∈ TB ∧ Cond.selects RX5 yX5_passYear yX5_passYear ∈ TB ∧ Cond.initialized RX5 ∈ TB ∧ Cond.code yX5_passYear cX5_passYear 4 (some .int) ∈ TB := ⟨tw_426, tw_427, tw_428, tw_24, tw_429⟩
theorem hw_X6_150 : Cond.methodLink RX6 150 yX3_change ∈ TB ∧ Cond.instanceMethod yX3_change ∈ TB ∧ Cond.selects RX3 yX3_change yX3_change ∈ TB ∧ Cond.initialized RX3 ∈ TB ∧ Cond.code yX3_change cX3_change 4 none ∈ TB := ⟨tw_448, tw_449, tw_450, tw_25, tw_451⟩
theorem hw_X6_154 : Cond.methodLink RX6 154 yX5_isRetired ∈ TB ∧ Cond.instanceMethod yX5_isRetired ∈ TB ∧ Cond.selects RX5 yX5_isRetired yX5_isRetired ∈ TB ∧ Cond.initialized RX5 ∈ TB ∧ Cond.code yX5_isRetired cX5_isRetired 2 (some .boolean) ∈ TB := ⟨tw_462, tw_431, tw_432, tw_24, tw_433⟩
theorem hw_X6_157 : Cond.methodLink RX6 157 yX5_paintPost ∈ TB ∧ Cond.instanceMethod yX5_paintPost ∈ TB ∧ Cond.selects RX5 yX5_paintPost yX5_paintPost ∈ TB ∧ Cond.initialized RX5 ∈ TB ∧ Cond.code yX5_paintPost cX5_paintPost 6 (some .int) ∈ TB := ⟨tw_463, tw_320, tw_321, tw_24, tw_322⟩
theorem hw_X6_160 : Cond.methodLink RX6 160 yX5_movePost ∈ TB ∧ Cond.instanceMethod yX5_movePost ∈ TB ∧ Cond.selects RX5 yX5_movePost yX5_movePost ∈ TB ∧ Cond.initialized RX5 ∈ TB ∧ Cond.code yX5_movePost cX5_movePost 3 none ∈ TB := ⟨tw_473, tw_474, tw_475, tw_24, tw_476⟩
theorem hw_X6_164 : Cond.methodLink RX6 164 yX5_retirePost ∈ TB ∧ Cond.instanceMethod yX5_retirePost ∈ TB ∧ Cond.selects RX5 yX5_retirePost yX5_retirePost ∈ TB ∧ Cond.initialized RX5 ∈ TB ∧ Cond.code yX5_retirePost cX5_retirePost 3 none ∈ TB := ⟨tw_603, tw_435, tw_436, tw_24, tw_437⟩
theorem hw_X6_167 : Cond.methodLink RX6 167 yX4_giveBack ∈ TB ∧ Cond.instanceMethod yX4_giveBack ∈ TB ∧ Cond.selects RX4 yX4_giveBack yX4_giveBack ∈ TB ∧ Cond.initialized RX4 ∈ TB ∧ Cond.code yX4_giveBack cX4_giveBack 4 (some .boolean) ∈ TB := ⟨tw_481, tw_482, tw_483, tw_26, tw_484⟩
theorem hw_X6_171 : Cond.methodLink RX6 171 yX4_held ∈ TB ∧ Cond.instanceMethod yX4_held ∈ TB ∧ Cond.selects RX4 yX4_held yX4_held ∈ TB ∧ Cond.initialized RX4 ∈ TB ∧ Cond.code yX4_held cX4_held 1 (some .int) ∈ TB := ⟨tw_485, tw_486, tw_487, tw_26, tw_488⟩
theorem hw_X6_174 : Cond.methodLink RX6 174 yX5_towns ∈ TB ∧ Cond.instanceMethod yX5_towns ∈ TB ∧ Cond.selects RX5 yX5_towns yX5_towns ∈ TB ∧ Cond.initialized RX5 ∈ TB ∧ Cond.code yX5_towns cX5_towns 1 (some .int) ∈ TB := ⟨tw_506, tw_507, tw_508, tw_24, tw_509⟩
theorem hw_X6_177 : Cond.methodLink RX6 177 yX5_lowestPostIn ∈ TB ∧ Cond.instanceMethod yX5_lowestPostIn ∈ TB ∧ Cond.selects RX5 yX5_lowestPostIn yX5_lowestPostIn ∈ TB ∧ Cond.initialized RX5 ∈ TB ∧ Cond.code yX5_lowestPostIn cX5_lowestPostIn 3 (some .int) ∈ TB := ⟨tw_616, tw_396, tw_397, tw_24, tw_398⟩
theorem hw_X6_180 : Cond.methodLink RX6 180 yX6_comersHelpedIn ∈ TB ∧ Cond.instanceMethod yX6_comersHelpedIn ∈ TB ∧ Cond.selects RX6 yX6_comersHelpedIn yX6_comersHelpedIn ∈ TB ∧ Cond.initialized RX6 ∈ TB ∧ Cond.code yX6_comersHelpedIn cX6_comersHelpedIn 2 (some .int) ∈ TB := ⟨tw_617, tw_619, tw_7, tw_20, tw_620⟩
theorem hw_X6_183 : Cond.methodLink RX6 183 yX5_standPlain ∈ TB ∧ Cond.instanceMethod yX5_standPlain ∈ TB ∧ Cond.selects RX5 yX5_standPlain yX5_standPlain ∈ TB ∧ Cond.initialized RX5 ∈ TB ∧ Cond.code yX5_standPlain cX5_standPlain 2 none ∈ TB := ⟨tw_621, tw_622, tw_623, tw_24, tw_624⟩
theorem hw_X6_186 : Cond.methodLink RX6 186 yX5_comeCount ∈ TB ∧ Cond.instanceMethod yX5_comeCount ∈ TB ∧ Cond.selects RX5 yX5_comeCount yX5_comeCount ∈ TB ∧ Cond.initialized RX5 ∈ TB ∧ Cond.code yX5_comeCount cX5_comeCount 3 (some .int) ∈ TB := ⟨tw_526, tw_527, tw_528, tw_24, tw_529⟩
theorem hw_X6_189 : Cond.methodLink RX6 189 yX6_comersPainted ∈ TB ∧ Cond.instanceMethod yX6_comersPainted ∈ TB ∧ Cond.selects RX6 yX6_comersPainted yX6_comersPainted ∈ TB ∧ Cond.initialized RX6 ∈ TB ∧ Cond.code yX6_comersPainted cX6_comersPainted 3 (some .int) ∈ TB := ⟨tw_629, tw_631, tw_8, tw_20, tw_632⟩
theorem hw_X6_192 : Cond.methodLink RX6 192 yX5_noneRetired ∈ TB ∧ Cond.instanceMethod yX5_noneRetired ∈ TB ∧ Cond.selects RX5 yX5_noneRetired yX5_noneRetired ∈ TB ∧ Cond.initialized RX5 ∈ TB ∧ Cond.code yX5_noneRetired cX5_noneRetired 3 (some .boolean) ∈ TB := ⟨tw_634, tw_635, tw_636, tw_24, tw_637⟩
theorem hw_X6_195 : Cond.methodLink RX6 195 yJ6_bitCount_0f7a4 ∈ TB ∧ Cond.static yJ6_bitCount_0f7a4 ∈ TB ∧ Cond.initialized yJ6_bitCount_0f7a4.cls ∈ TB ∧ Cond.code yJ6_bitCount_0f7a4 cJ6_bitCount_0f7a4 1 (some .int) ∈ TB := ⟨tw_638, tw_639, tw_33, tw_640⟩
theorem hw_X6_200 : Cond.methodLink RX6 200 yX6_hasBit ∈ TB ∧ Cond.static yX6_hasBit ∈ TB ∧ Cond.initialized yX6_hasBit.cls ∈ TB ∧ Cond.code yX6_hasBit cX6_hasBit 2 (some .boolean) ∈ TB := ⟨tw_633, tw_412, tw_20, tw_413⟩
theorem hw_X6_203 : Cond.methodLink RX6 203 yX6_isCover ∈ TB ∧ Cond.instanceMethod yX6_isCover ∈ TB ∧ Cond.selects RX6 yX6_isCover yX6_isCover ∈ TB ∧ Cond.initialized RX6 ∈ TB ∧ Cond.code yX6_isCover cX6_isCover 3 (some .boolean) ∈ TB := ⟨tw_648, tw_650, tw_9, tw_20, tw_651⟩
theorem hw_X6_206 : Cond.methodLink RX6 206 yX5_dropPosts ∈ TB ∧ Cond.instanceMethod yX5_dropPosts ∈ TB ∧ Cond.selects RX5 yX5_dropPosts yX5_dropPosts ∈ TB ∧ Cond.initialized RX5 ∈ TB ∧ Cond.code yX5_dropPosts cX5_dropPosts 1 none ∈ TB := ⟨tw_652, tw_653, tw_654, tw_24, tw_655⟩
theorem hw_X6_209 : Cond.methodLink RX6 209 yX3_pathMiles ∈ TB ∧ Cond.instanceMethod yX3_pathMiles ∈ TB ∧ Cond.selects RX3 yX3_pathMiles yX3_pathMiles ∈ TB ∧ Cond.initialized RX3 ∈ TB ∧ Cond.code yX3_pathMiles cX3_pathMiles 3 (some .int) ∈ TB := ⟨tw_660, tw_329, tw_330, tw_25, tw_331⟩
theorem hw_X6_212 : Cond.methodLink RX6 212 yX2_add ∈ TB ∧ Cond.instanceMethod yX2_add ∈ TB ∧ Cond.selects RX2 yX2_add yX2_add ∈ TB ∧ Cond.initialized RX2 ∈ TB ∧ Cond.code yX2_add cX2_add 4 (some .int) ∈ TB := ⟨tw_665, tw_666, tw_667, tw_27, tw_668⟩
theorem hw_X6_216 : Cond.methodLink RX6 216 yX6_tellsAll ∈ TB ∧ Cond.instanceMethod yX6_tellsAll ∈ TB ∧ Cond.selects RX6 yX6_tellsAll yX6_tellsAll ∈ TB ∧ Cond.initialized RX6 ∈ TB ∧ Cond.code yX6_tellsAll cX6_tellsAll 6 (some .boolean) ∈ TB := ⟨tw_764, tw_766, tw_15, tw_20, tw_767⟩
theorem hw_X6_219 : Cond.methodLink RX6 219 yX2_held ∈ TB ∧ Cond.instanceMethod yX2_held ∈ TB ∧ Cond.selects RX2 yX2_held yX2_held ∈ TB ∧ Cond.initialized RX2 ∈ TB ∧ Cond.code yX2_held cX2_held 1 (some .int) ∈ TB := ⟨tw_531, tw_532, tw_533, tw_27, tw_534⟩
theorem hw_X6_220 : Cond.methodLink RX6 220 yX2_number ∈ TB ∧ Cond.instanceMethod yX2_number ∈ TB ∧ Cond.selects RX2 yX2_number yX2_number ∈ TB ∧ Cond.initialized RX2 ∈ TB ∧ Cond.code yX2_number cX2_number 3 (some .int) ∈ TB := ⟨tw_686, tw_687, tw_688, tw_27, tw_689⟩
theorem hw_X6_223 : Cond.methodLink RX6 223 yX3_firstStep ∈ TB ∧ Cond.instanceMethod yX3_firstStep ∈ TB ∧ Cond.selects RX3 yX3_firstStep yX3_firstStep ∈ TB ∧ Cond.initialized RX3 ∈ TB ∧ Cond.code yX3_firstStep cX3_firstStep 7 (some .int) ∈ TB := ⟨tw_768, tw_325, tw_326, tw_25, tw_327⟩
theorem hw_X6_226 : Cond.methodLink RX6 226 yX6_stood ∈ TB ∧ Cond.instanceMethod yX6_stood ∈ TB ∧ Cond.selects RX6 yX6_stood yX6_stood ∈ TB ∧ Cond.initialized RX6 ∈ TB ∧ Cond.code yX6_stood cX6_stood 3 (some .int) ∈ TB := ⟨tw_773, tw_761, tw_762, tw_20, tw_763⟩
theorem hw_X6_229 : Cond.methodLink RX6 229 yX6_mostAlike ∈ TB ∧ Cond.instanceMethod yX6_mostAlike ∈ TB ∧ Cond.selects RX6 yX6_mostAlike yX6_mostAlike ∈ TB ∧ Cond.initialized RX6 ∈ TB ∧ Cond.code yX6_mostAlike cX6_mostAlike 5 (some .int) ∈ TB := ⟨tw_774, tw_776, tw_16, tw_20, tw_777⟩
theorem hw_X6_232 : Cond.methodLink RX6 232 yX6_alikeWith ∈ TB ∧ Cond.instanceMethod yX6_alikeWith ∈ TB ∧ Cond.selects RX6 yX6_alikeWith yX6_alikeWith ∈ TB ∧ Cond.initialized RX6 ∈ TB ∧ Cond.code yX6_alikeWith cX6_alikeWith 6 (some .int) ∈ TB := ⟨tw_778, tw_780, tw_17, tw_20, tw_781⟩
theorem hw_X6_240 : Cond.methodLink RX6 240 yX6_tellAlike ∈ TB ∧ Cond.instanceMethod yX6_tellAlike ∈ TB ∧ Cond.selects RX6 yX6_tellAlike yX6_tellAlike ∈ TB ∧ Cond.initialized RX6 ∈ TB ∧ Cond.code yX6_tellAlike cX6_tellAlike 6 (some .boolean) ∈ TB := ⟨tw_782, tw_784, tw_18, tw_20, tw_785⟩
theorem hw_X6_244 : Cond.methodLink RX6 244 yX5_turnInto ∈ TB ∧ Cond.instanceMethod yX5_turnInto ∈ TB ∧ Cond.selects RX5 yX5_turnInto yX5_turnInto ∈ TB ∧ Cond.initialized RX5 ∈ TB ∧ Cond.code yX5_turnInto cX5_turnInto 3 none ∈ TB := ⟨tw_678, tw_679, tw_680, tw_24, tw_681⟩
theorem hw_X6_247 : Cond.methodLink RX6 247 yX6_fitsSightings ∈ TB ∧ Cond.instanceMethod yX6_fitsSightings ∈ TB ∧ Cond.selects RX6 yX6_fitsSightings yX6_fitsSightings ∈ TB ∧ Cond.initialized RX6 ∈ TB ∧ Cond.code yX6_fitsSightings cX6_fitsSightings 4 (some .boolean) ∈ TB := ⟨tw_682, tw_684, tw_10, tw_20, tw_685⟩
theorem hw_X6_250 : Cond.methodLink RX6 250 yX6_weightOf ∈ TB ∧ Cond.instanceMethod yX6_weightOf ∈ TB ∧ Cond.selects RX6 yX6_weightOf yX6_weightOf ∈ TB ∧ Cond.initialized RX6 ∈ TB ∧ Cond.code yX6_weightOf cX6_weightOf 5 (some .int) ∈ TB := ⟨tw_695, tw_697, tw_11, tw_20, tw_698⟩
theorem hw_X6_253 : Cond.methodLink RX6 253 yX6_comesTwisted ∈ TB ∧ Cond.instanceMethod yX6_comesTwisted ∈ TB ∧ Cond.selects RX6 yX6_comesTwisted yX6_comesTwisted ∈ TB ∧ Cond.initialized RX6 ∈ TB ∧ Cond.code yX6_comesTwisted cX6_comesTwisted 3 (some .boolean) ∈ TB := ⟨tw_699, tw_701, tw_12, tw_20, tw_702⟩
theorem hw_X6_256 : Cond.methodLink RX6 256 yX6_commonPart ∈ TB ∧ Cond.static yX6_commonPart ∈ TB ∧ Cond.initialized yX6_commonPart.cls ∈ TB ∧ Cond.code yX6_commonPart cX6_commonPart 6 (some .int) ∈ TB := ⟨tw_707, tw_708, tw_20, tw_709⟩
theorem hw_X6_259 : Cond.methodLink RX6 259 yX5_twist ∈ TB ∧ Cond.instanceMethod yX5_twist ∈ TB ∧ Cond.selects RX5 yX5_twist yX5_twist ∈ TB ∧ Cond.initialized RX5 ∈ TB ∧ Cond.code yX5_twist cX5_twist 2 none ∈ TB := ⟨tw_703, tw_704, tw_705, tw_24, tw_706⟩
theorem hw_X6_262 : Cond.methodLink RX6 262 yX6_drawn ∈ TB ∧ Cond.static yX6_drawn ∈ TB ∧ Cond.initialized yX6_drawn.cls ∈ TB ∧ Cond.code yX6_drawn cX6_drawn 4 (some .int) ∈ TB := ⟨tw_714, tw_715, tw_20, tw_716⟩
theorem hw_X6_265 : Cond.methodLink RX6 265 yX6_actByDraw ∈ TB ∧ Cond.instanceMethod yX6_actByDraw ∈ TB ∧ Cond.selects RX6 yX6_actByDraw yX6_actByDraw ∈ TB ∧ Cond.initialized RX6 ∈ TB ∧ Cond.code yX6_actByDraw cX6_actByDraw 6 none ∈ TB := ⟨tw_721, tw_723, tw_13, tw_20, tw_724⟩
theorem hw_X6_268 : Cond.methodLink RX6 268 yX5_retiredCount ∈ TB ∧ Cond.instanceMethod yX5_retiredCount ∈ TB ∧ Cond.selects RX5 yX5_retiredCount yX5_retiredCount ∈ TB ∧ Cond.initialized RX5 ∈ TB ∧ Cond.code yX5_retiredCount cX5_retiredCount 3 (some .int) ∈ TB := ⟨tw_522, tw_523, tw_524, tw_24, tw_525⟩
theorem hw_X6_271 : Cond.methodLink RX6 271 yX3_milesOfAll ∈ TB ∧ Cond.instanceMethod yX3_milesOfAll ∈ TB ∧ Cond.selects RX3 yX3_milesOfAll yX3_milesOfAll ∈ TB ∧ Cond.initialized RX3 ∈ TB ∧ Cond.code yX3_milesOfAll cX3_milesOfAll 4 (some .int) ∈ TB := ⟨tw_733, tw_734, tw_735, tw_25, tw_736⟩
theorem hw_X6_282 : Cond.methodLink RX6 282 yX6_layOrClose ∈ TB ∧ Cond.instanceMethod yX6_layOrClose ∈ TB ∧ Cond.selects RX6 yX6_layOrClose yX6_layOrClose ∈ TB ∧ Cond.initialized RX6 ∈ TB ∧ Cond.code yX6_layOrClose cX6_layOrClose 5 none ∈ TB := ⟨tw_725, tw_727, tw_14, tw_20, tw_728⟩
theorem hw_X6_285 : Cond.methodLink RX6 285 yX3_townBehind ∈ TB ∧ Cond.instanceMethod yX3_townBehind ∈ TB ∧ Cond.selects RX3 yX3_townBehind yX3_townBehind ∈ TB ∧ Cond.initialized RX3 ∈ TB ∧ Cond.code yX3_townBehind cX3_townBehind 2 (some .int) ∈ TB := ⟨tw_729, tw_730, tw_731, tw_25, tw_732⟩
theorem hw_X6_288 : Cond.methodLink RX6 288 yX5_years ∈ TB ∧ Cond.instanceMethod yX5_years ∈ TB ∧ Cond.selects RX5 yX5_years yX5_years ∈ TB ∧ Cond.initialized RX5 ∈ TB ∧ Cond.code yX5_years cX5_years 1 (some .int) ∈ TB := ⟨tw_514, tw_515, tw_516, tw_24, tw_517⟩
theorem hw_X6_291 : Cond.methodLink RX6 291 yX3_howMany ∈ TB ∧ Cond.instanceMethod yX3_howMany ∈ TB ∧ Cond.selects RX3 yX3_howMany yX3_howMany ∈ TB ∧ Cond.initialized RX3 ∈ TB ∧ Cond.code yX3_howMany cX3_howMany 4 (some .int) ∈ TB := ⟨tw_518, tw_519, tw_520, tw_25, tw_521⟩
theorem hw_X6_294 : Cond.methodLink RX6 294 yX1_length ∈ TB ∧ Cond.instanceMethod yX1_length ∈ TB ∧ Cond.selects RX1 yX1_length yX1_length ∈ TB ∧ Cond.initialized RX1 ∈ TB ∧ Cond.code yX1_length cX1_length 1 (some .int) ∈ TB := ⟨tw_535, tw_536, tw_537, tw_21, tw_538⟩
theorem hw_X6_60 : Cond.methodLink RX6 60 yX1_append ∈ TB ∧ Cond.instanceMethod yX1_append ∈ TB ∧ Cond.selects RX1 yX1_append yX1_append ∈ TB ∧ Cond.initialized RX1 ∈ TB ∧ Cond.code yX1_append cX1_append 2 (some .int) ∈ TB := ⟨tw_223, tw_224, tw_225, tw_21, tw_226⟩
theorem hw_X6_74 : Cond.methodLink RX6 74 yX5_posts ∈ TB ∧ Cond.instanceMethod yX5_posts ∈ TB ∧ Cond.selects RX5 yX5_posts yX5_posts ∈ TB ∧ Cond.initialized RX5 ∈ TB ∧ Cond.code yX5_posts cX5_posts 1 (some .int) ∈ TB := ⟨tw_510, tw_511, tw_512, tw_24, tw_513⟩
theorem hw_X6_77 : Cond.methodLink RX6 77 yX5_walkers ∈ TB ∧ Cond.instanceMethod yX5_walkers ∈ TB ∧ Cond.selects RX5 yX5_walkers yX5_walkers ∈ TB ∧ Cond.initialized RX5 ∈ TB ∧ Cond.code yX5_walkers cX5_walkers 1 (some .int) ∈ TB := ⟨tw_494, tw_495, tw_496, tw_24, tw_497⟩
theorem hw_X6_80 : Cond.methodLink RX6 80 yX5_become ∈ TB ∧ Cond.instanceMethod yX5_become ∈ TB ∧ Cond.selects RX5 yX5_become yX5_become ∈ TB ∧ Cond.initialized RX5 ∈ TB ∧ Cond.code yX5_become cX5_become 2 none ∈ TB := ⟨tw_493, tw_372, tw_373, tw_24, tw_374⟩
theorem hw_X6_84 : Cond.methodLink RX6 84 yX4_empty ∈ TB ∧ Cond.instanceMethod yX4_empty ∈ TB ∧ Cond.selects RX4 yX4_empty yX4_empty ∈ TB ∧ Cond.initialized RX4 ∈ TB ∧ Cond.code yX4_empty cX4_empty 1 none ∈ TB := ⟨tw_748, tw_749, tw_750, tw_26, tw_751⟩
theorem hw_X6_86 : Cond.methodLink RX6 86 yX2_empty ∈ TB ∧ Cond.instanceMethod yX2_empty ∈ TB ∧ Cond.selects RX2 yX2_empty yX2_empty ∈ TB ∧ Cond.initialized RX2 ∈ TB ∧ Cond.code yX2_empty cX2_empty 2 (some .int) ∈ TB := ⟨tw_756, tw_757, tw_758, tw_27, tw_759⟩
theorem hw_X6_87 : Cond.methodLink RX6 87 yX5_areTwoTowns ∈ TB ∧ Cond.instanceMethod yX5_areTwoTowns ∈ TB ∧ Cond.selects RX5 yX5_areTwoTowns yX5_areTwoTowns ∈ TB ∧ Cond.initialized RX5 ∈ TB ∧ Cond.code yX5_areTwoTowns cX5_areTwoTowns 3 (some .boolean) ∈ TB := ⟨tw_442, tw_281, tw_282, tw_24, tw_283⟩
theorem hw_X6_91 : Cond.methodLink RX6 91 yX5_roads ∈ TB ∧ Cond.instanceMethod yX5_roads ∈ TB ∧ Cond.selects RX5 yX5_roads yX5_roads ∈ TB ∧ Cond.initialized RX5 ∈ TB ∧ Cond.code yX5_roads cX5_roads 1 (some (.object "SignpostYard$Roads")) ∈ TB := ⟨tw_443, tw_444, tw_445, tw_24, tw_446⟩
theorem hw_X6_95 : Cond.methodLink RX6 95 yX3_between ∈ TB ∧ Cond.instanceMethod yX3_between ∈ TB ∧ Cond.selects RX3 yX3_between yX3_between ∈ TB ∧ Cond.initialized RX3 ∈ TB ∧ Cond.code yX3_between cX3_between 3 (some .int) ∈ TB := ⟨tw_447, tw_419, tw_420, tw_25, tw_421⟩
theorem hd_J6_bitCount_0f7a4 : yJ6_bitCount_0f7a4.cls ≠ "java/lang/invoke/MethodHandle" ∧ yJ6_bitCount_0f7a4.cls ≠ "java/lang/invoke/VarHandle" ∧ (parseMethodDescriptor yJ6_bitCount_0f7a4.desc).map (fun d => d.parameters.length) = some 1 := ⟨by decide +kernel, by decide +kernel, by decide +kernel⟩
theorem hd_L_low : yL_low.cls ≠ "java/lang/invoke/MethodHandle" ∧ yL_low.cls ≠ "java/lang/invoke/VarHandle" ∧ (parseMethodDescriptor yL_low.desc).map (fun d => d.parameters.length) = some 2 := ⟨by decide +kernel, by decide +kernel, by decide +kernel⟩
theorem hd_X0_at : yX0_at.cls = RX0 ∧ yX0_at.cls ≠ "java/lang/invoke/MethodHandle" ∧ yX0_at.cls ≠ "java/lang/invoke/VarHandle" ∧ (parseMethodDescriptor yX0_at.desc).map (fun d => d.parameters.length) = some 2 := ⟨rfl, by decide +kernel, by decide +kernel, by decide +kernel⟩
theorem hd_X0_become : yX0_become.cls = RX0 ∧ yX0_become.cls ≠ "java/lang/invoke/MethodHandle" ∧ yX0_become.cls ≠ "java/lang/invoke/VarHandle" ∧ (parseMethodDescriptor yX0_become.desc).map (fun d => d.parameters.length) = some 1 := ⟨rfl, by decide +kernel, by decide +kernel, by decide +kernel⟩
theorem hd_X0_fill : yX0_fill.cls = RX0 ∧ yX0_fill.cls ≠ "java/lang/invoke/MethodHandle" ∧ yX0_fill.cls ≠ "java/lang/invoke/VarHandle" ∧ (parseMethodDescriptor yX0_fill.desc).map (fun d => d.parameters.length) = some 1 := ⟨rfl, by decide +kernel, by decide +kernel, by decide +kernel⟩
theorem hd_X0_put : yX0_put.cls = RX0 ∧ yX0_put.cls ≠ "java/lang/invoke/MethodHandle" ∧ yX0_put.cls ≠ "java/lang/invoke/VarHandle" ∧ (parseMethodDescriptor yX0_put.desc).map (fun d => d.parameters.length) = some 3 := ⟨rfl, by decide +kernel, by decide +kernel, by decide +kernel⟩
theorem hd_X1_append : yX1_append.cls = RX1 ∧ yX1_append.cls ≠ "java/lang/invoke/MethodHandle" ∧ yX1_append.cls ≠ "java/lang/invoke/VarHandle" ∧ (parseMethodDescriptor yX1_append.desc).map (fun d => d.parameters.length) = some 1 := ⟨rfl, by decide +kernel, by decide +kernel, by decide +kernel⟩
theorem hd_X1_length : yX1_length.cls = RX1 ∧ yX1_length.cls ≠ "java/lang/invoke/MethodHandle" ∧ yX1_length.cls ≠ "java/lang/invoke/VarHandle" ∧ (parseMethodDescriptor yX1_length.desc).map (fun d => d.parameters.length) = some 0 := ⟨rfl, by decide +kernel, by decide +kernel, by decide +kernel⟩
theorem hd_X1_letterHere : yX1_letterHere.cls = RX1 ∧ yX1_letterHere.cls ≠ "java/lang/invoke/MethodHandle" ∧ yX1_letterHere.cls ≠ "java/lang/invoke/VarHandle" ∧ (parseMethodDescriptor yX1_letterHere.desc).map (fun d => d.parameters.length) = some 0 := ⟨rfl, by decide +kernel, by decide +kernel, by decide +kernel⟩
theorem hd_X1_numbersBehind : yX1_numbersBehind.cls ≠ "java/lang/invoke/MethodHandle" ∧ yX1_numbersBehind.cls ≠ "java/lang/invoke/VarHandle" ∧ (parseMethodDescriptor yX1_numbersBehind.desc).map (fun d => d.parameters.length) = some 1 := ⟨by decide +kernel, by decide +kernel, by decide +kernel⟩
theorem hd_X1_readFigure : yX1_readFigure.cls = RX1 ∧ yX1_readFigure.cls ≠ "java/lang/invoke/MethodHandle" ∧ yX1_readFigure.cls ≠ "java/lang/invoke/VarHandle" ∧ (parseMethodDescriptor yX1_readFigure.desc).map (fun d => d.parameters.length) = some 0 := ⟨rfl, by decide +kernel, by decide +kernel, by decide +kernel⟩
theorem hd_X1_readItem : yX1_readItem.cls = RX1 ∧ yX1_readItem.cls ≠ "java/lang/invoke/MethodHandle" ∧ yX1_readItem.cls ≠ "java/lang/invoke/VarHandle" ∧ (parseMethodDescriptor yX1_readItem.desc).map (fun d => d.parameters.length) = some 2 := ⟨rfl, by decide +kernel, by decide +kernel, by decide +kernel⟩
theorem hd_X1_readNumbers : yX1_readNumbers.cls = RX1 ∧ yX1_readNumbers.cls ≠ "java/lang/invoke/MethodHandle" ∧ yX1_readNumbers.cls ≠ "java/lang/invoke/VarHandle" ∧ (parseMethodDescriptor yX1_readNumbers.desc).map (fun d => d.parameters.length) = some 1 := ⟨rfl, by decide +kernel, by decide +kernel, by decide +kernel⟩
theorem hd_X2_add : yX2_add.cls = RX2 ∧ yX2_add.cls ≠ "java/lang/invoke/MethodHandle" ∧ yX2_add.cls ≠ "java/lang/invoke/VarHandle" ∧ (parseMethodDescriptor yX2_add.desc).map (fun d => d.parameters.length) = some 3 := ⟨rfl, by decide +kernel, by decide +kernel, by decide +kernel⟩
theorem hd_X2_empty : yX2_empty.cls = RX2 ∧ yX2_empty.cls ≠ "java/lang/invoke/MethodHandle" ∧ yX2_empty.cls ≠ "java/lang/invoke/VarHandle" ∧ (parseMethodDescriptor yX2_empty.desc).map (fun d => d.parameters.length) = some 0 := ⟨rfl, by decide +kernel, by decide +kernel, by decide +kernel⟩
theorem hd_X2_held : yX2_held.cls = RX2 ∧ yX2_held.cls ≠ "java/lang/invoke/MethodHandle" ∧ yX2_held.cls ≠ "java/lang/invoke/VarHandle" ∧ (parseMethodDescriptor yX2_held.desc).map (fun d => d.parameters.length) = some 0 := ⟨rfl, by decide +kernel, by decide +kernel, by decide +kernel⟩
theorem hd_X2_number : yX2_number.cls = RX2 ∧ yX2_number.cls ≠ "java/lang/invoke/MethodHandle" ∧ yX2_number.cls ≠ "java/lang/invoke/VarHandle" ∧ (parseMethodDescriptor yX2_number.desc).map (fun d => d.parameters.length) = some 2 := ⟨rfl, by decide +kernel, by decide +kernel, by decide +kernel⟩
theorem hd_X3_become : yX3_become.cls = RX3 ∧ yX3_become.cls ≠ "java/lang/invoke/MethodHandle" ∧ yX3_become.cls ≠ "java/lang/invoke/VarHandle" ∧ (parseMethodDescriptor yX3_become.desc).map (fun d => d.parameters.length) = some 1 := ⟨rfl, by decide +kernel, by decide +kernel, by decide +kernel⟩
theorem hd_X3_between : yX3_between.cls = RX3 ∧ yX3_between.cls ≠ "java/lang/invoke/MethodHandle" ∧ yX3_between.cls ≠ "java/lang/invoke/VarHandle" ∧ (parseMethodDescriptor yX3_between.desc).map (fun d => d.parameters.length) = some 2 := ⟨rfl, by decide +kernel, by decide +kernel, by decide +kernel⟩
theorem hd_X3_change : yX3_change.cls = RX3 ∧ yX3_change.cls ≠ "java/lang/invoke/MethodHandle" ∧ yX3_change.cls ≠ "java/lang/invoke/VarHandle" ∧ (parseMethodDescriptor yX3_change.desc).map (fun d => d.parameters.length) = some 3 := ⟨rfl, by decide +kernel, by decide +kernel, by decide +kernel⟩
theorem hd_X3_clear : yX3_clear.cls = RX3 ∧ yX3_clear.cls ≠ "java/lang/invoke/MethodHandle" ∧ yX3_clear.cls ≠ "java/lang/invoke/VarHandle" ∧ (parseMethodDescriptor yX3_clear.desc).map (fun d => d.parameters.length) = some 1 := ⟨rfl, by decide +kernel, by decide +kernel, by decide +kernel⟩
theorem hd_X3_firstStep : yX3_firstStep.cls = RX3 ∧ yX3_firstStep.cls ≠ "java/lang/invoke/MethodHandle" ∧ yX3_firstStep.cls ≠ "java/lang/invoke/VarHandle" ∧ (parseMethodDescriptor yX3_firstStep.desc).map (fun d => d.parameters.length) = some 2 := ⟨rfl, by decide +kernel, by decide +kernel, by decide +kernel⟩
theorem hd_X3_howMany : yX3_howMany.cls = RX3 ∧ yX3_howMany.cls ≠ "java/lang/invoke/MethodHandle" ∧ yX3_howMany.cls ≠ "java/lang/invoke/VarHandle" ∧ (parseMethodDescriptor yX3_howMany.desc).map (fun d => d.parameters.length) = some 0 := ⟨rfl, by decide +kernel, by decide +kernel, by decide +kernel⟩
theorem hd_X3_milesOfAll : yX3_milesOfAll.cls = RX3 ∧ yX3_milesOfAll.cls ≠ "java/lang/invoke/MethodHandle" ∧ yX3_milesOfAll.cls ≠ "java/lang/invoke/VarHandle" ∧ (parseMethodDescriptor yX3_milesOfAll.desc).map (fun d => d.parameters.length) = some 0 := ⟨rfl, by decide +kernel, by decide +kernel, by decide +kernel⟩
theorem hd_X3_nearest : yX3_nearest.cls = RX3 ∧ yX3_nearest.cls ≠ "java/lang/invoke/MethodHandle" ∧ yX3_nearest.cls ≠ "java/lang/invoke/VarHandle" ∧ (parseMethodDescriptor yX3_nearest.desc).map (fun d => d.parameters.length) = some 1 := ⟨rfl, by decide +kernel, by decide +kernel, by decide +kernel⟩
theorem hd_X3_pathMiles : yX3_pathMiles.cls = RX3 ∧ yX3_pathMiles.cls ≠ "java/lang/invoke/MethodHandle" ∧ yX3_pathMiles.cls ≠ "java/lang/invoke/VarHandle" ∧ (parseMethodDescriptor yX3_pathMiles.desc).map (fun d => d.parameters.length) = some 2 := ⟨rfl, by decide +kernel, by decide +kernel, by decide +kernel⟩
theorem hd_X3_set : yX3_set.cls = RX3 ∧ yX3_set.cls ≠ "java/lang/invoke/MethodHandle" ∧ yX3_set.cls ≠ "java/lang/invoke/VarHandle" ∧ (parseMethodDescriptor yX3_set.desc).map (fun d => d.parameters.length) = some 3 := ⟨rfl, by decide +kernel, by decide +kernel, by decide +kernel⟩
theorem hd_X3_shorten : yX3_shorten.cls = RX3 ∧ yX3_shorten.cls ≠ "java/lang/invoke/MethodHandle" ∧ yX3_shorten.cls ≠ "java/lang/invoke/VarHandle" ∧ (parseMethodDescriptor yX3_shorten.desc).map (fun d => d.parameters.length) = some 3 := ⟨rfl, by decide +kernel, by decide +kernel, by decide +kernel⟩
theorem hd_X3_survey : yX3_survey.cls = RX3 ∧ yX3_survey.cls ≠ "java/lang/invoke/MethodHandle" ∧ yX3_survey.cls ≠ "java/lang/invoke/VarHandle" ∧ (parseMethodDescriptor yX3_survey.desc).map (fun d => d.parameters.length) = some 0 := ⟨rfl, by decide +kernel, by decide +kernel, by decide +kernel⟩
theorem hd_X3_townBehind : yX3_townBehind.cls = RX3 ∧ yX3_townBehind.cls ≠ "java/lang/invoke/MethodHandle" ∧ yX3_townBehind.cls ≠ "java/lang/invoke/VarHandle" ∧ (parseMethodDescriptor yX3_townBehind.desc).map (fun d => d.parameters.length) = some 1 := ⟨rfl, by decide +kernel, by decide +kernel, by decide +kernel⟩
theorem hd_X3_towns : yX3_towns.cls = RX3 ∧ yX3_towns.cls ≠ "java/lang/invoke/MethodHandle" ∧ yX3_towns.cls ≠ "java/lang/invoke/VarHandle" ∧ (parseMethodDescriptor yX3_towns.desc).map (fun d => d.parameters.length) = some 0 := ⟨rfl, by decide +kernel, by decide +kernel, by decide +kernel⟩
theorem hd_X3_turned : yX3_turned.cls = RX3 ∧ yX3_turned.cls ≠ "java/lang/invoke/MethodHandle" ∧ yX3_turned.cls ≠ "java/lang/invoke/VarHandle" ∧ (parseMethodDescriptor yX3_turned.desc).map (fun d => d.parameters.length) = some 2 := ⟨rfl, by decide +kernel, by decide +kernel, by decide +kernel⟩
theorem hd_X4_empty : yX4_empty.cls = RX4 ∧ yX4_empty.cls ≠ "java/lang/invoke/MethodHandle" ∧ yX4_empty.cls ≠ "java/lang/invoke/VarHandle" ∧ (parseMethodDescriptor yX4_empty.desc).map (fun d => d.parameters.length) = some 0 := ⟨rfl, by decide +kernel, by decide +kernel, by decide +kernel⟩
theorem hd_X4_giveBack : yX4_giveBack.cls = RX4 ∧ yX4_giveBack.cls ≠ "java/lang/invoke/MethodHandle" ∧ yX4_giveBack.cls ≠ "java/lang/invoke/VarHandle" ∧ (parseMethodDescriptor yX4_giveBack.desc).map (fun d => d.parameters.length) = some 1 := ⟨rfl, by decide +kernel, by decide +kernel, by decide +kernel⟩
theorem hd_X4_held : yX4_held.cls = RX4 ∧ yX4_held.cls ≠ "java/lang/invoke/MethodHandle" ∧ yX4_held.cls ≠ "java/lang/invoke/VarHandle" ∧ (parseMethodDescriptor yX4_held.desc).map (fun d => d.parameters.length) = some 0 := ⟨rfl, by decide +kernel, by decide +kernel, by decide +kernel⟩
theorem hd_X4_setAside : yX4_setAside.cls = RX4 ∧ yX4_setAside.cls ≠ "java/lang/invoke/MethodHandle" ∧ yX4_setAside.cls ≠ "java/lang/invoke/VarHandle" ∧ (parseMethodDescriptor yX4_setAside.desc).map (fun d => d.parameters.length) = some 1 := ⟨rfl, by decide +kernel, by decide +kernel, by decide +kernel⟩
theorem hd_X5_ageOf : yX5_ageOf.cls = RX5 ∧ yX5_ageOf.cls ≠ "java/lang/invoke/MethodHandle" ∧ yX5_ageOf.cls ≠ "java/lang/invoke/VarHandle" ∧ (parseMethodDescriptor yX5_ageOf.desc).map (fun d => d.parameters.length) = some 1 := ⟨rfl, by decide +kernel, by decide +kernel, by decide +kernel⟩
theorem hd_X5_areTwoTowns : yX5_areTwoTowns.cls = RX5 ∧ yX5_areTwoTowns.cls ≠ "java/lang/invoke/MethodHandle" ∧ yX5_areTwoTowns.cls ≠ "java/lang/invoke/VarHandle" ∧ (parseMethodDescriptor yX5_areTwoTowns.desc).map (fun d => d.parameters.length) = some 2 := ⟨rfl, by decide +kernel, by decide +kernel, by decide +kernel⟩
theorem hd_X5_armOf : yX5_armOf.cls = RX5 ∧ yX5_armOf.cls ≠ "java/lang/invoke/MethodHandle" ∧ yX5_armOf.cls ≠ "java/lang/invoke/VarHandle" ∧ (parseMethodDescriptor yX5_armOf.desc).map (fun d => d.parameters.length) = some 2 := ⟨rfl, by decide +kernel, by decide +kernel, by decide +kernel⟩
theorem hd_X5_become : yX5_become.cls = RX5 ∧ yX5_become.cls ≠ "java/lang/invoke/MethodHandle" ∧ yX5_become.cls ≠ "java/lang/invoke/VarHandle" ∧ (parseMethodDescriptor yX5_become.desc).map (fun d => d.parameters.length) = some 1 := ⟨rfl, by decide +kernel, by decide +kernel, by decide +kernel⟩
theorem hd_X5_clear : yX5_clear.cls = RX5 ∧ yX5_clear.cls ≠ "java/lang/invoke/MethodHandle" ∧ yX5_clear.cls ≠ "java/lang/invoke/VarHandle" ∧ (parseMethodDescriptor yX5_clear.desc).map (fun d => d.parameters.length) = some 0 := ⟨rfl, by decide +kernel, by decide +kernel, by decide +kernel⟩
theorem hd_X5_comeCount : yX5_comeCount.cls = RX5 ∧ yX5_comeCount.cls ≠ "java/lang/invoke/MethodHandle" ∧ yX5_comeCount.cls ≠ "java/lang/invoke/VarHandle" ∧ (parseMethodDescriptor yX5_comeCount.desc).map (fun d => d.parameters.length) = some 0 := ⟨rfl, by decide +kernel, by decide +kernel, by decide +kernel⟩
theorem hd_X5_dropPosts : yX5_dropPosts.cls = RX5 ∧ yX5_dropPosts.cls ≠ "java/lang/invoke/MethodHandle" ∧ yX5_dropPosts.cls ≠ "java/lang/invoke/VarHandle" ∧ (parseMethodDescriptor yX5_dropPosts.desc).map (fun d => d.parameters.length) = some 0 := ⟨rfl, by decide +kernel, by decide +kernel, by decide +kernel⟩
theorem hd_X5_goalOf : yX5_goalOf.cls = RX5 ∧ yX5_goalOf.cls ≠ "java/lang/invoke/MethodHandle" ∧ yX5_goalOf.cls ≠ "java/lang/invoke/VarHandle" ∧ (parseMethodDescriptor yX5_goalOf.desc).map (fun d => d.parameters.length) = some 1 := ⟨rfl, by decide +kernel, by decide +kernel, by decide +kernel⟩
theorem hd_X5_hasCome : yX5_hasCome.cls = RX5 ∧ yX5_hasCome.cls ≠ "java/lang/invoke/MethodHandle" ∧ yX5_hasCome.cls ≠ "java/lang/invoke/VarHandle" ∧ (parseMethodDescriptor yX5_hasCome.desc).map (fun d => d.parameters.length) = some 1 := ⟨rfl, by decide +kernel, by decide +kernel, by decide +kernel⟩
theorem hd_X5_hour : yX5_hour.cls = RX5 ∧ yX5_hour.cls ≠ "java/lang/invoke/MethodHandle" ∧ yX5_hour.cls ≠ "java/lang/invoke/VarHandle" ∧ (parseMethodDescriptor yX5_hour.desc).map (fun d => d.parameters.length) = some 0 := ⟨rfl, by decide +kernel, by decide +kernel, by decide +kernel⟩
theorem hd_X5_isPost : yX5_isPost.cls = RX5 ∧ yX5_isPost.cls ≠ "java/lang/invoke/MethodHandle" ∧ yX5_isPost.cls ≠ "java/lang/invoke/VarHandle" ∧ (parseMethodDescriptor yX5_isPost.desc).map (fun d => d.parameters.length) = some 1 := ⟨rfl, by decide +kernel, by decide +kernel, by decide +kernel⟩
theorem hd_X5_isRetired : yX5_isRetired.cls = RX5 ∧ yX5_isRetired.cls ≠ "java/lang/invoke/MethodHandle" ∧ yX5_isRetired.cls ≠ "java/lang/invoke/VarHandle" ∧ (parseMethodDescriptor yX5_isRetired.desc).map (fun d => d.parameters.length) = some 1 := ⟨rfl, by decide +kernel, by decide +kernel, by decide +kernel⟩
theorem hd_X5_isTown : yX5_isTown.cls = RX5 ∧ yX5_isTown.cls ≠ "java/lang/invoke/MethodHandle" ∧ yX5_isTown.cls ≠ "java/lang/invoke/VarHandle" ∧ (parseMethodDescriptor yX5_isTown.desc).map (fun d => d.parameters.length) = some 1 := ⟨rfl, by decide +kernel, by decide +kernel, by decide +kernel⟩
theorem hd_X5_isWalker : yX5_isWalker.cls = RX5 ∧ yX5_isWalker.cls ≠ "java/lang/invoke/MethodHandle" ∧ yX5_isWalker.cls ≠ "java/lang/invoke/VarHandle" ∧ (parseMethodDescriptor yX5_isWalker.desc).map (fun d => d.parameters.length) = some 1 := ⟨rfl, by decide +kernel, by decide +kernel, by decide +kernel⟩
theorem hd_X5_kindOf : yX5_kindOf.cls = RX5 ∧ yX5_kindOf.cls ≠ "java/lang/invoke/MethodHandle" ∧ yX5_kindOf.cls ≠ "java/lang/invoke/VarHandle" ∧ (parseMethodDescriptor yX5_kindOf.desc).map (fun d => d.parameters.length) = some 1 := ⟨rfl, by decide +kernel, by decide +kernel, by decide +kernel⟩
theorem hd_X5_lowestPostIn : yX5_lowestPostIn.cls = RX5 ∧ yX5_lowestPostIn.cls ≠ "java/lang/invoke/MethodHandle" ∧ yX5_lowestPostIn.cls ≠ "java/lang/invoke/VarHandle" ∧ (parseMethodDescriptor yX5_lowestPostIn.desc).map (fun d => d.parameters.length) = some 1 := ⟨rfl, by decide +kernel, by decide +kernel, by decide +kernel⟩
theorem hd_X5_milesOf : yX5_milesOf.cls = RX5 ∧ yX5_milesOf.cls ≠ "java/lang/invoke/MethodHandle" ∧ yX5_milesOf.cls ≠ "java/lang/invoke/VarHandle" ∧ (parseMethodDescriptor yX5_milesOf.desc).map (fun d => d.parameters.length) = some 2 := ⟨rfl, by decide +kernel, by decide +kernel, by decide +kernel⟩
theorem hd_X5_movePost : yX5_movePost.cls = RX5 ∧ yX5_movePost.cls ≠ "java/lang/invoke/MethodHandle" ∧ yX5_movePost.cls ≠ "java/lang/invoke/VarHandle" ∧ (parseMethodDescriptor yX5_movePost.desc).map (fun d => d.parameters.length) = some 2 := ⟨rfl, by decide +kernel, by decide +kernel, by decide +kernel⟩
theorem hd_X5_noneRetired : yX5_noneRetired.cls = RX5 ∧ yX5_noneRetired.cls ≠ "java/lang/invoke/MethodHandle" ∧ yX5_noneRetired.cls ≠ "java/lang/invoke/VarHandle" ∧ (parseMethodDescriptor yX5_noneRetired.desc).map (fun d => d.parameters.length) = some 1 := ⟨rfl, by decide +kernel, by decide +kernel, by decide +kernel⟩
theorem hd_X5_paintPost : yX5_paintPost.cls = RX5 ∧ yX5_paintPost.cls ≠ "java/lang/invoke/MethodHandle" ∧ yX5_paintPost.cls ≠ "java/lang/invoke/VarHandle" ∧ (parseMethodDescriptor yX5_paintPost.desc).map (fun d => d.parameters.length) = some 1 := ⟨rfl, by decide +kernel, by decide +kernel, by decide +kernel⟩
theorem hd_X5_passHours : yX5_passHours.cls = RX5 ∧ yX5_passHours.cls ≠ "java/lang/invoke/MethodHandle" ∧ yX5_passHours.cls ≠ "java/lang/invoke/VarHandle" ∧ (parseMethodDescriptor yX5_passHours.desc).map (fun d => d.parameters.length) = some 1 := ⟨rfl, by decide +kernel, by decide +kernel, by decide +kernel⟩
theorem hd_X5_passYear : yX5_passYear.cls = RX5 ∧ yX5_passYear.cls ≠ "java/lang/invoke/MethodHandle" ∧ yX5_passYear.cls ≠ "java/lang/invoke/VarHandle" ∧ (parseMethodDescriptor yX5_passYear.desc).map (fun d => d.parameters.length) = some 0 := ⟨rfl, by decide +kernel, by decide +kernel, by decide +kernel⟩
theorem hd_X5_placeOf : yX5_placeOf.cls = RX5 ∧ yX5_placeOf.cls ≠ "java/lang/invoke/MethodHandle" ∧ yX5_placeOf.cls ≠ "java/lang/invoke/VarHandle" ∧ (parseMethodDescriptor yX5_placeOf.desc).map (fun d => d.parameters.length) = some 1 := ⟨rfl, by decide +kernel, by decide +kernel, by decide +kernel⟩
theorem hd_X5_pointing : yX5_pointing.cls = RX5 ∧ yX5_pointing.cls ≠ "java/lang/invoke/MethodHandle" ∧ yX5_pointing.cls ≠ "java/lang/invoke/VarHandle" ∧ (parseMethodDescriptor yX5_pointing.desc).map (fun d => d.parameters.length) = some 2 := ⟨rfl, by decide +kernel, by decide +kernel, by decide +kernel⟩
theorem hd_X5_posts : yX5_posts.cls = RX5 ∧ yX5_posts.cls ≠ "java/lang/invoke/MethodHandle" ∧ yX5_posts.cls ≠ "java/lang/invoke/VarHandle" ∧ (parseMethodDescriptor yX5_posts.desc).map (fun d => d.parameters.length) = some 0 := ⟨rfl, by decide +kernel, by decide +kernel, by decide +kernel⟩
theorem hd_X5_retirePost : yX5_retirePost.cls = RX5 ∧ yX5_retirePost.cls ≠ "java/lang/invoke/MethodHandle" ∧ yX5_retirePost.cls ≠ "java/lang/invoke/VarHandle" ∧ (parseMethodDescriptor yX5_retirePost.desc).map (fun d => d.parameters.length) = some 1 := ⟨rfl, by decide +kernel, by decide +kernel, by decide +kernel⟩
theorem hd_X5_retiredCount : yX5_retiredCount.cls = RX5 ∧ yX5_retiredCount.cls ≠ "java/lang/invoke/MethodHandle" ∧ yX5_retiredCount.cls ≠ "java/lang/invoke/VarHandle" ∧ (parseMethodDescriptor yX5_retiredCount.desc).map (fun d => d.parameters.length) = some 0 := ⟨rfl, by decide +kernel, by decide +kernel, by decide +kernel⟩
theorem hd_X5_roads : yX5_roads.cls = RX5 ∧ yX5_roads.cls ≠ "java/lang/invoke/MethodHandle" ∧ yX5_roads.cls ≠ "java/lang/invoke/VarHandle" ∧ (parseMethodDescriptor yX5_roads.desc).map (fun d => d.parameters.length) = some 0 := ⟨rfl, by decide +kernel, by decide +kernel, by decide +kernel⟩
theorem hd_X5_standPlain : yX5_standPlain.cls = RX5 ∧ yX5_standPlain.cls ≠ "java/lang/invoke/MethodHandle" ∧ yX5_standPlain.cls ≠ "java/lang/invoke/VarHandle" ∧ (parseMethodDescriptor yX5_standPlain.desc).map (fun d => d.parameters.length) = some 1 := ⟨rfl, by decide +kernel, by decide +kernel, by decide +kernel⟩
theorem hd_X5_stepFrom : yX5_stepFrom.cls = RX5 ∧ yX5_stepFrom.cls ≠ "java/lang/invoke/MethodHandle" ∧ yX5_stepFrom.cls ≠ "java/lang/invoke/VarHandle" ∧ (parseMethodDescriptor yX5_stepFrom.desc).map (fun d => d.parameters.length) = some 2 := ⟨rfl, by decide +kernel, by decide +kernel, by decide +kernel⟩
theorem hd_X5_tellPost : yX5_tellPost.cls = RX5 ∧ yX5_tellPost.cls ≠ "java/lang/invoke/MethodHandle" ∧ yX5_tellPost.cls ≠ "java/lang/invoke/VarHandle" ∧ (parseMethodDescriptor yX5_tellPost.desc).map (fun d => d.parameters.length) = some 3 := ⟨rfl, by decide +kernel, by decide +kernel, by decide +kernel⟩
theorem hd_X5_tellRoad : yX5_tellRoad.cls = RX5 ∧ yX5_tellRoad.cls ≠ "java/lang/invoke/MethodHandle" ∧ yX5_tellRoad.cls ≠ "java/lang/invoke/VarHandle" ∧ (parseMethodDescriptor yX5_tellRoad.desc).map (fun d => d.parameters.length) = some 3 := ⟨rfl, by decide +kernel, by decide +kernel, by decide +kernel⟩
theorem hd_X5_tellTowns : yX5_tellTowns.cls = RX5 ∧ yX5_tellTowns.cls ≠ "java/lang/invoke/MethodHandle" ∧ yX5_tellTowns.cls ≠ "java/lang/invoke/VarHandle" ∧ (parseMethodDescriptor yX5_tellTowns.desc).map (fun d => d.parameters.length) = some 1 := ⟨rfl, by decide +kernel, by decide +kernel, by decide +kernel⟩
theorem hd_X5_tellWalker : yX5_tellWalker.cls = RX5 ∧ yX5_tellWalker.cls ≠ "java/lang/invoke/MethodHandle" ∧ yX5_tellWalker.cls ≠ "java/lang/invoke/VarHandle" ∧ (parseMethodDescriptor yX5_tellWalker.desc).map (fun d => d.parameters.length) = some 2 := ⟨rfl, by decide +kernel, by decide +kernel, by decide +kernel⟩
theorem hd_X5_townOf : yX5_townOf.cls = RX5 ∧ yX5_townOf.cls ≠ "java/lang/invoke/MethodHandle" ∧ yX5_townOf.cls ≠ "java/lang/invoke/VarHandle" ∧ (parseMethodDescriptor yX5_townOf.desc).map (fun d => d.parameters.length) = some 1 := ⟨rfl, by decide +kernel, by decide +kernel, by decide +kernel⟩
theorem hd_X5_towns : yX5_towns.cls = RX5 ∧ yX5_towns.cls ≠ "java/lang/invoke/MethodHandle" ∧ yX5_towns.cls ≠ "java/lang/invoke/VarHandle" ∧ (parseMethodDescriptor yX5_towns.desc).map (fun d => d.parameters.length) = some 0 := ⟨rfl, by decide +kernel, by decide +kernel, by decide +kernel⟩
theorem hd_X5_turnInto : yX5_turnInto.cls = RX5 ∧ yX5_turnInto.cls ≠ "java/lang/invoke/MethodHandle" ∧ yX5_turnInto.cls ≠ "java/lang/invoke/VarHandle" ∧ (parseMethodDescriptor yX5_turnInto.desc).map (fun d => d.parameters.length) = some 2 := ⟨rfl, by decide +kernel, by decide +kernel, by decide +kernel⟩
theorem hd_X5_turnsOf : yX5_turnsOf.cls = RX5 ∧ yX5_turnsOf.cls ≠ "java/lang/invoke/MethodHandle" ∧ yX5_turnsOf.cls ≠ "java/lang/invoke/VarHandle" ∧ (parseMethodDescriptor yX5_turnsOf.desc).map (fun d => d.parameters.length) = some 1 := ⟨rfl, by decide +kernel, by decide +kernel, by decide +kernel⟩
theorem hd_X5_twist : yX5_twist.cls = RX5 ∧ yX5_twist.cls ≠ "java/lang/invoke/MethodHandle" ∧ yX5_twist.cls ≠ "java/lang/invoke/VarHandle" ∧ (parseMethodDescriptor yX5_twist.desc).map (fun d => d.parameters.length) = some 1 := ⟨rfl, by decide +kernel, by decide +kernel, by decide +kernel⟩
theorem hd_X5_walkers : yX5_walkers.cls = RX5 ∧ yX5_walkers.cls ≠ "java/lang/invoke/MethodHandle" ∧ yX5_walkers.cls ≠ "java/lang/invoke/VarHandle" ∧ (parseMethodDescriptor yX5_walkers.desc).map (fun d => d.parameters.length) = some 0 := ⟨rfl, by decide +kernel, by decide +kernel, by decide +kernel⟩
theorem hd_X5_years : yX5_years.cls = RX5 ∧ yX5_years.cls ≠ "java/lang/invoke/MethodHandle" ∧ yX5_years.cls ≠ "java/lang/invoke/VarHandle" ∧ (parseMethodDescriptor yX5_years.desc).map (fun d => d.parameters.length) = some 0 := ⟨rfl, by decide +kernel, by decide +kernel, by decide +kernel⟩
theorem hd_X6_actByDraw : yX6_actByDraw.cls = RX6 ∧ yX6_actByDraw.cls ≠ "java/lang/invoke/MethodHandle" ∧ yX6_actByDraw.cls ≠ "java/lang/invoke/VarHandle" ∧ (parseMethodDescriptor yX6_actByDraw.desc).map (fun d => d.parameters.length) = some 1 := ⟨rfl, by decide +kernel, by decide +kernel, by decide +kernel⟩
theorem hd_X6_alikeWith : yX6_alikeWith.cls = RX6 ∧ yX6_alikeWith.cls ≠ "java/lang/invoke/MethodHandle" ∧ yX6_alikeWith.cls ≠ "java/lang/invoke/VarHandle" ∧ (parseMethodDescriptor yX6_alikeWith.desc).map (fun d => d.parameters.length) = some 3 := ⟨rfl, by decide +kernel, by decide +kernel, by decide +kernel⟩
theorem hd_X6_arm : yX6_arm.cls = RX6 ∧ yX6_arm.cls ≠ "java/lang/invoke/MethodHandle" ∧ yX6_arm.cls ≠ "java/lang/invoke/VarHandle" ∧ (parseMethodDescriptor yX6_arm.desc).map (fun d => d.parameters.length) = some 3 := ⟨rfl, by decide +kernel, by decide +kernel, by decide +kernel⟩
theorem hd_X6_back : yX6_back.cls = RX6 ∧ yX6_back.cls ≠ "java/lang/invoke/MethodHandle" ∧ yX6_back.cls ≠ "java/lang/invoke/VarHandle" ∧ (parseMethodDescriptor yX6_back.desc).map (fun d => d.parameters.length) = some 0 := ⟨rfl, by decide +kernel, by decide +kernel, by decide +kernel⟩
theorem hd_X6_century : yX6_century.cls = RX6 ∧ yX6_century.cls ≠ "java/lang/invoke/MethodHandle" ∧ yX6_century.cls ≠ "java/lang/invoke/VarHandle" ∧ (parseMethodDescriptor yX6_century.desc).map (fun d => d.parameters.length) = some 3 := ⟨rfl, by decide +kernel, by decide +kernel, by decide +kernel⟩
theorem hd_X6_comersHelpedIn : yX6_comersHelpedIn.cls = RX6 ∧ yX6_comersHelpedIn.cls ≠ "java/lang/invoke/MethodHandle" ∧ yX6_comersHelpedIn.cls ≠ "java/lang/invoke/VarHandle" ∧ (parseMethodDescriptor yX6_comersHelpedIn.desc).map (fun d => d.parameters.length) = some 1 := ⟨rfl, by decide +kernel, by decide +kernel, by decide +kernel⟩
theorem hd_X6_comersPainted : yX6_comersPainted.cls = RX6 ∧ yX6_comersPainted.cls ≠ "java/lang/invoke/MethodHandle" ∧ yX6_comersPainted.cls ≠ "java/lang/invoke/VarHandle" ∧ (parseMethodDescriptor yX6_comersPainted.desc).map (fun d => d.parameters.length) = some 1 := ⟨rfl, by decide +kernel, by decide +kernel, by decide +kernel⟩
theorem hd_X6_comes : yX6_comes.cls = RX6 ∧ yX6_comes.cls ≠ "java/lang/invoke/MethodHandle" ∧ yX6_comes.cls ≠ "java/lang/invoke/VarHandle" ∧ (parseMethodDescriptor yX6_comes.desc).map (fun d => d.parameters.length) = some 1 := ⟨rfl, by decide +kernel, by decide +kernel, by decide +kernel⟩
theorem hd_X6_comesTwisted : yX6_comesTwisted.cls = RX6 ∧ yX6_comesTwisted.cls ≠ "java/lang/invoke/MethodHandle" ∧ yX6_comesTwisted.cls ≠ "java/lang/invoke/VarHandle" ∧ (parseMethodDescriptor yX6_comesTwisted.desc).map (fun d => d.parameters.length) = some 2 := ⟨rfl, by decide +kernel, by decide +kernel, by decide +kernel⟩
theorem hd_X6_commonPart : yX6_commonPart.cls ≠ "java/lang/invoke/MethodHandle" ∧ yX6_commonPart.cls ≠ "java/lang/invoke/VarHandle" ∧ (parseMethodDescriptor yX6_commonPart.desc).map (fun d => d.parameters.length) = some 2 := ⟨by decide +kernel, by decide +kernel, by decide +kernel⟩
theorem hd_X6_count : yX6_count.cls = RX6 ∧ yX6_count.cls ≠ "java/lang/invoke/MethodHandle" ∧ yX6_count.cls ≠ "java/lang/invoke/VarHandle" ∧ (parseMethodDescriptor yX6_count.desc).map (fun d => d.parameters.length) = some 1 := ⟨rfl, by decide +kernel, by decide +kernel, by decide +kernel⟩
theorem hd_X6_cover : yX6_cover.cls = RX6 ∧ yX6_cover.cls ≠ "java/lang/invoke/MethodHandle" ∧ yX6_cover.cls ≠ "java/lang/invoke/VarHandle" ∧ (parseMethodDescriptor yX6_cover.desc).map (fun d => d.parameters.length) = some 1 := ⟨rfl, by decide +kernel, by decide +kernel, by decide +kernel⟩
theorem hd_X6_drawn : yX6_drawn.cls ≠ "java/lang/invoke/MethodHandle" ∧ yX6_drawn.cls ≠ "java/lang/invoke/VarHandle" ∧ (parseMethodDescriptor yX6_drawn.desc).map (fun d => d.parameters.length) = some 2 := ⟨by decide +kernel, by decide +kernel, by decide +kernel⟩
theorem hd_X6_far : yX6_far.cls = RX6 ∧ yX6_far.cls ≠ "java/lang/invoke/MethodHandle" ∧ yX6_far.cls ≠ "java/lang/invoke/VarHandle" ∧ (parseMethodDescriptor yX6_far.desc).map (fun d => d.parameters.length) = some 2 := ⟨rfl, by decide +kernel, by decide +kernel, by decide +kernel⟩
theorem hd_X6_fitsSightings : yX6_fitsSightings.cls = RX6 ∧ yX6_fitsSightings.cls ≠ "java/lang/invoke/MethodHandle" ∧ yX6_fitsSightings.cls ≠ "java/lang/invoke/VarHandle" ∧ (parseMethodDescriptor yX6_fitsSightings.desc).map (fun d => d.parameters.length) = some 1 := ⟨rfl, by decide +kernel, by decide +kernel, by decide +kernel⟩
theorem hd_X6_forget : yX6_forget.cls = RX6 ∧ yX6_forget.cls ≠ "java/lang/invoke/MethodHandle" ∧ yX6_forget.cls ≠ "java/lang/invoke/VarHandle" ∧ (parseMethodDescriptor yX6_forget.desc).map (fun d => d.parameters.length) = some 0 := ⟨rfl, by decide +kernel, by decide +kernel, by decide +kernel⟩
theorem hd_X6_hasBit : yX6_hasBit.cls ≠ "java/lang/invoke/MethodHandle" ∧ yX6_hasBit.cls ≠ "java/lang/invoke/VarHandle" ∧ (parseMethodDescriptor yX6_hasBit.desc).map (fun d => d.parameters.length) = some 2 := ⟨by decide +kernel, by decide +kernel, by decide +kernel⟩
theorem hd_X6_helps : yX6_helps.cls = RX6 ∧ yX6_helps.cls ≠ "java/lang/invoke/MethodHandle" ∧ yX6_helps.cls ≠ "java/lang/invoke/VarHandle" ∧ (parseMethodDescriptor yX6_helps.desc).map (fun d => d.parameters.length) = some 1 := ⟨rfl, by decide +kernel, by decide +kernel, by decide +kernel⟩
theorem hd_X6_isCover : yX6_isCover.cls = RX6 ∧ yX6_isCover.cls ≠ "java/lang/invoke/MethodHandle" ∧ yX6_isCover.cls ≠ "java/lang/invoke/VarHandle" ∧ (parseMethodDescriptor yX6_isCover.desc).map (fun d => d.parameters.length) = some 1 := ⟨rfl, by decide +kernel, by decide +kernel, by decide +kernel⟩
theorem hd_X6_keep : yX6_keep.cls = RX6 ∧ yX6_keep.cls ≠ "java/lang/invoke/MethodHandle" ∧ yX6_keep.cls ≠ "java/lang/invoke/VarHandle" ∧ (parseMethodDescriptor yX6_keep.desc).map (fun d => d.parameters.length) = some 0 := ⟨rfl, by decide +kernel, by decide +kernel, by decide +kernel⟩
theorem hd_X6_kinds : yX6_kinds.cls = RX6 ∧ yX6_kinds.cls ≠ "java/lang/invoke/MethodHandle" ∧ yX6_kinds.cls ≠ "java/lang/invoke/VarHandle" ∧ (parseMethodDescriptor yX6_kinds.desc).map (fun d => d.parameters.length) = some 1 := ⟨rfl, by decide +kernel, by decide +kernel, by decide +kernel⟩
theorem hd_X6_layOrClose : yX6_layOrClose.cls = RX6 ∧ yX6_layOrClose.cls ≠ "java/lang/invoke/MethodHandle" ∧ yX6_layOrClose.cls ≠ "java/lang/invoke/VarHandle" ∧ (parseMethodDescriptor yX6_layOrClose.desc).map (fun d => d.parameters.length) = some 2 := ⟨rfl, by decide +kernel, by decide +kernel, by decide +kernel⟩
theorem hd_X6_lays : yX6_lays.cls = RX6 ∧ yX6_lays.cls ≠ "java/lang/invoke/MethodHandle" ∧ yX6_lays.cls ≠ "java/lang/invoke/VarHandle" ∧ (parseMethodDescriptor yX6_lays.desc).map (fun d => d.parameters.length) = some 3 := ⟨rfl, by decide +kernel, by decide +kernel, by decide +kernel⟩
theorem hd_X6_likely : yX6_likely.cls = RX6 ∧ yX6_likely.cls ≠ "java/lang/invoke/MethodHandle" ∧ yX6_likely.cls ≠ "java/lang/invoke/VarHandle" ∧ (parseMethodDescriptor yX6_likely.desc).map (fun d => d.parameters.length) = some 3 := ⟨rfl, by decide +kernel, by decide +kernel, by decide +kernel⟩
theorem hd_X6_lost : yX6_lost.cls = RX6 ∧ yX6_lost.cls ≠ "java/lang/invoke/MethodHandle" ∧ yX6_lost.cls ≠ "java/lang/invoke/VarHandle" ∧ (parseMethodDescriptor yX6_lost.desc).map (fun d => d.parameters.length) = some 0 := ⟨rfl, by decide +kernel, by decide +kernel, by decide +kernel⟩
theorem hd_X6_mostAlike : yX6_mostAlike.cls = RX6 ∧ yX6_mostAlike.cls ≠ "java/lang/invoke/MethodHandle" ∧ yX6_mostAlike.cls ≠ "java/lang/invoke/VarHandle" ∧ (parseMethodDescriptor yX6_mostAlike.desc).map (fun d => d.parameters.length) = some 2 := ⟨rfl, by decide +kernel, by decide +kernel, by decide +kernel⟩
theorem hd_X6_move : yX6_move.cls = RX6 ∧ yX6_move.cls ≠ "java/lang/invoke/MethodHandle" ∧ yX6_move.cls ≠ "java/lang/invoke/VarHandle" ∧ (parseMethodDescriptor yX6_move.desc).map (fun d => d.parameters.length) = some 2 := ⟨rfl, by decide +kernel, by decide +kernel, by decide +kernel⟩
theorem hd_X6_next : yX6_next.cls = RX6 ∧ yX6_next.cls ≠ "java/lang/invoke/MethodHandle" ∧ yX6_next.cls ≠ "java/lang/invoke/VarHandle" ∧ (parseMethodDescriptor yX6_next.desc).map (fun d => d.parameters.length) = some 0 := ⟨rfl, by decide +kernel, by decide +kernel, by decide +kernel⟩
theorem hd_X6_paint : yX6_paint.cls = RX6 ∧ yX6_paint.cls ≠ "java/lang/invoke/MethodHandle" ∧ yX6_paint.cls ≠ "java/lang/invoke/VarHandle" ∧ (parseMethodDescriptor yX6_paint.desc).map (fun d => d.parameters.length) = some 1 := ⟨rfl, by decide +kernel, by decide +kernel, by decide +kernel⟩
theorem hd_X6_paints : yX6_paints.cls = RX6 ∧ yX6_paints.cls ≠ "java/lang/invoke/MethodHandle" ∧ yX6_paints.cls ≠ "java/lang/invoke/VarHandle" ∧ (parseMethodDescriptor yX6_paints.desc).map (fun d => d.parameters.length) = some 1 := ⟨rfl, by decide +kernel, by decide +kernel, by decide +kernel⟩
theorem hd_X6_pass : yX6_pass.cls = RX6 ∧ yX6_pass.cls ≠ "java/lang/invoke/MethodHandle" ∧ yX6_pass.cls ≠ "java/lang/invoke/VarHandle" ∧ (parseMethodDescriptor yX6_pass.desc).map (fun d => d.parameters.length) = some 1 := ⟨rfl, by decide +kernel, by decide +kernel, by decide +kernel⟩
theorem hd_X6_post : yX6_post.cls = RX6 ∧ yX6_post.cls ≠ "java/lang/invoke/MethodHandle" ∧ yX6_post.cls ≠ "java/lang/invoke/VarHandle" ∧ (parseMethodDescriptor yX6_post.desc).map (fun d => d.parameters.length) = some 2 := ⟨rfl, by decide +kernel, by decide +kernel, by decide +kernel⟩
theorem hd_X6_retire : yX6_retire.cls = RX6 ∧ yX6_retire.cls ≠ "java/lang/invoke/MethodHandle" ∧ yX6_retire.cls ≠ "java/lang/invoke/VarHandle" ∧ (parseMethodDescriptor yX6_retire.desc).map (fun d => d.parameters.length) = some 1 := ⟨rfl, by decide +kernel, by decide +kernel, by decide +kernel⟩
theorem hd_X6_road : yX6_road.cls = RX6 ∧ yX6_road.cls ≠ "java/lang/invoke/MethodHandle" ∧ yX6_road.cls ≠ "java/lang/invoke/VarHandle" ∧ (parseMethodDescriptor yX6_road.desc).map (fun d => d.parameters.length) = some 2 := ⟨rfl, by decide +kernel, by decide +kernel, by decide +kernel⟩
theorem hd_X6_seen : yX6_seen.cls = RX6 ∧ yX6_seen.cls ≠ "java/lang/invoke/MethodHandle" ∧ yX6_seen.cls ≠ "java/lang/invoke/VarHandle" ∧ (parseMethodDescriptor yX6_seen.desc).map (fun d => d.parameters.length) = some 3 := ⟨rfl, by decide +kernel, by decide +kernel, by decide +kernel⟩
theorem hd_X6_stood : yX6_stood.cls = RX6 ∧ yX6_stood.cls ≠ "java/lang/invoke/MethodHandle" ∧ yX6_stood.cls ≠ "java/lang/invoke/VarHandle" ∧ (parseMethodDescriptor yX6_stood.desc).map (fun d => d.parameters.length) = some 0 := ⟨rfl, by decide +kernel, by decide +kernel, by decide +kernel⟩
theorem hd_X6_tellAlike : yX6_tellAlike.cls = RX6 ∧ yX6_tellAlike.cls ≠ "java/lang/invoke/MethodHandle" ∧ yX6_tellAlike.cls ≠ "java/lang/invoke/VarHandle" ∧ (parseMethodDescriptor yX6_tellAlike.desc).map (fun d => d.parameters.length) = some 3 := ⟨rfl, by decide +kernel, by decide +kernel, by decide +kernel⟩
theorem hd_X6_tellsAll : yX6_tellsAll.cls = RX6 ∧ yX6_tellsAll.cls ≠ "java/lang/invoke/MethodHandle" ∧ yX6_tellsAll.cls ≠ "java/lang/invoke/VarHandle" ∧ (parseMethodDescriptor yX6_tellsAll.desc).map (fun d => d.parameters.length) = some 1 := ⟨rfl, by decide +kernel, by decide +kernel, by decide +kernel⟩
theorem hd_X6_told : yX6_told.cls = RX6 ∧ yX6_told.cls ≠ "java/lang/invoke/MethodHandle" ∧ yX6_told.cls ≠ "java/lang/invoke/VarHandle" ∧ (parseMethodDescriptor yX6_told.desc).map (fun d => d.parameters.length) = some 3 := ⟨rfl, by decide +kernel, by decide +kernel, by decide +kernel⟩
theorem hd_X6_trail : yX6_trail.cls = RX6 ∧ yX6_trail.cls ≠ "java/lang/invoke/MethodHandle" ∧ yX6_trail.cls ≠ "java/lang/invoke/VarHandle" ∧ (parseMethodDescriptor yX6_trail.desc).map (fun d => d.parameters.length) = some 2 := ⟨rfl, by decide +kernel, by decide +kernel, by decide +kernel⟩
theorem hd_X6_undo : yX6_undo.cls = RX6 ∧ yX6_undo.cls ≠ "java/lang/invoke/MethodHandle" ∧ yX6_undo.cls ≠ "java/lang/invoke/VarHandle" ∧ (parseMethodDescriptor yX6_undo.desc).map (fun d => d.parameters.length) = some 0 := ⟨rfl, by decide +kernel, by decide +kernel, by decide +kernel⟩
theorem hd_X6_walker : yX6_walker.cls = RX6 ∧ yX6_walker.cls ≠ "java/lang/invoke/MethodHandle" ∧ yX6_walker.cls ≠ "java/lang/invoke/VarHandle" ∧ (parseMethodDescriptor yX6_walker.desc).map (fun d => d.parameters.length) = some 2 := ⟨rfl, by decide +kernel, by decide +kernel, by decide +kernel⟩
theorem hd_X6_weightOf : yX6_weightOf.cls = RX6 ∧ yX6_weightOf.cls ≠ "java/lang/invoke/MethodHandle" ∧ yX6_weightOf.cls ≠ "java/lang/invoke/VarHandle" ∧ (parseMethodDescriptor yX6_weightOf.desc).map (fun d => d.parameters.length) = some 2 := ⟨rfl, by decide +kernel, by decide +kernel, by decide +kernel⟩
theorem hd_X6_write : yX6_write.cls = RX6 ∧ yX6_write.cls ≠ "java/lang/invoke/MethodHandle" ∧ yX6_write.cls ≠ "java/lang/invoke/VarHandle" ∧ (parseMethodDescriptor yX6_write.desc).map (fun d => d.parameters.length) = some 1 := ⟨rfl, by decide +kernel, by decide +kernel, by decide +kernel⟩
theorem hd_X6_year : yX6_year.cls = RX6 ∧ yX6_year.cls ≠ "java/lang/invoke/MethodHandle" ∧ yX6_year.cls ≠ "java/lang/invoke/VarHandle" ∧ (parseMethodDescriptor yX6_year.desc).map (fun d => d.parameters.length) = some 0 := ⟨rfl, by decide +kernel, by decide +kernel, by decide +kernel⟩
theorem c_X5_roads (l : Launch) (D : va_G) (w : Wv) (σ : Sg) (o : Nat) (ho : isY o) : Met l yX5_roads (.code yX5_roads cX5_roads 1 (some (.object "SignpostYard$Roads")) :: TB) (rmW 0 0) (pcW D w [.ref (w.1 (o))] σ) (qrW D w (o + 1) σ) 0 0 (AL w) := by
  refine q_open (by decide +kernel) (Nat.le_of_ble_eq_true rfl) ?_
  intro p e s m args below meth c ls hx hb hml hr hlk hown hts hK hP hS hl
  have hown : s.vm.findClass RX5 = some m.cls := hown
  have hl : lv_has ls 1 [(0, .ref (w.1 (o)))] := hl
  refine lv_aload_n hx hb dX5_roads_0 rfl (lv_at hl 0 rfl) ?_
  refine gt_X5_12 hx hb hts hown hK hP ho.o ho.k dX5_roads_1 ?_
  exact q_aret hx hb hr hlk hP hS rfl dX5_roads_4
