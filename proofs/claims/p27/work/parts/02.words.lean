/-! ===== the words of the tables by their places ===== -/
theorem inA0 : ∀ w ∈ wsX00, w ∈ AL := AL_of _ [147, 149, 151, 153, 155, 157] (by decide +kernel) (by decide +kernel)
theorem inA1 : ∀ w ∈ wsX10, w ∈ AL := AL_of _ [124] (by decide +kernel) (by decide +kernel)
theorem inA2 : ∀ w ∈ wsX20, w ∈ AL := AL_of _ [251, 253, 255, 257, 259, 261] (by decide +kernel) (by decide +kernel)
theorem inA3 : ∀ w ∈ wsX30, w ∈ AL := AL_of _ [279, 281, 283, 285] (by decide +kernel) (by decide +kernel)
theorem inA4 : ∀ w ∈ wsX40, w ∈ AL := AL_of _ [231, 233, 235, 237] (by decide +kernel) (by decide +kernel)
theorem inA5 : ∀ w ∈ wsX50, w ∈ AL := AL_of _ [296, 298, 300, 302] (by decide +kernel) (by decide +kernel)
theorem inA6 : ∀ w ∈ wsX60, w ∈ AL := AL_of _ [53, 55, 57, 59, 61, 63, 65] (by decide +kernel) (by decide +kernel)
theorem inA7 : ∀ w ∈ wsX70, w ∈ AL := AL_of _ [100, 102, 104, 106, 108, 110, 112, 114] (by decide +kernel) (by decide +kernel)
theorem inA8 : ∀ w ∈ wsX80, w ∈ AL := AL_of _ [184, 186, 188, 190, 192, 194, 196, 198, 200, 202, 204, 206, 208, 210, 212, 214, 216] (by decide +kernel) (by decide +kernel)
theorem inA9 : ∀ w ∈ wsX90, w ∈ AL := AL_of _ [319, 321, 323, 325, 327, 329, 331, 333, 335, 337, 339, 341] (by decide +kernel) (by decide +kernel)
theorem tk_0 : ∀ w ∈ k2_sels lw_privs, w ∈ lw_tbl := fun w h => List.mem_append_left _ h
theorem tk_1 : ∀ w ∈ tables_1_1, w ∈ lw_tbl := fun w h => List.mem_append_right _ (List.mem_append_left _ h)
theorem tk_2 : ∀ w ∈ tables_1_2, w ∈ lw_tbl := fun w h => List.mem_append_right _ (List.mem_append_right _ (List.mem_append_left _ h))
theorem tk_3 : ∀ w ∈ tables_1_3, w ∈ lw_tbl := fun w h => List.mem_append_right _ (List.mem_append_right _ (List.mem_append_right _ h))
theorem aw_0 : Cond.selects RX6 yX6_takes yX6_takes ∈ AL := AL_in (tk_0 _ (List.mem_of_getElem? (i := 0) rfl)) rfl
theorem aw_1 : Cond.selects RX6 yX6_takesRowEnd yX6_takesRowEnd ∈ AL := AL_in (tk_0 _ (List.mem_of_getElem? (i := 1) rfl)) rfl
theorem aw_2 : Cond.selects RX6 yX6_takesSquare yX6_takesSquare ∈ AL := AL_in (tk_0 _ (List.mem_of_getElem? (i := 2) rfl)) rfl
theorem aw_3 : Cond.selects RX7 yX7_layLetter yX7_layLetter ∈ AL := AL_in (tk_0 _ (List.mem_of_getElem? (i := 3) rfl)) rfl
theorem aw_4 : Cond.selects RX7 yX7_measure yX7_measure ∈ AL := AL_in (tk_0 _ (List.mem_of_getElem? (i := 4) rfl)) rfl
theorem aw_5 : Cond.selects RX7 yX7_openWays yX7_openWays ∈ AL := AL_in (tk_0 _ (List.mem_of_getElem? (i := 5) rfl)) rfl
theorem aw_6 : Cond.selects RX7 yX7_beside yX7_beside ∈ AL := AL_in (tk_0 _ (List.mem_of_getElem? (i := 6) rfl)) rfl
theorem aw_7 : Cond.selects RX9 yX9_isBerg yX9_isBerg ∈ AL := AL_in (tk_0 _ (List.mem_of_getElem? (i := 7) rfl)) rfl
theorem aw_8 : Cond.selects RX9 yX9_hasWay yX9_hasWay ∈ AL := AL_in (tk_0 _ (List.mem_of_getElem? (i := 8) rfl)) rfl
theorem aw_9 : Cond.selects RX8 yX8_isHopeless yX8_isHopeless ∈ AL := AL_in (tk_0 _ (List.mem_of_getElem? (i := 9) rfl)) rfl
theorem aw_10 : Cond.selects RX8 yX8_choose yX8_choose ∈ AL := AL_in (tk_0 _ (List.mem_of_getElem? (i := 10) rfl)) rfl
theorem aw_11 : Cond.selects RX8 yX8_pass yX8_pass ∈ AL := AL_in (tk_0 _ (List.mem_of_getElem? (i := 11) rfl)) rfl
theorem aw_12 : Cond.selects RX8 yX8_daysOfStep yX8_daysOfStep ∈ AL := AL_in (tk_0 _ (List.mem_of_getElem? (i := 12) rfl)) rfl
theorem aw_13 : Cond.selects RX8 yX8_drawnWarmth yX8_drawnWarmth ∈ AL := AL_in (tk_0 _ (List.mem_of_getElem? (i := 13) rfl)) rfl
theorem aw_14 : Cond.selects RX9 yX9_weigh yX9_weigh ∈ AL := AL_in (tk_0 _ (List.mem_of_getElem? (i := 14) rfl)) rfl
theorem aw_15 : Cond.selects RX3 yX3_mostFrom yX3_mostFrom ∈ AL := AL_in (tk_0 _ (List.mem_of_getElem? (i := 15) rfl)) rfl
theorem aw_16 : Cond.selects RX3 yX3_gainBy yX3_gainBy ∈ AL := AL_in (tk_0 _ (List.mem_of_getElem? (i := 16) rfl)) rfl
theorem aw_17 : Cond.selects RX3 yX3_fewestFor yX3_fewestFor ∈ AL := AL_in (tk_0 _ (List.mem_of_getElem? (i := 17) rfl)) rfl
theorem aw_18 : Cond.initialized RL ∈ AL := AL_in (tk_1 _ (List.mem_of_getElem? (i := 0) rfl)) rfl
theorem aw_19 : Cond.initialized RX9 ∈ AL := AL_in (tk_1 _ (List.mem_of_getElem? (i := 1) rfl)) rfl
theorem aw_20 : Cond.initialized RX6 ∈ AL := AL_in (tk_1 _ (List.mem_of_getElem? (i := 2) rfl)) rfl
theorem aw_21 : Cond.initialized RX8 ∈ AL := AL_in (tk_1 _ (List.mem_of_getElem? (i := 3) rfl)) rfl
theorem aw_22 : Cond.initialized RX7 ∈ AL := AL_in (tk_1 _ (List.mem_of_getElem? (i := 4) rfl)) rfl
theorem aw_23 : Cond.initialized RX1 ∈ AL := AL_in (tk_1 _ (List.mem_of_getElem? (i := 5) rfl)) rfl
theorem aw_24 : Cond.initialized RX0 ∈ AL := AL_in (tk_1 _ (List.mem_of_getElem? (i := 6) rfl)) rfl
theorem aw_25 : Cond.initialized RX4 ∈ AL := AL_in (tk_1 _ (List.mem_of_getElem? (i := 7) rfl)) rfl
theorem aw_26 : Cond.initialized RX2 ∈ AL := AL_in (tk_1 _ (List.mem_of_getElem? (i := 8) rfl)) rfl
theorem aw_27 : Cond.initialized RX3 ∈ AL := AL_in (tk_1 _ (List.mem_of_getElem? (i := 9) rfl)) rfl
theorem aw_28 : Cond.initialized RX5 ∈ AL := AL_in (tk_1 _ (List.mem_of_getElem? (i := 10) rfl)) rfl
theorem aw_29 : Cond.initialized "java/lang/Math" ∈ AL := AL_in (tk_1 _ (List.mem_of_getElem? (i := 11) rfl)) rfl
theorem aw_30 : Cond.initialized "java/lang/System" ∈ AL := AL_in (tk_1 _ (List.mem_of_getElem? (i := 12) rfl)) rfl
theorem aw_31 : Cond.classLink RL 19 RX9 ∈ AL := AL_in (tk_1 _ (List.mem_of_getElem? (i := 13) rfl)) rfl
theorem aw_32 : Cond.instantiable RX9 12 ∈ AL := AL_in (tk_1 _ (List.mem_of_getElem? (i := 14) rfl)) rfl
theorem aw_33 : Cond.methodLink RL 47 yX9_init ∈ AL := AL_in (tk_1 _ (List.mem_of_getElem? (i := 15) rfl)) rfl
theorem aw_34 : Cond.instanceMethod yX9_init ∈ AL := AL_in (tk_1 _ (List.mem_of_getElem? (i := 16) rfl)) rfl
theorem aw_35 : Cond.code yX9_init cX9_init 2 none ∈ AL := AL_in (tk_1 _ (List.mem_of_getElem? (i := 17) rfl)) rfl
theorem aw_36 : Cond.methodLink RX9 1 objectInit ∈ AL := AL_in (tk_1 _ (List.mem_of_getElem? (i := 18) rfl)) rfl
theorem aw_37 : Cond.instanceMethod objectInit ∈ AL := AL_in (tk_1 _ (List.mem_of_getElem? (i := 19) rfl)) rfl
theorem aw_38 : Cond.code objectInit ⟨#[0xb1]⟩ 1 none ∈ AL := AL_in (tk_1 _ (List.mem_of_getElem? (i := 20) rfl)) rfl
theorem aw_39 : Cond.classLink RX9 7 RX6 ∈ AL := AL_in (tk_1 _ (List.mem_of_getElem? (i := 21) rfl)) rfl
theorem aw_40 : Cond.instantiable RX6 7 ∈ AL := AL_in (tk_1 _ (List.mem_of_getElem? (i := 22) rfl)) rfl
theorem aw_41 : Cond.methodLinkNest RX9 9 yX6_init "IceForCoast" ∈ NW := NW_in (tk_1 _ (List.mem_of_getElem? (i := 23) rfl)) rfl
theorem aw_42 : Cond.instanceMethod yX6_init ∈ AL := AL_in (tk_1 _ (List.mem_of_getElem? (i := 24) rfl)) rfl
theorem aw_43 : Cond.code yX6_init cX6_init 1 none ∈ AL := AL_in (tk_1 _ (List.mem_of_getElem? (i := 25) rfl)) rfl
theorem aw_44 : Cond.methodLink RX6 3 objectInit ∈ AL := AL_in (tk_1 _ (List.mem_of_getElem? (i := 26) rfl)) rfl
theorem aw_45 : Cond.fieldLink RX6 11 "IceForCoast$Page" "codes" "[I" ∈ AL := AL_in (tk_1 _ (List.mem_of_getElem? (i := 27) rfl)) rfl
theorem aw_46 : Cond.fieldLink RX6 19 "IceForCoast$Page" "length" "I" ∈ AL := AL_in (tk_1 _ (List.mem_of_getElem? (i := 28) rfl)) rfl
theorem aw_47 : Cond.fieldLinkNest RX7 40 "IceForCoast$Page" "length" "I" "IceForCoast" ∈ NW := NW_in (tk_1 _ (List.mem_of_getElem? (i := 29) rfl)) rfl
theorem aw_48 : Cond.fieldLink RX6 23 "IceForCoast$Page" "row" "I" ∈ AL := AL_in (tk_1 _ (List.mem_of_getElem? (i := 30) rfl)) rfl
theorem aw_49 : Cond.fieldLink RX6 26 "IceForCoast$Page" "inRow" "I" ∈ AL := AL_in (tk_1 _ (List.mem_of_getElem? (i := 31) rfl)) rfl
theorem aw_50 : Cond.fieldLink RX6 29 "IceForCoast$Page" "width" "I" ∈ AL := AL_in (tk_1 _ (List.mem_of_getElem? (i := 32) rfl)) rfl
theorem aw_51 : Cond.fieldLink RX6 32 "IceForCoast$Page" "harbours" "I" ∈ AL := AL_in (tk_1 _ (List.mem_of_getElem? (i := 33) rfl)) rfl
theorem aw_52 : Cond.fieldLink RX6 35 "IceForCoast$Page" "currentMayCome" "Z" ∈ AL := AL_in (tk_1 _ (List.mem_of_getElem? (i := 34) rfl)) rfl
theorem aw_68 : Cond.arrayClass .int ∈ AL := AL_in (tk_1 _ (List.mem_of_getElem? (i := 50) rfl)) rfl
theorem aw_69 : Cond.classLink RX9 16 RX8 ∈ AL := AL_in (tk_1 _ (List.mem_of_getElem? (i := 51) rfl)) rfl
theorem aw_70 : Cond.instantiable RX8 17 ∈ AL := AL_in (tk_1 _ (List.mem_of_getElem? (i := 52) rfl)) rfl
theorem aw_71 : Cond.methodLinkNest RX9 18 yX8_init "IceForCoast" ∈ NW := NW_in (tk_1 _ (List.mem_of_getElem? (i := 53) rfl)) rfl
theorem aw_72 : Cond.instanceMethod yX8_init ∈ AL := AL_in (tk_1 _ (List.mem_of_getElem? (i := 54) rfl)) rfl
theorem aw_73 : Cond.code yX8_init cX8_init 1 none ∈ AL := AL_in (tk_1 _ (List.mem_of_getElem? (i := 55) rfl)) rfl
theorem aw_74 : Cond.methodLink RX8 5 objectInit ∈ AL := AL_in (tk_1 _ (List.mem_of_getElem? (i := 56) rfl)) rfl
theorem aw_75 : Cond.classLink RX8 1 RX7 ∈ AL := AL_in (tk_1 _ (List.mem_of_getElem? (i := 57) rfl)) rfl
theorem aw_76 : Cond.instantiable RX7 8 ∈ AL := AL_in (tk_1 _ (List.mem_of_getElem? (i := 58) rfl)) rfl
theorem aw_77 : Cond.methodLinkNest RX8 11 yX7_init "IceForCoast" ∈ NW := NW_in (tk_1 _ (List.mem_of_getElem? (i := 59) rfl)) rfl
theorem aw_78 : Cond.instanceMethod yX7_init ∈ AL := AL_in (tk_1 _ (List.mem_of_getElem? (i := 60) rfl)) rfl
theorem aw_79 : Cond.code yX7_init cX7_init 1 none ∈ AL := AL_in (tk_1 _ (List.mem_of_getElem? (i := 61) rfl)) rfl
theorem aw_80 : Cond.methodLink RX7 5 objectInit ∈ AL := AL_in (tk_1 _ (List.mem_of_getElem? (i := 62) rfl)) rfl
theorem aw_81 : Cond.classLink RX7 24 "[[I" ∈ AL := AL_in (tk_1 _ (List.mem_of_getElem? (i := 63) rfl)) rfl
theorem aw_83 : Cond.fieldLink RX7 11 "IceForCoast$Sea" "warmth" "[I" ∈ AL := AL_in (tk_1 _ (List.mem_of_getElem? (i := 65) rfl)) rfl
theorem aw_84 : Cond.fieldLinkNest RX9 109 "IceForCoast$Sea" "warmth" "[I" "IceForCoast" ∈ NW := NW_in (tk_1 _ (List.mem_of_getElem? (i := 66) rfl)) rfl
theorem aw_85 : Cond.fieldLinkNest RX8 127 "IceForCoast$Sea" "warmth" "[I" "IceForCoast" ∈ NW := NW_in (tk_1 _ (List.mem_of_getElem? (i := 67) rfl)) rfl
theorem aw_86 : Cond.fieldLink RX7 15 "IceForCoast$Sea" "current" "[I" ∈ AL := AL_in (tk_1 _ (List.mem_of_getElem? (i := 68) rfl)) rfl
theorem aw_87 : Cond.fieldLinkNest RX9 113 "IceForCoast$Sea" "current" "[I" "IceForCoast" ∈ NW := NW_in (tk_1 _ (List.mem_of_getElem? (i := 69) rfl)) rfl
theorem aw_88 : Cond.fieldLinkNest RX8 143 "IceForCoast$Sea" "current" "[I" "IceForCoast" ∈ NW := NW_in (tk_1 _ (List.mem_of_getElem? (i := 70) rfl)) rfl
theorem aw_89 : Cond.fieldLink RX7 18 "IceForCoast$Sea" "far" "[I" ∈ AL := AL_in (tk_1 _ (List.mem_of_getElem? (i := 71) rfl)) rfl
theorem aw_90 : Cond.fieldLinkNest RX9 116 "IceForCoast$Sea" "far" "[I" "IceForCoast" ∈ NW := NW_in (tk_1 _ (List.mem_of_getElem? (i := 72) rfl)) rfl
theorem aw_91 : Cond.fieldLink RX7 21 "IceForCoast$Sea" "waysFrom" "[I" ∈ AL := AL_in (tk_1 _ (List.mem_of_getElem? (i := 73) rfl)) rfl
theorem aw_92 : Cond.fieldLinkNest RX9 204 "IceForCoast$Sea" "waysFrom" "[I" "IceForCoast" ∈ NW := NW_in (tk_1 _ (List.mem_of_getElem? (i := 74) rfl)) rfl
theorem aw_93 : Cond.fieldLink RX7 26 "IceForCoast$Sea" "next" "[[I" ∈ AL := AL_in (tk_1 _ (List.mem_of_getElem? (i := 75) rfl)) rfl
theorem aw_94 : Cond.fieldLinkNest RX8 89 "IceForCoast$Sea" "next" "[[I" "IceForCoast" ∈ NW := NW_in (tk_1 _ (List.mem_of_getElem? (i := 76) rfl)) rfl
theorem aw_95 : Cond.fieldLink RX7 29 "IceForCoast$Sea" "squares" "I" ∈ AL := AL_in (tk_1 _ (List.mem_of_getElem? (i := 77) rfl)) rfl
theorem aw_96 : Cond.fieldLinkNest RX9 102 "IceForCoast$Sea" "squares" "I" "IceForCoast" ∈ NW := NW_in (tk_1 _ (List.mem_of_getElem? (i := 78) rfl)) rfl
theorem aw_97 : Cond.fieldLink RX7 37 "IceForCoast$Sea" "width" "I" ∈ AL := AL_in (tk_1 _ (List.mem_of_getElem? (i := 79) rfl)) rfl
theorem aw_98 : Cond.fieldLinkNest RX8 103 "IceForCoast$Sea" "harbour" "I" "IceForCoast" ∈ NW := NW_in (tk_1 _ (List.mem_of_getElem? (i := 80) rfl)) rfl
theorem aw_99 : Cond.fieldLink RX7 64 "IceForCoast$Sea" "harbour" "I" ∈ AL := AL_in (tk_1 _ (List.mem_of_getElem? (i := 81) rfl)) rfl
theorem aw_117 : Cond.classLink RX8 18 RX1 ∈ AL := AL_in (tk_1 _ (List.mem_of_getElem? (i := 99) rfl)) rfl
theorem aw_118 : Cond.instantiable RX1 1 ∈ AL := AL_in (tk_1 _ (List.mem_of_getElem? (i := 100) rfl)) rfl
theorem aw_119 : Cond.methodLinkNest RX8 20 yX1_init "IceForCoast" ∈ NW := NW_in (tk_1 _ (List.mem_of_getElem? (i := 101) rfl)) rfl
theorem aw_120 : Cond.instanceMethod yX1_init ∈ AL := AL_in (tk_1 _ (List.mem_of_getElem? (i := 102) rfl)) rfl
theorem aw_121 : Cond.code yX1_init cX1_init 1 none ∈ AL := AL_in (tk_1 _ (List.mem_of_getElem? (i := 103) rfl)) rfl
theorem aw_122 : Cond.methodLink RX1 1 objectInit ∈ AL := AL_in (tk_1 _ (List.mem_of_getElem? (i := 104) rfl)) rfl
theorem aw_123 : Cond.fieldLink RX1 7 "IceForCoast$Coins" "value" "[I" ∈ AL := AL_in (tk_1 _ (List.mem_of_getElem? (i := 105) rfl)) rfl
theorem aw_127 : Cond.classLink RX8 41 RX0 ∈ AL := AL_in (tk_1 _ (List.mem_of_getElem? (i := 109) rfl)) rfl
theorem aw_128 : Cond.instantiable RX0 6 ∈ AL := AL_in (tk_1 _ (List.mem_of_getElem? (i := 110) rfl)) rfl
theorem aw_129 : Cond.methodLinkNest RX8 43 yX0_init "IceForCoast" ∈ NW := NW_in (tk_1 _ (List.mem_of_getElem? (i := 111) rfl)) rfl
theorem aw_130 : Cond.instanceMethod yX0_init ∈ AL := AL_in (tk_1 _ (List.mem_of_getElem? (i := 112) rfl)) rfl
theorem aw_131 : Cond.code yX0_init cX0_init 1 none ∈ AL := AL_in (tk_1 _ (List.mem_of_getElem? (i := 113) rfl)) rfl
theorem aw_132 : Cond.methodLink RX0 1 objectInit ∈ AL := AL_in (tk_1 _ (List.mem_of_getElem? (i := 114) rfl)) rfl
theorem aw_133 : Cond.fieldLink RX0 9 "IceForCoast$Berg" "kind" "I" ∈ AL := AL_in (tk_1 _ (List.mem_of_getElem? (i := 115) rfl)) rfl
theorem aw_134 : Cond.fieldLinkNest RX8 137 "IceForCoast$Berg" "kind" "I" "IceForCoast" ∈ NW := NW_in (tk_1 _ (List.mem_of_getElem? (i := 116) rfl)) rfl
theorem aw_135 : Cond.fieldLinkNest RX9 148 "IceForCoast$Berg" "kind" "I" "IceForCoast" ∈ NW := NW_in (tk_1 _ (List.mem_of_getElem? (i := 117) rfl)) rfl
theorem aw_136 : Cond.fieldLinkNest RX8 71 "IceForCoast$Berg" "square" "I" "IceForCoast" ∈ NW := NW_in (tk_1 _ (List.mem_of_getElem? (i := 118) rfl)) rfl
theorem aw_137 : Cond.fieldLink RX0 13 "IceForCoast$Berg" "square" "I" ∈ AL := AL_in (tk_1 _ (List.mem_of_getElem? (i := 119) rfl)) rfl
theorem aw_138 : Cond.fieldLinkNest RX9 151 "IceForCoast$Berg" "square" "I" "IceForCoast" ∈ NW := NW_in (tk_1 _ (List.mem_of_getElem? (i := 120) rfl)) rfl
theorem aw_139 : Cond.fieldLink RX0 16 "IceForCoast$Berg" "size" "I" ∈ AL := AL_in (tk_1 _ (List.mem_of_getElem? (i := 121) rfl)) rfl
theorem aw_140 : Cond.fieldLinkNest RX9 154 "IceForCoast$Berg" "size" "I" "IceForCoast" ∈ NW := NW_in (tk_1 _ (List.mem_of_getElem? (i := 122) rfl)) rfl
theorem aw_141 : Cond.fieldLinkNest RX8 68 "IceForCoast$Berg" "foot" "I" "IceForCoast" ∈ NW := NW_in (tk_1 _ (List.mem_of_getElem? (i := 123) rfl)) rfl
theorem aw_142 : Cond.fieldLink RX0 19 "IceForCoast$Berg" "foot" "I" ∈ AL := AL_in (tk_1 _ (List.mem_of_getElem? (i := 124) rfl)) rfl
theorem aw_143 : Cond.fieldLinkNest RX9 157 "IceForCoast$Berg" "foot" "I" "IceForCoast" ∈ NW := NW_in (tk_1 _ (List.mem_of_getElem? (i := 125) rfl)) rfl
theorem aw_144 : Cond.fieldLink RX0 22 "IceForCoast$Berg" "n" "I" ∈ AL := AL_in (tk_1 _ (List.mem_of_getElem? (i := 126) rfl)) rfl
theorem aw_145 : Cond.fieldLinkNest RX9 160 "IceForCoast$Berg" "n" "I" "IceForCoast" ∈ NW := NW_in (tk_1 _ (List.mem_of_getElem? (i := 127) rfl)) rfl
theorem aw_146 : Cond.fieldLink RX0 25 "IceForCoast$Berg" "flat" "Z" ∈ AL := AL_in (tk_1 _ (List.mem_of_getElem? (i := 128) rfl)) rfl
theorem aw_160 : Cond.fieldLink RX8 12 "IceForCoast$Tow" "sea" "LIceForCoast$Sea;" ∈ AL := AL_in (tk_1 _ (List.mem_of_getElem? (i := 142) rfl)) rfl
theorem aw_161 : Cond.fieldLinkNest RX9 23 "IceForCoast$Tow" "sea" "LIceForCoast$Sea;" "IceForCoast" ∈ NW := NW_in (tk_1 _ (List.mem_of_getElem? (i := 143) rfl)) rfl
theorem aw_162 : Cond.fieldLink RX8 21 "IceForCoast$Tow" "coins" "LIceForCoast$Coins;" ∈ AL := AL_in (tk_1 _ (List.mem_of_getElem? (i := 144) rfl)) rfl
theorem aw_163 : Cond.fieldLinkNest RX9 30 "IceForCoast$Tow" "coins" "LIceForCoast$Coins;" "IceForCoast" ∈ NW := NW_in (tk_1 _ (List.mem_of_getElem? (i := 145) rfl)) rfl
theorem aw_164 : Cond.fieldLink RX8 25 "IceForCoast$Tow" "sizeAt" "[I" ∈ AL := AL_in (tk_1 _ (List.mem_of_getElem? (i := 146) rfl)) rfl
theorem aw_165 : Cond.fieldLink RX8 29 "IceForCoast$Tow" "footAt" "[I" ∈ AL := AL_in (tk_1 _ (List.mem_of_getElem? (i := 147) rfl)) rfl
theorem aw_166 : Cond.fieldLink RX8 32 "IceForCoast$Tow" "dayAt" "[I" ∈ AL := AL_in (tk_1 _ (List.mem_of_getElem? (i := 148) rfl)) rfl
theorem aw_167 : Cond.fieldLink RX8 35 "IceForCoast$Tow" "trial" "[I" ∈ AL := AL_in (tk_1 _ (List.mem_of_getElem? (i := 149) rfl)) rfl
theorem aw_168 : Cond.fieldLink RX8 38 "IceForCoast$Tow" "chosen" "[I" ∈ AL := AL_in (tk_1 _ (List.mem_of_getElem? (i := 150) rfl)) rfl
theorem aw_169 : Cond.fieldLink RX8 44 "IceForCoast$Tow" "berg" "LIceForCoast$Berg;" ∈ AL := AL_in (tk_1 _ (List.mem_of_getElem? (i := 151) rfl)) rfl
theorem aw_170 : Cond.fieldLink RX8 48 "IceForCoast$Tow" "tugs" "I" ∈ AL := AL_in (tk_1 _ (List.mem_of_getElem? (i := 152) rfl)) rfl
theorem aw_171 : Cond.fieldLink RX8 58 "IceForCoast$Tow" "skirt" "Z" ∈ AL := AL_in (tk_1 _ (List.mem_of_getElem? (i := 153) rfl)) rfl
theorem aw_172 : Cond.fieldLink RX8 62 "IceForCoast$Tow" "found" "Z" ∈ AL := AL_in (tk_1 _ (List.mem_of_getElem? (i := 154) rfl)) rfl
theorem aw_173 : Cond.fieldLink RX8 93 "IceForCoast$Tow" "water" "I" ∈ AL := AL_in (tk_1 _ (List.mem_of_getElem? (i := 155) rfl)) rfl
theorem aw_174 : Cond.fieldLinkNest RX9 188 "IceForCoast$Tow" "water" "I" "IceForCoast" ∈ NW := NW_in (tk_1 _ (List.mem_of_getElem? (i := 156) rfl)) rfl
theorem aw_175 : Cond.fieldLink RX8 96 "IceForCoast$Tow" "days" "I" ∈ AL := AL_in (tk_1 _ (List.mem_of_getElem? (i := 157) rfl)) rfl
theorem aw_176 : Cond.fieldLinkNest RX9 191 "IceForCoast$Tow" "days" "I" "IceForCoast" ∈ NW := NW_in (tk_1 _ (List.mem_of_getElem? (i := 158) rfl)) rfl
theorem aw_177 : Cond.fieldLink RX8 114 "IceForCoast$Tow" "gain" "I" ∈ AL := AL_in (tk_1 _ (List.mem_of_getElem? (i := 159) rfl)) rfl
theorem aw_178 : Cond.fieldLinkNest RX9 194 "IceForCoast$Tow" "gain" "I" "IceForCoast" ∈ NW := NW_in (tk_1 _ (List.mem_of_getElem? (i := 160) rfl)) rfl
theorem aw_179 : Cond.fieldLink RX8 82 "IceForCoast$Tow" "steps" "I" ∈ AL := AL_in (tk_1 _ (List.mem_of_getElem? (i := 161) rfl)) rfl
theorem aw_180 : Cond.fieldLinkNest RX9 197 "IceForCoast$Tow" "steps" "I" "IceForCoast" ∈ NW := NW_in (tk_1 _ (List.mem_of_getElem? (i := 162) rfl)) rfl
theorem aw_181 : Cond.fieldLink RX8 65 "IceForCoast$Tow" "drawing" "Z" ∈ AL := AL_in (tk_1 _ (List.mem_of_getElem? (i := 163) rfl)) rfl
theorem aw_182 : Cond.fieldLink RX8 78 "IceForCoast$Tow" "seed" "J" ∈ AL := AL_in (tk_1 _ (List.mem_of_getElem? (i := 164) rfl)) rfl
theorem aw_183 : Cond.fieldLinkNest RX9 238 "IceForCoast$Tow" "seed" "J" "IceForCoast" ∈ NW := NW_in (tk_1 _ (List.mem_of_getElem? (i := 165) rfl)) rfl
theorem aw_219 : Cond.classLink RX9 35 RX0 ∈ AL := AL_in (tk_1 _ (List.mem_of_getElem? (i := 201) rfl)) rfl
theorem aw_221 : Cond.classLink RX9 41 RX4 ∈ AL := AL_in (tk_1 _ (List.mem_of_getElem? (i := 203) rfl)) rfl
theorem aw_222 : Cond.instantiable RX4 4 ∈ AL := AL_in (tk_1 _ (List.mem_of_getElem? (i := 204) rfl)) rfl
theorem aw_223 : Cond.methodLinkNest RX9 43 yX4_init "IceForCoast" ∈ NW := NW_in (tk_1 _ (List.mem_of_getElem? (i := 205) rfl)) rfl
theorem aw_224 : Cond.instanceMethod yX4_init ∈ AL := AL_in (tk_1 _ (List.mem_of_getElem? (i := 206) rfl)) rfl
theorem aw_225 : Cond.code yX4_init cX4_init 1 none ∈ AL := AL_in (tk_1 _ (List.mem_of_getElem? (i := 207) rfl)) rfl
theorem aw_226 : Cond.methodLink RX4 3 objectInit ∈ AL := AL_in (tk_1 _ (List.mem_of_getElem? (i := 208) rfl)) rfl
theorem aw_227 : Cond.fieldLink RX4 11 "IceForCoast$Lines" "house" "[I" ∈ AL := AL_in (tk_1 _ (List.mem_of_getElem? (i := 209) rfl)) rfl
theorem aw_228 : Cond.fieldLink RX4 15 "IceForCoast$Lines" "berg" "[I" ∈ AL := AL_in (tk_1 _ (List.mem_of_getElem? (i := 210) rfl)) rfl
theorem aw_229 : Cond.fieldLink RX4 18 "IceForCoast$Lines" "day" "[I" ∈ AL := AL_in (tk_1 _ (List.mem_of_getElem? (i := 211) rfl)) rfl
theorem aw_230 : Cond.fieldLink RX4 21 "IceForCoast$Lines" "length" "I" ∈ AL := AL_in (tk_1 _ (List.mem_of_getElem? (i := 212) rfl)) rfl
theorem aw_240 : Cond.classLink RX9 48 RX2 ∈ AL := AL_in (tk_1 _ (List.mem_of_getElem? (i := 222) rfl)) rfl
theorem aw_241 : Cond.instantiable RX2 6 ∈ AL := AL_in (tk_1 _ (List.mem_of_getElem? (i := 223) rfl)) rfl
theorem aw_242 : Cond.methodLinkNest RX9 50 yX2_init "IceForCoast" ∈ NW := NW_in (tk_1 _ (List.mem_of_getElem? (i := 224) rfl)) rfl
theorem aw_243 : Cond.instanceMethod yX2_init ∈ AL := AL_in (tk_1 _ (List.mem_of_getElem? (i := 225) rfl)) rfl
theorem aw_244 : Cond.code yX2_init cX2_init 1 none ∈ AL := AL_in (tk_1 _ (List.mem_of_getElem? (i := 226) rfl)) rfl
theorem aw_245 : Cond.methodLink RX2 3 objectInit ∈ AL := AL_in (tk_1 _ (List.mem_of_getElem? (i := 227) rfl)) rfl
theorem aw_246 : Cond.classLink RX2 18 RX1 ∈ AL := AL_in (tk_1 _ (List.mem_of_getElem? (i := 228) rfl)) rfl
theorem aw_247 : Cond.methodLinkNest RX2 20 yX1_init "IceForCoast" ∈ NW := NW_in (tk_1 _ (List.mem_of_getElem? (i := 229) rfl)) rfl
theorem aw_248 : Cond.fieldLink RX2 9 "IceForCoast$Image" "sizes" "[I" ∈ AL := AL_in (tk_1 _ (List.mem_of_getElem? (i := 230) rfl)) rfl
theorem aw_249 : Cond.fieldLink RX2 15 "IceForCoast$Image" "feet" "[I" ∈ AL := AL_in (tk_1 _ (List.mem_of_getElem? (i := 231) rfl)) rfl
theorem aw_250 : Cond.fieldLink RX2 21 "IceForCoast$Image" "coins" "LIceForCoast$Coins;" ∈ AL := AL_in (tk_1 _ (List.mem_of_getElem? (i := 232) rfl)) rfl
theorem aw_264 : Cond.classLink RX9 55 RX3 ∈ AL := AL_in (tk_2 _ (List.mem_of_getElem? (i := 6) rfl)) rfl
theorem aw_265 : Cond.instantiable RX3 4 ∈ AL := AL_in (tk_2 _ (List.mem_of_getElem? (i := 7) rfl)) rfl
theorem aw_266 : Cond.methodLinkNest RX9 57 yX3_init "IceForCoast" ∈ NW := NW_in (tk_2 _ (List.mem_of_getElem? (i := 8) rfl)) rfl
theorem aw_267 : Cond.instanceMethod yX3_init ∈ AL := AL_in (tk_2 _ (List.mem_of_getElem? (i := 9) rfl)) rfl
theorem aw_268 : Cond.code yX3_init cX3_init 1 none ∈ AL := AL_in (tk_2 _ (List.mem_of_getElem? (i := 10) rfl)) rfl
theorem aw_269 : Cond.methodLink RX3 3 objectInit ∈ AL := AL_in (tk_2 _ (List.mem_of_getElem? (i := 11) rfl)) rfl
theorem aw_270 : Cond.classLink RX3 11 "[[I" ∈ AL := AL_in (tk_2 _ (List.mem_of_getElem? (i := 12) rfl)) rfl
theorem aw_271 : Cond.fieldLink RX3 13 "IceForCoast$Ledger" "gains" "[[I" ∈ AL := AL_in (tk_2 _ (List.mem_of_getElem? (i := 13) rfl)) rfl
theorem aw_272 : Cond.fieldLinkNest RX9 219 "IceForCoast$Ledger" "gains" "[[I" "IceForCoast" ∈ NW := NW_in (tk_2 _ (List.mem_of_getElem? (i := 14) rfl)) rfl
theorem aw_273 : Cond.fieldLink RX3 16 "IceForCoast$Ledger" "known" "[Z" ∈ AL := AL_in (tk_2 _ (List.mem_of_getElem? (i := 15) rfl)) rfl
theorem aw_274 : Cond.fieldLinkNest RX9 340 "IceForCoast$Ledger" "known" "[Z" "IceForCoast" ∈ NW := NW_in (tk_2 _ (List.mem_of_getElem? (i := 16) rfl)) rfl
theorem aw_275 : Cond.fieldLink RX3 20 "IceForCoast$Ledger" "towable" "[Z" ∈ AL := AL_in (tk_2 _ (List.mem_of_getElem? (i := 17) rfl)) rfl
theorem aw_276 : Cond.fieldLinkNest RX9 344 "IceForCoast$Ledger" "towable" "[Z" "IceForCoast" ∈ NW := NW_in (tk_2 _ (List.mem_of_getElem? (i := 18) rfl)) rfl
theorem aw_277 : Cond.fieldLink RX3 23 "IceForCoast$Ledger" "most" "[[I" ∈ AL := AL_in (tk_2 _ (List.mem_of_getElem? (i := 19) rfl)) rfl
theorem aw_278 : Cond.fieldLinkNest RX9 226 "IceForCoast$Ledger" "most" "[[I" "IceForCoast" ∈ NW := NW_in (tk_2 _ (List.mem_of_getElem? (i := 20) rfl)) rfl
theorem aw_288 : Cond.arrayClass .boolean ∈ AL := AL_in (tk_2 _ (List.mem_of_getElem? (i := 30) rfl)) rfl
theorem aw_289 : Cond.classLink RX9 62 RX5 ∈ AL := AL_in (tk_2 _ (List.mem_of_getElem? (i := 31) rfl)) rfl
theorem aw_290 : Cond.instantiable RX5 4 ∈ AL := AL_in (tk_2 _ (List.mem_of_getElem? (i := 32) rfl)) rfl
theorem aw_291 : Cond.methodLinkNest RX9 64 yX5_init "IceForCoast" ∈ NW := NW_in (tk_2 _ (List.mem_of_getElem? (i := 33) rfl)) rfl
theorem aw_292 : Cond.instanceMethod yX5_init ∈ AL := AL_in (tk_2 _ (List.mem_of_getElem? (i := 34) rfl)) rfl
theorem aw_293 : Cond.code yX5_init cX5_init 1 none ∈ AL := AL_in (tk_2 _ (List.mem_of_getElem? (i := 35) rfl)) rfl
theorem aw_294 : Cond.methodLink RX5 3 objectInit ∈ AL := AL_in (tk_2 _ (List.mem_of_getElem? (i := 36) rfl)) rfl
theorem aw_295 : Cond.fieldLink RX5 9 "IceForCoast$Odds" "water" "[J" ∈ AL := AL_in (tk_2 _ (List.mem_of_getElem? (i := 37) rfl)) rfl
theorem aw_305 : Cond.arrayClass .long ∈ AL := AL_in (tk_2 _ (List.mem_of_getElem? (i := 47) rfl)) rfl
theorem aw_306 : Cond.methodLinkNest RX9 69 yX0_init "IceForCoast" ∈ NW := NW_in (tk_2 _ (List.mem_of_getElem? (i := 48) rfl)) rfl
theorem aw_307 : Cond.fieldLink RX9 10 "IceForCoast" "thePage" "LIceForCoast$Page;" ∈ AL := AL_in (tk_2 _ (List.mem_of_getElem? (i := 49) rfl)) rfl
theorem aw_308 : Cond.fieldLink RX9 19 "IceForCoast" "theTow" "LIceForCoast$Tow;" ∈ AL := AL_in (tk_2 _ (List.mem_of_getElem? (i := 50) rfl)) rfl
theorem aw_309 : Cond.fieldLink RX9 27 "IceForCoast" "theSea" "LIceForCoast$Sea;" ∈ AL := AL_in (tk_2 _ (List.mem_of_getElem? (i := 51) rfl)) rfl
theorem aw_310 : Cond.fieldLink RX9 34 "IceForCoast" "coins" "LIceForCoast$Coins;" ∈ AL := AL_in (tk_2 _ (List.mem_of_getElem? (i := 52) rfl)) rfl
theorem aw_311 : Cond.fieldLink RX9 37 "IceForCoast" "bergs" "[LIceForCoast$Berg;" ∈ AL := AL_in (tk_2 _ (List.mem_of_getElem? (i := 53) rfl)) rfl
theorem aw_312 : Cond.fieldLink RX9 44 "IceForCoast" "lines" "LIceForCoast$Lines;" ∈ AL := AL_in (tk_2 _ (List.mem_of_getElem? (i := 54) rfl)) rfl
theorem aw_313 : Cond.fieldLink RX9 51 "IceForCoast" "kept" "LIceForCoast$Image;" ∈ AL := AL_in (tk_2 _ (List.mem_of_getElem? (i := 55) rfl)) rfl
theorem aw_314 : Cond.fieldLink RX9 58 "IceForCoast" "ledger" "LIceForCoast$Ledger;" ∈ AL := AL_in (tk_2 _ (List.mem_of_getElem? (i := 56) rfl)) rfl
theorem aw_315 : Cond.fieldLink RX9 65 "IceForCoast" "theOdds" "LIceForCoast$Odds;" ∈ AL := AL_in (tk_2 _ (List.mem_of_getElem? (i := 57) rfl)) rfl
theorem aw_316 : Cond.fieldLink RX9 91 "IceForCoast" "bergCount" "I" ∈ AL := AL_in (tk_2 _ (List.mem_of_getElem? (i := 58) rfl)) rfl
theorem aw_317 : Cond.fieldLink RX9 99 "IceForCoast" "seasRead" "I" ∈ AL := AL_in (tk_2 _ (List.mem_of_getElem? (i := 59) rfl)) rfl
theorem aw_318 : Cond.fieldLink RX9 242 "IceForCoast" "cameDone" "I" ∈ AL := AL_in (tk_2 _ (List.mem_of_getElem? (i := 60) rfl)) rfl
theorem aw_344 : Cond.methodLink RL 56 yX9_fault ∈ AL := AL_in (tk_2 _ (List.mem_of_getElem? (i := 86) rfl)) rfl
theorem aw_345 : Cond.instanceMethod yX9_fault ∈ AL := AL_in (tk_2 _ (List.mem_of_getElem? (i := 87) rfl)) rfl
theorem aw_346 : Cond.selects RX9 yX9_fault yX9_fault ∈ AL := AL_in (tk_2 _ (List.mem_of_getElem? (i := 88) rfl)) rfl
theorem aw_347 : Cond.code yX9_fault cX9_fault 1 (some .int) ∈ AL := AL_in (tk_2 _ (List.mem_of_getElem? (i := 89) rfl)) rfl
theorem aw_348 : Cond.methodLink RX9 78 yX6_firstWrong ∈ AL := AL_in (tk_2 _ (List.mem_of_getElem? (i := 90) rfl)) rfl
theorem aw_349 : Cond.instanceMethod yX6_firstWrong ∈ AL := AL_in (tk_2 _ (List.mem_of_getElem? (i := 91) rfl)) rfl
theorem aw_350 : Cond.selects RX6 yX6_firstWrong yX6_firstWrong ∈ AL := AL_in (tk_2 _ (List.mem_of_getElem? (i := 92) rfl)) rfl
theorem aw_351 : Cond.code yX6_firstWrong cX6_firstWrong 2 (some .int) ∈ AL := AL_in (tk_2 _ (List.mem_of_getElem? (i := 93) rfl)) rfl
theorem aw_352 : Cond.methodLink RX6 39 yX6_takes ∈ AL := AL_in (tk_2 _ (List.mem_of_getElem? (i := 94) rfl)) rfl
theorem aw_354 : Cond.instanceMethod yX6_takes ∈ AL := AL_in (tk_2 _ (List.mem_of_getElem? (i := 96) rfl)) rfl
theorem aw_355 : Cond.code yX6_takes cX6_takes 3 (some .boolean) ∈ AL := AL_in (tk_2 _ (List.mem_of_getElem? (i := 97) rfl)) rfl
theorem aw_356 : Cond.methodLink RX6 47 yX6_takesRowEnd ∈ AL := AL_in (tk_2 _ (List.mem_of_getElem? (i := 98) rfl)) rfl
theorem aw_358 : Cond.instanceMethod yX6_takesRowEnd ∈ AL := AL_in (tk_2 _ (List.mem_of_getElem? (i := 100) rfl)) rfl
theorem aw_359 : Cond.code yX6_takesRowEnd cX6_takesRowEnd 2 (some .boolean) ∈ AL := AL_in (tk_2 _ (List.mem_of_getElem? (i := 101) rfl)) rfl
theorem aw_360 : Cond.methodLink RX6 51 yX7_wayOf ∈ AL := AL_in (tk_2 _ (List.mem_of_getElem? (i := 102) rfl)) rfl
theorem aw_361 : Cond.static yX7_wayOf ∈ AL := AL_in (tk_2 _ (List.mem_of_getElem? (i := 103) rfl)) rfl
theorem aw_362 : Cond.code yX7_wayOf cX7_wayOf 1 (some .int) ∈ AL := AL_in (tk_2 _ (List.mem_of_getElem? (i := 104) rfl)) rfl
theorem aw_363 : Cond.methodLink RX6 57 yX6_takesSquare ∈ AL := AL_in (tk_2 _ (List.mem_of_getElem? (i := 105) rfl)) rfl
theorem aw_365 : Cond.instanceMethod yX6_takesSquare ∈ AL := AL_in (tk_2 _ (List.mem_of_getElem? (i := 107) rfl)) rfl
theorem aw_366 : Cond.code yX6_takesSquare cX6_takesSquare 4 (some .boolean) ∈ AL := AL_in (tk_2 _ (List.mem_of_getElem? (i := 108) rfl)) rfl
theorem aw_367 : Cond.methodLink RL 60 yX9_sea ∈ AL := AL_in (tk_2 _ (List.mem_of_getElem? (i := 109) rfl)) rfl
theorem aw_368 : Cond.instanceMethod yX9_sea ∈ AL := AL_in (tk_2 _ (List.mem_of_getElem? (i := 110) rfl)) rfl
theorem aw_369 : Cond.selects RX9 yX9_sea yX9_sea ∈ AL := AL_in (tk_2 _ (List.mem_of_getElem? (i := 111) rfl)) rfl
theorem aw_370 : Cond.code yX9_sea cX9_sea 1 (some .int) ∈ AL := AL_in (tk_2 _ (List.mem_of_getElem? (i := 112) rfl)) rfl
theorem aw_371 : Cond.methodLink RX9 81 yX6_isSea ∈ AL := AL_in (tk_2 _ (List.mem_of_getElem? (i := 113) rfl)) rfl
theorem aw_372 : Cond.instanceMethod yX6_isSea ∈ AL := AL_in (tk_2 _ (List.mem_of_getElem? (i := 114) rfl)) rfl
theorem aw_373 : Cond.selects RX6 yX6_isSea yX6_isSea ∈ AL := AL_in (tk_2 _ (List.mem_of_getElem? (i := 115) rfl)) rfl
theorem aw_374 : Cond.code yX6_isSea cX6_isSea 1 (some .boolean) ∈ AL := AL_in (tk_2 _ (List.mem_of_getElem? (i := 116) rfl)) rfl
theorem aw_375 : Cond.methodLink RX6 43 yX6_firstWrong ∈ AL := AL_in (tk_2 _ (List.mem_of_getElem? (i := 117) rfl)) rfl
theorem aw_376 : Cond.methodLink RX9 85 yX7_lay ∈ AL := AL_in (tk_2 _ (List.mem_of_getElem? (i := 118) rfl)) rfl
theorem aw_377 : Cond.instanceMethod yX7_lay ∈ AL := AL_in (tk_2 _ (List.mem_of_getElem? (i := 119) rfl)) rfl
theorem aw_378 : Cond.selects RX7 yX7_lay yX7_lay ∈ AL := AL_in (tk_2 _ (List.mem_of_getElem? (i := 120) rfl)) rfl
theorem aw_379 : Cond.code yX7_lay cX7_lay 3 none ∈ AL := AL_in (tk_2 _ (List.mem_of_getElem? (i := 121) rfl)) rfl
theorem aw_380 : Cond.methodLink RX7 45 yX6_codeAt ∈ AL := AL_in (tk_2 _ (List.mem_of_getElem? (i := 122) rfl)) rfl
theorem aw_381 : Cond.instanceMethod yX6_codeAt ∈ AL := AL_in (tk_2 _ (List.mem_of_getElem? (i := 123) rfl)) rfl
theorem aw_382 : Cond.selects RX6 yX6_codeAt yX6_codeAt ∈ AL := AL_in (tk_2 _ (List.mem_of_getElem? (i := 124) rfl)) rfl
theorem aw_383 : Cond.code yX6_codeAt cX6_codeAt 2 (some .int) ∈ AL := AL_in (tk_2 _ (List.mem_of_getElem? (i := 125) rfl)) rfl
theorem aw_384 : Cond.methodLink RX7 49 yX7_layLetter ∈ AL := AL_in (tk_2 _ (List.mem_of_getElem? (i := 126) rfl)) rfl
theorem aw_386 : Cond.instanceMethod yX7_layLetter ∈ AL := AL_in (tk_2 _ (List.mem_of_getElem? (i := 128) rfl)) rfl
theorem aw_387 : Cond.code yX7_layLetter cX7_layLetter 3 none ∈ AL := AL_in (tk_2 _ (List.mem_of_getElem? (i := 129) rfl)) rfl
theorem aw_388 : Cond.methodLink RX7 61 yX7_wayOf ∈ AL := AL_in (tk_2 _ (List.mem_of_getElem? (i := 130) rfl)) rfl
theorem aw_389 : Cond.methodLink RX7 53 yX7_measure ∈ AL := AL_in (tk_2 _ (List.mem_of_getElem? (i := 131) rfl)) rfl
theorem aw_391 : Cond.instanceMethod yX7_measure ∈ AL := AL_in (tk_2 _ (List.mem_of_getElem? (i := 133) rfl)) rfl
theorem aw_392 : Cond.code yX7_measure cX7_measure 4 none ∈ AL := AL_in (tk_2 _ (List.mem_of_getElem? (i := 134) rfl)) rfl
theorem aw_393 : Cond.methodLink RX7 67 Lib.Math.abs.name ∈ AL := AL_in (tk_2 _ (List.mem_of_getElem? (i := 135) rfl)) rfl
theorem aw_394 : Cond.static Lib.Math.abs.name ∈ AL := AL_in (tk_2 _ (List.mem_of_getElem? (i := 136) rfl)) rfl
theorem aw_395 : Cond.code Lib.Math.abs.name Lib.Math.abs.code 1 (some .int) ∈ AL := AL_in (tk_2 _ (List.mem_of_getElem? (i := 137) rfl)) rfl
theorem aw_396 : Cond.methodLink RX7 58 yX7_openWays ∈ AL := AL_in (tk_2 _ (List.mem_of_getElem? (i := 138) rfl)) rfl
theorem aw_398 : Cond.instanceMethod yX7_openWays ∈ AL := AL_in (tk_2 _ (List.mem_of_getElem? (i := 140) rfl)) rfl
theorem aw_399 : Cond.code yX7_openWays cX7_openWays 6 none ∈ AL := AL_in (tk_2 _ (List.mem_of_getElem? (i := 141) rfl)) rfl
theorem aw_400 : Cond.methodLink RX7 72 yX7_beside ∈ AL := AL_in (tk_2 _ (List.mem_of_getElem? (i := 142) rfl)) rfl
theorem aw_402 : Cond.instanceMethod yX7_beside ∈ AL := AL_in (tk_2 _ (List.mem_of_getElem? (i := 144) rfl)) rfl
theorem aw_403 : Cond.code yX7_beside cX7_beside 4 (some .int) ∈ AL := AL_in (tk_2 _ (List.mem_of_getElem? (i := 145) rfl)) rfl
theorem aw_404 : Cond.methodLink RX9 74 yX6_clear ∈ AL := AL_in (tk_2 _ (List.mem_of_getElem? (i := 146) rfl)) rfl
theorem aw_405 : Cond.instanceMethod yX6_clear ∈ AL := AL_in (tk_2 _ (List.mem_of_getElem? (i := 147) rfl)) rfl
theorem aw_406 : Cond.selects RX6 yX6_clear yX6_clear ∈ AL := AL_in (tk_2 _ (List.mem_of_getElem? (i := 148) rfl)) rfl
theorem aw_407 : Cond.code yX6_clear cX6_clear 2 (some .int) ∈ AL := AL_in (tk_2 _ (List.mem_of_getElem? (i := 149) rfl)) rfl
theorem aw_408 : Cond.methodLink RX9 95 yX4_cutTo ∈ AL := AL_in (tk_2 _ (List.mem_of_getElem? (i := 150) rfl)) rfl
theorem aw_409 : Cond.instanceMethod yX4_cutTo ∈ AL := AL_in (tk_2 _ (List.mem_of_getElem? (i := 151) rfl)) rfl
theorem aw_410 : Cond.selects RX4 yX4_cutTo yX4_cutTo ∈ AL := AL_in (tk_2 _ (List.mem_of_getElem? (i := 152) rfl)) rfl
theorem aw_411 : Cond.code yX4_cutTo cX4_cutTo 2 none ∈ AL := AL_in (tk_2 _ (List.mem_of_getElem? (i := 153) rfl)) rfl
theorem aw_412 : Cond.methodLink RX4 25 Lib.Math.min.name ∈ AL := AL_in (tk_2 _ (List.mem_of_getElem? (i := 154) rfl)) rfl
theorem aw_413 : Cond.static Lib.Math.min.name ∈ AL := AL_in (tk_2 _ (List.mem_of_getElem? (i := 155) rfl)) rfl
theorem aw_414 : Cond.code Lib.Math.min.name Lib.Math.min.code 2 (some .int) ∈ AL := AL_in (tk_2 _ (List.mem_of_getElem? (i := 156) rfl)) rfl
theorem aw_415 : Cond.methodLink RX4 31 Lib.Math.max.name ∈ AL := AL_in (tk_2 _ (List.mem_of_getElem? (i := 157) rfl)) rfl
theorem aw_416 : Cond.static Lib.Math.max.name ∈ AL := AL_in (tk_2 _ (List.mem_of_getElem? (i := 158) rfl)) rfl
theorem aw_417 : Cond.code Lib.Math.max.name Lib.Math.max.code 2 (some .int) ∈ AL := AL_in (tk_2 _ (List.mem_of_getElem? (i := 159) rfl)) rfl
theorem aw_418 : Cond.methodLink RL 63 yX9_square ∈ AL := AL_in (tk_2 _ (List.mem_of_getElem? (i := 160) rfl)) rfl
theorem aw_419 : Cond.instanceMethod yX9_square ∈ AL := AL_in (tk_2 _ (List.mem_of_getElem? (i := 161) rfl)) rfl
theorem aw_420 : Cond.selects RX9 yX9_square yX9_square ∈ AL := AL_in (tk_2 _ (List.mem_of_getElem? (i := 162) rfl)) rfl
theorem aw_421 : Cond.code yX9_square cX9_square 3 (some .int) ∈ AL := AL_in (tk_2 _ (List.mem_of_getElem? (i := 163) rfl)) rfl
theorem aw_422 : Cond.methodLink RX9 105 yX7_has ∈ AL := AL_in (tk_2 _ (List.mem_of_getElem? (i := 164) rfl)) rfl
theorem aw_423 : Cond.instanceMethod yX7_has ∈ AL := AL_in (tk_2 _ (List.mem_of_getElem? (i := 165) rfl)) rfl
theorem aw_424 : Cond.selects RX7 yX7_has yX7_has ∈ AL := AL_in (tk_2 _ (List.mem_of_getElem? (i := 166) rfl)) rfl
theorem aw_425 : Cond.code yX7_has cX7_has 2 (some .boolean) ∈ AL := AL_in (tk_2 _ (List.mem_of_getElem? (i := 167) rfl)) rfl
theorem aw_426 : Cond.methodLink RL 76 yX9_as ∈ AL := AL_in (tk_2 _ (List.mem_of_getElem? (i := 168) rfl)) rfl
theorem aw_427 : Cond.instanceMethod yX9_as ∈ AL := AL_in (tk_2 _ (List.mem_of_getElem? (i := 169) rfl)) rfl
theorem aw_428 : Cond.selects RX9 yX9_as yX9_as ∈ AL := AL_in (tk_2 _ (List.mem_of_getElem? (i := 170) rfl)) rfl
theorem aw_429 : Cond.code yX9_as cX9_as 3 (some .int) ∈ AL := AL_in (tk_2 _ (List.mem_of_getElem? (i := 171) rfl)) rfl
theorem aw_430 : Cond.methodLink RX9 142 yX9_isBerg ∈ AL := AL_in (tk_2 _ (List.mem_of_getElem? (i := 172) rfl)) rfl
theorem aw_432 : Cond.instanceMethod yX9_isBerg ∈ AL := AL_in (tk_2 _ (List.mem_of_getElem? (i := 174) rfl)) rfl
theorem aw_433 : Cond.code yX9_isBerg cX9_isBerg 2 (some .boolean) ∈ AL := AL_in (tk_2 _ (List.mem_of_getElem? (i := 175) rfl)) rfl
theorem aw_434 : Cond.methodLink RX9 119 yX0_isKind ∈ AL := AL_in (tk_2 _ (List.mem_of_getElem? (i := 176) rfl)) rfl
theorem aw_435 : Cond.static yX0_isKind ∈ AL := AL_in (tk_2 _ (List.mem_of_getElem? (i := 177) rfl)) rfl
theorem aw_436 : Cond.code yX0_isKind cX0_isKind 1 (some .boolean) ∈ AL := AL_in (tk_2 _ (List.mem_of_getElem? (i := 178) rfl)) rfl
theorem aw_437 : Cond.methodLink RX9 145 yX0_isA ∈ AL := AL_in (tk_2 _ (List.mem_of_getElem? (i := 179) rfl)) rfl
theorem aw_438 : Cond.instanceMethod yX0_isA ∈ AL := AL_in (tk_2 _ (List.mem_of_getElem? (i := 180) rfl)) rfl
theorem aw_439 : Cond.selects RX0 yX0_isA yX0_isA ∈ AL := AL_in (tk_2 _ (List.mem_of_getElem? (i := 181) rfl)) rfl
theorem aw_440 : Cond.code yX0_isA cX0_isA 2 (some .boolean) ∈ AL := AL_in (tk_2 _ (List.mem_of_getElem? (i := 182) rfl)) rfl
theorem aw_441 : Cond.methodLink RL 73 yX9_about ∈ AL := AL_in (tk_2 _ (List.mem_of_getElem? (i := 183) rfl)) rfl
theorem aw_442 : Cond.instanceMethod yX9_about ∈ AL := AL_in (tk_2 _ (List.mem_of_getElem? (i := 184) rfl)) rfl
theorem aw_443 : Cond.selects RX9 yX9_about yX9_about ∈ AL := AL_in (tk_2 _ (List.mem_of_getElem? (i := 185) rfl)) rfl
theorem aw_444 : Cond.code yX9_about cX9_about 3 (some .int) ∈ AL := AL_in (tk_2 _ (List.mem_of_getElem? (i := 186) rfl)) rfl
theorem aw_445 : Cond.methodLink RL 101 yX9_change ∈ AL := AL_in (tk_2 _ (List.mem_of_getElem? (i := 187) rfl)) rfl
theorem aw_446 : Cond.instanceMethod yX9_change ∈ AL := AL_in (tk_2 _ (List.mem_of_getElem? (i := 188) rfl)) rfl
theorem aw_447 : Cond.selects RX9 yX9_change yX9_change ∈ AL := AL_in (tk_2 _ (List.mem_of_getElem? (i := 189) rfl)) rfl
theorem aw_448 : Cond.code yX9_change cX9_change 8 (some .int) ∈ AL := AL_in (tk_2 _ (List.mem_of_getElem? (i := 190) rfl)) rfl
theorem aw_449 : Cond.methodLink RX9 125 yX9_isSize ∈ AL := AL_in (tk_2 _ (List.mem_of_getElem? (i := 191) rfl)) rfl
theorem aw_450 : Cond.static yX9_isSize ∈ AL := AL_in (tk_2 _ (List.mem_of_getElem? (i := 192) rfl)) rfl
theorem aw_451 : Cond.code yX9_isSize cX9_isSize 1 (some .boolean) ∈ AL := AL_in (tk_2 _ (List.mem_of_getElem? (i := 193) rfl)) rfl
theorem aw_452 : Cond.methodLink RX9 128 yX9_isFoot ∈ AL := AL_in (tk_2 _ (List.mem_of_getElem? (i := 194) rfl)) rfl
theorem aw_453 : Cond.static yX9_isFoot ∈ AL := AL_in (tk_2 _ (List.mem_of_getElem? (i := 195) rfl)) rfl
theorem aw_454 : Cond.code yX9_isFoot cX9_isFoot 1 (some .boolean) ∈ AL := AL_in (tk_2 _ (List.mem_of_getElem? (i := 196) rfl)) rfl
theorem aw_455 : Cond.methodLink RX9 139 yX3_forget ∈ AL := AL_in (tk_2 _ (List.mem_of_getElem? (i := 197) rfl)) rfl
theorem aw_456 : Cond.instanceMethod yX3_forget ∈ AL := AL_in (tk_2 _ (List.mem_of_getElem? (i := 198) rfl)) rfl
theorem aw_457 : Cond.selects RX3 yX3_forget yX3_forget ∈ AL := AL_in (tk_2 _ (List.mem_of_getElem? (i := 199) rfl)) rfl
theorem aw_458 : Cond.code yX3_forget cX3_forget 2 none ∈ AL := AL_in (tk_2 _ (List.mem_of_getElem? (i := 200) rfl)) rfl
theorem aw_459 : Cond.methodLink RL 70 yX9_coin ∈ AL := AL_in (tk_2 _ (List.mem_of_getElem? (i := 201) rfl)) rfl
theorem aw_460 : Cond.instanceMethod yX9_coin ∈ AL := AL_in (tk_2 _ (List.mem_of_getElem? (i := 202) rfl)) rfl
theorem aw_461 : Cond.selects RX9 yX9_coin yX9_coin ∈ AL := AL_in (tk_2 _ (List.mem_of_getElem? (i := 203) rfl)) rfl
theorem aw_462 : Cond.code yX9_coin cX9_coin 3 (some .int) ∈ AL := AL_in (tk_2 _ (List.mem_of_getElem? (i := 204) rfl)) rfl
theorem aw_463 : Cond.methodLink RX9 163 yX1_mayBe ∈ AL := AL_in (tk_2 _ (List.mem_of_getElem? (i := 205) rfl)) rfl
theorem aw_464 : Cond.instanceMethod yX1_mayBe ∈ AL := AL_in (tk_2 _ (List.mem_of_getElem? (i := 206) rfl)) rfl
theorem aw_465 : Cond.selects RX1 yX1_mayBe yX1_mayBe ∈ AL := AL_in (tk_2 _ (List.mem_of_getElem? (i := 207) rfl)) rfl
theorem aw_466 : Cond.code yX1_mayBe cX1_mayBe 3 (some .boolean) ∈ AL := AL_in (tk_2 _ (List.mem_of_getElem? (i := 208) rfl)) rfl
theorem aw_467 : Cond.fieldLink RX1 13 "IceForCoast$Coins" "LEAST" "[I" ∈ AL := AL_in (tk_2 _ (List.mem_of_getElem? (i := 209) rfl)) rfl
theorem aw_469 : Cond.fieldLink RX1 16 "IceForCoast$Coins" "MOST" "[I" ∈ AL := AL_in (tk_2 _ (List.mem_of_getElem? (i := 211) rfl)) rfl
theorem aw_471 : Cond.methodLink RX9 168 yX3_forgetAll ∈ AL := AL_in (tk_2 _ (List.mem_of_getElem? (i := 213) rfl)) rfl
theorem aw_472 : Cond.instanceMethod yX3_forgetAll ∈ AL := AL_in (tk_2 _ (List.mem_of_getElem? (i := 214) rfl)) rfl
theorem aw_473 : Cond.selects RX3 yX3_forgetAll yX3_forgetAll ∈ AL := AL_in (tk_2 _ (List.mem_of_getElem? (i := 215) rfl)) rfl
theorem aw_474 : Cond.code yX3_forgetAll cX3_forgetAll 2 none ∈ AL := AL_in (tk_2 _ (List.mem_of_getElem? (i := 216) rfl)) rfl
theorem aw_475 : Cond.methodLink RX9 171 yX1_put ∈ AL := AL_in (tk_2 _ (List.mem_of_getElem? (i := 217) rfl)) rfl
theorem aw_476 : Cond.instanceMethod yX1_put ∈ AL := AL_in (tk_2 _ (List.mem_of_getElem? (i := 218) rfl)) rfl
theorem aw_477 : Cond.selects RX1 yX1_put yX1_put ∈ AL := AL_in (tk_2 _ (List.mem_of_getElem? (i := 219) rfl)) rfl
theorem aw_478 : Cond.code yX1_put cX1_put 4 (some .int) ∈ AL := AL_in (tk_2 _ (List.mem_of_getElem? (i := 220) rfl)) rfl
theorem aw_479 : Cond.methodLink RL 105 yX9_tow ∈ AL := AL_in (tk_2 _ (List.mem_of_getElem? (i := 221) rfl)) rfl
theorem aw_480 : Cond.instanceMethod yX9_tow ∈ AL := AL_in (tk_2 _ (List.mem_of_getElem? (i := 222) rfl)) rfl
theorem aw_481 : Cond.selects RX9 yX9_tow yX9_tow ∈ AL := AL_in (tk_2 _ (List.mem_of_getElem? (i := 223) rfl)) rfl
theorem aw_482 : Cond.code yX9_tow cX9_tow 6 (some .int) ∈ AL := AL_in (tk_2 _ (List.mem_of_getElem? (i := 224) rfl)) rfl
theorem aw_483 : Cond.constant RX9 175 (-100101) ∈ AL := AL_in (tk_2 _ (List.mem_of_getElem? (i := 225) rfl)) rfl
theorem aw_484 : Cond.methodLink RX9 176 yX9_isTugs ∈ AL := AL_in (tk_2 _ (List.mem_of_getElem? (i := 226) rfl)) rfl
theorem aw_485 : Cond.static yX9_isTugs ∈ AL := AL_in (tk_2 _ (List.mem_of_getElem? (i := 227) rfl)) rfl
theorem aw_486 : Cond.code yX9_isTugs cX9_isTugs 1 (some .boolean) ∈ AL := AL_in (tk_2 _ (List.mem_of_getElem? (i := 228) rfl)) rfl
theorem aw_487 : Cond.constant RX9 179 (-100102) ∈ AL := AL_in (tk_2 _ (List.mem_of_getElem? (i := 229) rfl)) rfl
theorem aw_488 : Cond.methodLink RX9 180 yX9_hasWay ∈ AL := AL_in (tk_2 _ (List.mem_of_getElem? (i := 230) rfl)) rfl
theorem aw_490 : Cond.instanceMethod yX9_hasWay ∈ AL := AL_in (tk_2 _ (List.mem_of_getElem? (i := 232) rfl)) rfl
theorem aw_491 : Cond.code yX9_hasWay cX9_hasWay 2 (some .boolean) ∈ AL := AL_in (tk_2 _ (List.mem_of_getElem? (i := 233) rfl)) rfl
theorem aw_492 : Cond.constant RX9 183 (-100001) ∈ AL := AL_in (tk_2 _ (List.mem_of_getElem? (i := 234) rfl)) rfl
theorem aw_493 : Cond.methodLink RX9 184 yX8_seek ∈ AL := AL_in (tk_2 _ (List.mem_of_getElem? (i := 235) rfl)) rfl
theorem aw_494 : Cond.instanceMethod yX8_seek ∈ AL := AL_in (tk_2 _ (List.mem_of_getElem? (i := 236) rfl)) rfl
theorem aw_495 : Cond.selects RX8 yX8_seek yX8_seek ∈ AL := AL_in (tk_2 _ (List.mem_of_getElem? (i := 237) rfl)) rfl
theorem aw_496 : Cond.code yX8_seek cX8_seek 5 none ∈ AL := AL_in (tk_2 _ (List.mem_of_getElem? (i := 238) rfl)) rfl
theorem aw_497 : Cond.methodLink RX8 52 Lib.Math.max.name ∈ AL := AL_in (tk_2 _ (List.mem_of_getElem? (i := 239) rfl)) rfl
theorem aw_498 : Cond.methodLink RX8 74 yX8_follow ∈ AL := AL_in (tk_3 _ (List.mem_of_getElem? (i := 0) rfl)) rfl
theorem aw_499 : Cond.static yX8_follow ∈ AL := AL_in (tk_3 _ (List.mem_of_getElem? (i := 1) rfl)) rfl
theorem aw_500 : Cond.code yX8_follow cX8_follow 5 none ∈ AL := AL_in (tk_3 _ (List.mem_of_getElem? (i := 2) rfl)) rfl
theorem aw_501 : Cond.methodLink RX8 99 yX8_isHopeless ∈ AL := AL_in (tk_3 _ (List.mem_of_getElem? (i := 3) rfl)) rfl
theorem aw_503 : Cond.instanceMethod yX8_isHopeless ∈ AL := AL_in (tk_3 _ (List.mem_of_getElem? (i := 5) rfl)) rfl
theorem aw_504 : Cond.code yX8_isHopeless cX8_isHopeless 3 (some .boolean) ∈ AL := AL_in (tk_3 _ (List.mem_of_getElem? (i := 6) rfl)) rfl
theorem aw_505 : Cond.methodLink RX8 110 yX1_gainOf ∈ AL := AL_in (tk_3 _ (List.mem_of_getElem? (i := 7) rfl)) rfl
theorem aw_506 : Cond.instanceMethod yX1_gainOf ∈ AL := AL_in (tk_3 _ (List.mem_of_getElem? (i := 8) rfl)) rfl
theorem aw_507 : Cond.selects RX1 yX1_gainOf yX1_gainOf ∈ AL := AL_in (tk_3 _ (List.mem_of_getElem? (i := 9) rfl)) rfl
theorem aw_508 : Cond.code yX1_gainOf cX1_gainOf 5 (some .int) ∈ AL := AL_in (tk_3 _ (List.mem_of_getElem? (i := 10) rfl)) rfl
theorem aw_509 : Cond.methodLink RX8 106 yX8_choose ∈ AL := AL_in (tk_3 _ (List.mem_of_getElem? (i := 11) rfl)) rfl
theorem aw_511 : Cond.instanceMethod yX8_choose ∈ AL := AL_in (tk_3 _ (List.mem_of_getElem? (i := 13) rfl)) rfl
theorem aw_512 : Cond.code yX8_choose cX8_choose 2 none ∈ AL := AL_in (tk_3 _ (List.mem_of_getElem? (i := 14) rfl)) rfl
theorem aw_513 : Cond.methodLink RX8 117 arraycopyName ∈ AL := AL_in (tk_3 _ (List.mem_of_getElem? (i := 15) rfl)) rfl
theorem aw_514 : Cond.static arraycopyName ∈ AL := AL_in (tk_3 _ (List.mem_of_getElem? (i := 16) rfl)) rfl
theorem aw_515 : Cond.native arraycopyName ∈ AL := AL_in (tk_3 _ (List.mem_of_getElem? (i := 17) rfl)) rfl
theorem aw_516 : Cond.methodLink RX8 85 yX8_pass ∈ AL := AL_in (tk_3 _ (List.mem_of_getElem? (i := 18) rfl)) rfl
theorem aw_518 : Cond.instanceMethod yX8_pass ∈ AL := AL_in (tk_3 _ (List.mem_of_getElem? (i := 20) rfl)) rfl
theorem aw_519 : Cond.code yX8_pass cX8_pass 10 none ∈ AL := AL_in (tk_3 _ (List.mem_of_getElem? (i := 21) rfl)) rfl
theorem aw_520 : Cond.methodLink RX8 123 yX8_daysOfStep ∈ AL := AL_in (tk_3 _ (List.mem_of_getElem? (i := 22) rfl)) rfl
theorem aw_522 : Cond.instanceMethod yX8_daysOfStep ∈ AL := AL_in (tk_3 _ (List.mem_of_getElem? (i := 24) rfl)) rfl
theorem aw_523 : Cond.code yX8_daysOfStep cX8_daysOfStep 6 (some .int) ∈ AL := AL_in (tk_3 _ (List.mem_of_getElem? (i := 25) rfl)) rfl
theorem aw_524 : Cond.methodLink RX8 130 yX8_drawnWarmth ∈ AL := AL_in (tk_3 _ (List.mem_of_getElem? (i := 26) rfl)) rfl
theorem aw_526 : Cond.instanceMethod yX8_drawnWarmth ∈ AL := AL_in (tk_3 _ (List.mem_of_getElem? (i := 28) rfl)) rfl
theorem aw_527 : Cond.code yX8_drawnWarmth cX8_drawnWarmth 3 (some .int) ∈ AL := AL_in (tk_3 _ (List.mem_of_getElem? (i := 29) rfl)) rfl
theorem aw_528 : Cond.constantLong RX8 146 (1103515245) ∈ AL := AL_in (tk_3 _ (List.mem_of_getElem? (i := 30) rfl)) rfl
theorem aw_529 : Cond.constantLong RX8 148 (12345) ∈ AL := AL_in (tk_3 _ (List.mem_of_getElem? (i := 31) rfl)) rfl
theorem aw_530 : Cond.constantLong RX8 150 (2147483648) ∈ AL := AL_in (tk_3 _ (List.mem_of_getElem? (i := 32) rfl)) rfl
theorem aw_531 : Cond.constantLong RX8 152 (65536) ∈ AL := AL_in (tk_3 _ (List.mem_of_getElem? (i := 33) rfl)) rfl
theorem aw_532 : Cond.constantLong RX8 154 (3) ∈ AL := AL_in (tk_3 _ (List.mem_of_getElem? (i := 34) rfl)) rfl
theorem aw_533 : Cond.methodLink RX8 134 yX0_meltOf ∈ AL := AL_in (tk_3 _ (List.mem_of_getElem? (i := 35) rfl)) rfl
theorem aw_534 : Cond.instanceMethod yX0_meltOf ∈ AL := AL_in (tk_3 _ (List.mem_of_getElem? (i := 36) rfl)) rfl
theorem aw_535 : Cond.selects RX0 yX0_meltOf yX0_meltOf ∈ AL := AL_in (tk_3 _ (List.mem_of_getElem? (i := 37) rfl)) rfl
theorem aw_536 : Cond.code yX0_meltOf cX0_meltOf 5 (some .int) ∈ AL := AL_in (tk_3 _ (List.mem_of_getElem? (i := 38) rfl)) rfl
theorem aw_537 : Cond.methodLink RX8 140 yX0_breaksOn ∈ AL := AL_in (tk_3 _ (List.mem_of_getElem? (i := 39) rfl)) rfl
theorem aw_538 : Cond.instanceMethod yX0_breaksOn ∈ AL := AL_in (tk_3 _ (List.mem_of_getElem? (i := 40) rfl)) rfl
theorem aw_539 : Cond.selects RX0 yX0_breaksOn yX0_breaksOn ∈ AL := AL_in (tk_3 _ (List.mem_of_getElem? (i := 41) rfl)) rfl
theorem aw_540 : Cond.code yX0_breaksOn cX0_breaksOn 2 (some .boolean) ∈ AL := AL_in (tk_3 _ (List.mem_of_getElem? (i := 42) rfl)) rfl
theorem aw_541 : Cond.methodLink RX9 200 yX8_stepAt ∈ AL := AL_in (tk_3 _ (List.mem_of_getElem? (i := 43) rfl)) rfl
theorem aw_542 : Cond.instanceMethod yX8_stepAt ∈ AL := AL_in (tk_3 _ (List.mem_of_getElem? (i := 44) rfl)) rfl
theorem aw_543 : Cond.selects RX8 yX8_stepAt yX8_stepAt ∈ AL := AL_in (tk_3 _ (List.mem_of_getElem? (i := 45) rfl)) rfl
theorem aw_544 : Cond.code yX8_stepAt cX8_stepAt 2 (some .int) ∈ AL := AL_in (tk_3 _ (List.mem_of_getElem? (i := 46) rfl)) rfl
theorem aw_545 : Cond.methodLink RL 84 yX9_ways ∈ AL := AL_in (tk_3 _ (List.mem_of_getElem? (i := 47) rfl)) rfl
theorem aw_546 : Cond.instanceMethod yX9_ways ∈ AL := AL_in (tk_3 _ (List.mem_of_getElem? (i := 48) rfl)) rfl
theorem aw_547 : Cond.selects RX9 yX9_ways yX9_ways ∈ AL := AL_in (tk_3 _ (List.mem_of_getElem? (i := 49) rfl)) rfl
theorem aw_548 : Cond.code yX9_ways cX9_ways 2 (some .int) ∈ AL := AL_in (tk_3 _ (List.mem_of_getElem? (i := 50) rfl)) rfl
theorem aw_549 : Cond.methodLink RL 88 yX9_best ∈ AL := AL_in (tk_3 _ (List.mem_of_getElem? (i := 51) rfl)) rfl
theorem aw_550 : Cond.instanceMethod yX9_best ∈ AL := AL_in (tk_3 _ (List.mem_of_getElem? (i := 52) rfl)) rfl
theorem aw_551 : Cond.selects RX9 yX9_best yX9_best ∈ AL := AL_in (tk_3 _ (List.mem_of_getElem? (i := 53) rfl)) rfl
theorem aw_552 : Cond.code yX9_best cX9_best 4 (some .int) ∈ AL := AL_in (tk_3 _ (List.mem_of_getElem? (i := 54) rfl)) rfl
theorem aw_553 : Cond.methodLink RX9 207 yX9_weigh ∈ AL := AL_in (tk_3 _ (List.mem_of_getElem? (i := 55) rfl)) rfl
theorem aw_555 : Cond.instanceMethod yX9_weigh ∈ AL := AL_in (tk_3 _ (List.mem_of_getElem? (i := 57) rfl)) rfl
theorem aw_556 : Cond.code yX9_weigh cX9_weigh 3 none ∈ AL := AL_in (tk_3 _ (List.mem_of_getElem? (i := 58) rfl)) rfl
theorem aw_557 : Cond.methodLink RX9 213 yX3_tugsOf ∈ AL := AL_in (tk_3 _ (List.mem_of_getElem? (i := 59) rfl)) rfl
theorem aw_558 : Cond.static yX3_tugsOf ∈ AL := AL_in (tk_3 _ (List.mem_of_getElem? (i := 60) rfl)) rfl
theorem aw_559 : Cond.code yX3_tugsOf cX3_tugsOf 1 (some .int) ∈ AL := AL_in (tk_3 _ (List.mem_of_getElem? (i := 61) rfl)) rfl
theorem aw_560 : Cond.methodLink RX9 216 yX3_hasSkirt ∈ AL := AL_in (tk_3 _ (List.mem_of_getElem? (i := 62) rfl)) rfl
theorem aw_561 : Cond.static yX3_hasSkirt ∈ AL := AL_in (tk_3 _ (List.mem_of_getElem? (i := 63) rfl)) rfl
theorem aw_562 : Cond.code yX3_hasSkirt cX3_hasSkirt 1 (some .boolean) ∈ AL := AL_in (tk_3 _ (List.mem_of_getElem? (i := 64) rfl)) rfl
theorem aw_563 : Cond.methodLink RX9 210 yX3_bestEntry ∈ AL := AL_in (tk_3 _ (List.mem_of_getElem? (i := 65) rfl)) rfl
theorem aw_564 : Cond.instanceMethod yX3_bestEntry ∈ AL := AL_in (tk_3 _ (List.mem_of_getElem? (i := 66) rfl)) rfl
theorem aw_565 : Cond.selects RX3 yX3_bestEntry yX3_bestEntry ∈ AL := AL_in (tk_3 _ (List.mem_of_getElem? (i := 67) rfl)) rfl
theorem aw_566 : Cond.code yX3_bestEntry cX3_bestEntry 4 (some .int) ∈ AL := AL_in (tk_3 _ (List.mem_of_getElem? (i := 68) rfl)) rfl
theorem aw_567 : Cond.methodLink RL 110 yX9_season ∈ AL := AL_in (tk_3 _ (List.mem_of_getElem? (i := 69) rfl)) rfl
theorem aw_568 : Cond.instanceMethod yX9_season ∈ AL := AL_in (tk_3 _ (List.mem_of_getElem? (i := 70) rfl)) rfl
theorem aw_569 : Cond.selects RX9 yX9_season yX9_season ∈ AL := AL_in (tk_3 _ (List.mem_of_getElem? (i := 71) rfl)) rfl
theorem aw_570 : Cond.code yX9_season cX9_season 4 (some .int) ∈ AL := AL_in (tk_3 _ (List.mem_of_getElem? (i := 72) rfl)) rfl
theorem aw_571 : Cond.methodLink RX9 223 yX3_deal ∈ AL := AL_in (tk_3 _ (List.mem_of_getElem? (i := 73) rfl)) rfl
theorem aw_572 : Cond.instanceMethod yX3_deal ∈ AL := AL_in (tk_3 _ (List.mem_of_getElem? (i := 74) rfl)) rfl
theorem aw_573 : Cond.selects RX3 yX3_deal yX3_deal ∈ AL := AL_in (tk_3 _ (List.mem_of_getElem? (i := 75) rfl)) rfl
theorem aw_574 : Cond.code yX3_deal cX3_deal 4 none ∈ AL := AL_in (tk_3 _ (List.mem_of_getElem? (i := 76) rfl)) rfl
theorem aw_575 : Cond.methodLink RX3 26 yX3_mostFrom ∈ AL := AL_in (tk_3 _ (List.mem_of_getElem? (i := 77) rfl)) rfl
theorem aw_577 : Cond.instanceMethod yX3_mostFrom ∈ AL := AL_in (tk_3 _ (List.mem_of_getElem? (i := 79) rfl)) rfl
theorem aw_578 : Cond.code yX3_mostFrom cX3_mostFrom 5 (some .int) ∈ AL := AL_in (tk_3 _ (List.mem_of_getElem? (i := 80) rfl)) rfl
theorem aw_579 : Cond.methodLink RX3 30 yX3_gainBy ∈ AL := AL_in (tk_3 _ (List.mem_of_getElem? (i := 81) rfl)) rfl
theorem aw_581 : Cond.instanceMethod yX3_gainBy ∈ AL := AL_in (tk_3 _ (List.mem_of_getElem? (i := 83) rfl)) rfl
theorem aw_582 : Cond.code yX3_gainBy cX3_gainBy 3 (some .int) ∈ AL := AL_in (tk_3 _ (List.mem_of_getElem? (i := 84) rfl)) rfl
theorem aw_583 : Cond.methodLink RX3 33 Lib.Math.max.name ∈ AL := AL_in (tk_3 _ (List.mem_of_getElem? (i := 85) rfl)) rfl
theorem aw_584 : Cond.methodLink RX9 229 yX3_tugsFor ∈ AL := AL_in (tk_3 _ (List.mem_of_getElem? (i := 86) rfl)) rfl
theorem aw_585 : Cond.instanceMethod yX3_tugsFor ∈ AL := AL_in (tk_3 _ (List.mem_of_getElem? (i := 87) rfl)) rfl
theorem aw_586 : Cond.selects RX3 yX3_tugsFor yX3_tugsFor ∈ AL := AL_in (tk_3 _ (List.mem_of_getElem? (i := 88) rfl)) rfl
theorem aw_587 : Cond.code yX3_tugsFor cX3_tugsFor 5 (some .int) ∈ AL := AL_in (tk_3 _ (List.mem_of_getElem? (i := 89) rfl)) rfl
theorem aw_588 : Cond.methodLink RX3 38 yX3_fewestFor ∈ AL := AL_in (tk_3 _ (List.mem_of_getElem? (i := 90) rfl)) rfl
theorem aw_590 : Cond.instanceMethod yX3_fewestFor ∈ AL := AL_in (tk_3 _ (List.mem_of_getElem? (i := 92) rfl)) rfl
theorem aw_591 : Cond.code yX3_fewestFor cX3_fewestFor 4 (some .int) ∈ AL := AL_in (tk_3 _ (List.mem_of_getElem? (i := 93) rfl)) rfl
theorem aw_592 : Cond.methodLink RL 98 yX9_more ∈ AL := AL_in (tk_3 _ (List.mem_of_getElem? (i := 94) rfl)) rfl
theorem aw_593 : Cond.instanceMethod yX9_more ∈ AL := AL_in (tk_3 _ (List.mem_of_getElem? (i := 95) rfl)) rfl
theorem aw_594 : Cond.selects RX9 yX9_more yX9_more ∈ AL := AL_in (tk_3 _ (List.mem_of_getElem? (i := 96) rfl)) rfl
theorem aw_595 : Cond.code yX9_more cX9_more 2 (some .int) ∈ AL := AL_in (tk_3 _ (List.mem_of_getElem? (i := 97) rfl)) rfl
theorem aw_596 : Cond.methodLink RX9 232 yX9_season ∈ AL := AL_in (tk_3 _ (List.mem_of_getElem? (i := 98) rfl)) rfl
theorem aw_597 : Cond.methodLink RL 112 yX9_drawn ∈ AL := AL_in (tk_3 _ (List.mem_of_getElem? (i := 99) rfl)) rfl
theorem aw_598 : Cond.instanceMethod yX9_drawn ∈ AL := AL_in (tk_3 _ (List.mem_of_getElem? (i := 100) rfl)) rfl
theorem aw_599 : Cond.selects RX9 yX9_drawn yX9_drawn ∈ AL := AL_in (tk_3 _ (List.mem_of_getElem? (i := 101) rfl)) rfl
theorem aw_600 : Cond.code yX9_drawn cX9_drawn 6 (some .int) ∈ AL := AL_in (tk_3 _ (List.mem_of_getElem? (i := 102) rfl)) rfl
theorem aw_601 : Cond.methodLink RX9 235 yX8_towAgain ∈ AL := AL_in (tk_3 _ (List.mem_of_getElem? (i := 103) rfl)) rfl
theorem aw_602 : Cond.instanceMethod yX8_towAgain ∈ AL := AL_in (tk_3 _ (List.mem_of_getElem? (i := 104) rfl)) rfl
theorem aw_603 : Cond.selects RX8 yX8_towAgain yX8_towAgain ∈ AL := AL_in (tk_3 _ (List.mem_of_getElem? (i := 105) rfl)) rfl
theorem aw_604 : Cond.code yX8_towAgain cX8_towAgain 4 none ∈ AL := AL_in (tk_3 _ (List.mem_of_getElem? (i := 106) rfl)) rfl
theorem aw_605 : Cond.methodLink RL 116 yX9_came ∈ AL := AL_in (tk_3 _ (List.mem_of_getElem? (i := 107) rfl)) rfl
theorem aw_606 : Cond.instanceMethod yX9_came ∈ AL := AL_in (tk_3 _ (List.mem_of_getElem? (i := 108) rfl)) rfl
theorem aw_607 : Cond.selects RX9 yX9_came yX9_came ∈ AL := AL_in (tk_3 _ (List.mem_of_getElem? (i := 109) rfl)) rfl
theorem aw_608 : Cond.code yX9_came cX9_came 10 (some .int) ∈ AL := AL_in (tk_3 _ (List.mem_of_getElem? (i := 110) rfl)) rfl
theorem aw_609 : Cond.methodLink RL 8 yL_cell ∈ AL := AL_in (tk_3 _ (List.mem_of_getElem? (i := 111) rfl)) rfl
theorem aw_610 : Cond.static yL_cell ∈ AL := AL_in (tk_3 _ (List.mem_of_getElem? (i := 112) rfl)) rfl
theorem aw_611 : Cond.code yL_cell cL_cell 2 (some .int) ∈ AL := AL_in (tk_3 _ (List.mem_of_getElem? (i := 113) rfl)) rfl
theorem aw_612 : Cond.constant RL 7 (747796405) ∈ AL := AL_in (tk_3 _ (List.mem_of_getElem? (i := 114) rfl)) rfl
theorem aw_613 : Cond.methodLink RL 14 yL_at ∈ AL := AL_in (tk_3 _ (List.mem_of_getElem? (i := 115) rfl)) rfl
theorem aw_614 : Cond.static yL_at ∈ AL := AL_in (tk_3 _ (List.mem_of_getElem? (i := 116) rfl)) rfl
theorem aw_615 : Cond.code yL_at cL_at 2 (some .int) ∈ AL := AL_in (tk_3 _ (List.mem_of_getElem? (i := 117) rfl)) rfl
theorem aw_616 : Cond.methodLink RL 48 yL_seaText ∈ AL := AL_in (tk_3 _ (List.mem_of_getElem? (i := 118) rfl)) rfl
theorem aw_617 : Cond.static yL_seaText ∈ AL := AL_in (tk_3 _ (List.mem_of_getElem? (i := 119) rfl)) rfl
theorem aw_618 : Cond.code yL_seaText cL_seaText 8 (some .int) ∈ AL := AL_in (tk_3 _ (List.mem_of_getElem? (i := 120) rfl)) rfl
theorem aw_619 : Cond.methodLink RL 52 yL_write ∈ AL := AL_in (tk_3 _ (List.mem_of_getElem? (i := 121) rfl)) rfl
theorem aw_620 : Cond.static yL_write ∈ AL := AL_in (tk_3 _ (List.mem_of_getElem? (i := 122) rfl)) rfl
theorem aw_621 : Cond.code yL_write cL_write 4 (some .boolean) ∈ AL := AL_in (tk_3 _ (List.mem_of_getElem? (i := 123) rfl)) rfl
theorem aw_622 : Cond.methodLink RL 18 yX9_letters ∈ AL := AL_in (tk_3 _ (List.mem_of_getElem? (i := 124) rfl)) rfl
theorem aw_623 : Cond.instanceMethod yX9_letters ∈ AL := AL_in (tk_3 _ (List.mem_of_getElem? (i := 125) rfl)) rfl
theorem aw_624 : Cond.selects RX9 yX9_letters yX9_letters ∈ AL := AL_in (tk_3 _ (List.mem_of_getElem? (i := 126) rfl)) rfl
theorem aw_625 : Cond.code yX9_letters cX9_letters 3 (some .int) ∈ AL := AL_in (tk_3 _ (List.mem_of_getElem? (i := 127) rfl)) rfl
theorem aw_626 : Cond.methodLink RX9 70 yX6_append ∈ AL := AL_in (tk_3 _ (List.mem_of_getElem? (i := 128) rfl)) rfl
theorem aw_627 : Cond.instanceMethod yX6_append ∈ AL := AL_in (tk_3 _ (List.mem_of_getElem? (i := 129) rfl)) rfl
theorem aw_628 : Cond.selects RX6 yX6_append yX6_append ∈ AL := AL_in (tk_3 _ (List.mem_of_getElem? (i := 130) rfl)) rfl
theorem aw_629 : Cond.code yX6_append cX6_append 7 (some .int) ∈ AL := AL_in (tk_3 _ (List.mem_of_getElem? (i := 131) rfl)) rfl
theorem aw_630 : Cond.methodLink RX6 15 yX6_byteOf ∈ AL := AL_in (tk_3 _ (List.mem_of_getElem? (i := 132) rfl)) rfl
theorem aw_631 : Cond.static yX6_byteOf ∈ AL := AL_in (tk_3 _ (List.mem_of_getElem? (i := 133) rfl)) rfl
theorem aw_632 : Cond.code yX6_byteOf cX6_byteOf 3 (some .int) ∈ AL := AL_in (tk_3 _ (List.mem_of_getElem? (i := 134) rfl)) rfl
theorem aw_633 : Cond.methodLink RL 32 yL_far ∈ AL := AL_in (tk_3 _ (List.mem_of_getElem? (i := 135) rfl)) rfl
theorem aw_634 : Cond.static yL_far ∈ AL := AL_in (tk_3 _ (List.mem_of_getElem? (i := 136) rfl)) rfl
theorem aw_635 : Cond.code yL_far cL_far 4 (some .int) ∈ AL := AL_in (tk_3 _ (List.mem_of_getElem? (i := 137) rfl)) rfl
theorem aw_636 : Cond.methodLink RL 66 yL_bergs ∈ AL := AL_in (tk_3 _ (List.mem_of_getElem? (i := 138) rfl)) rfl
theorem aw_637 : Cond.static yL_bergs ∈ AL := AL_in (tk_3 _ (List.mem_of_getElem? (i := 139) rfl)) rfl
theorem aw_638 : Cond.code yL_bergs cL_bergs 15 (some .boolean) ∈ AL := AL_in (tk_3 _ (List.mem_of_getElem? (i := 140) rfl)) rfl
theorem aw_639 : Cond.methodLink RL 24 yX9_berg ∈ AL := AL_in (tk_3 _ (List.mem_of_getElem? (i := 141) rfl)) rfl
theorem aw_640 : Cond.instanceMethod yX9_berg ∈ AL := AL_in (tk_3 _ (List.mem_of_getElem? (i := 142) rfl)) rfl
theorem aw_641 : Cond.selects RX9 yX9_berg yX9_berg ∈ AL := AL_in (tk_3 _ (List.mem_of_getElem? (i := 143) rfl)) rfl
theorem aw_642 : Cond.code yX9_berg cX9_berg 6 (some .int) ∈ AL := AL_in (tk_3 _ (List.mem_of_getElem? (i := 144) rfl)) rfl
theorem aw_643 : Cond.methodLink RX9 122 yX7_hasWarmth ∈ AL := AL_in (tk_3 _ (List.mem_of_getElem? (i := 145) rfl)) rfl
theorem aw_644 : Cond.instanceMethod yX7_hasWarmth ∈ AL := AL_in (tk_3 _ (List.mem_of_getElem? (i := 146) rfl)) rfl
theorem aw_645 : Cond.selects RX7 yX7_hasWarmth yX7_hasWarmth ∈ AL := AL_in (tk_3 _ (List.mem_of_getElem? (i := 147) rfl)) rfl
theorem aw_646 : Cond.code yX7_hasWarmth cX7_hasWarmth 2 (some .boolean) ∈ AL := AL_in (tk_3 _ (List.mem_of_getElem? (i := 148) rfl)) rfl
theorem aw_647 : Cond.methodLink RX7 33 yX7_has ∈ AL := AL_in (tk_3 _ (List.mem_of_getElem? (i := 149) rfl)) rfl
theorem aw_648 : Cond.methodLink RX9 131 yX0_mayBreak ∈ AL := AL_in (tk_3 _ (List.mem_of_getElem? (i := 150) rfl)) rfl
theorem aw_649 : Cond.static yX0_mayBreak ∈ AL := AL_in (tk_3 _ (List.mem_of_getElem? (i := 151) rfl)) rfl
theorem aw_650 : Cond.code yX0_mayBreak cX0_mayBreak 2 (some .boolean) ∈ AL := AL_in (tk_3 _ (List.mem_of_getElem? (i := 152) rfl)) rfl
theorem aw_651 : Cond.methodLink RX9 135 yX0_become ∈ AL := AL_in (tk_3 _ (List.mem_of_getElem? (i := 153) rfl)) rfl
theorem aw_652 : Cond.instanceMethod yX0_become ∈ AL := AL_in (tk_3 _ (List.mem_of_getElem? (i := 154) rfl)) rfl
theorem aw_653 : Cond.selects RX0 yX0_become yX0_become ∈ AL := AL_in (tk_3 _ (List.mem_of_getElem? (i := 155) rfl)) rfl
theorem aw_654 : Cond.code yX0_become cX0_become 6 none ∈ AL := AL_in (tk_3 _ (List.mem_of_getElem? (i := 156) rfl)) rfl
theorem aw_655 : Cond.methodLink RL 80 yL_best ∈ AL := AL_in (tk_3 _ (List.mem_of_getElem? (i := 157) rfl)) rfl
theorem aw_656 : Cond.static yL_best ∈ AL := AL_in (tk_3 _ (List.mem_of_getElem? (i := 158) rfl)) rfl
theorem aw_657 : Cond.code yL_best cL_best 16 none ∈ AL := AL_in (tk_3 _ (List.mem_of_getElem? (i := 159) rfl)) rfl
theorem aw_658 : Cond.methodLink RL 43 yL_way ∈ AL := AL_in (tk_3 _ (List.mem_of_getElem? (i := 160) rfl)) rfl
theorem aw_659 : Cond.static yL_way ∈ AL := AL_in (tk_3 _ (List.mem_of_getElem? (i := 161) rfl)) rfl
theorem aw_660 : Cond.code yL_way cL_way 14 (some .boolean) ∈ AL := AL_in (tk_3 _ (List.mem_of_getElem? (i := 162) rfl)) rfl
theorem aw_661 : Cond.methodLink RL 28 yL_beside ∈ AL := AL_in (tk_3 _ (List.mem_of_getElem? (i := 163) rfl)) rfl
theorem aw_662 : Cond.static yL_beside ∈ AL := AL_in (tk_3 _ (List.mem_of_getElem? (i := 164) rfl)) rfl
theorem aw_663 : Cond.code yL_beside cL_beside 3 (some .int) ∈ AL := AL_in (tk_3 _ (List.mem_of_getElem? (i := 165) rfl)) rfl
theorem aw_664 : Cond.methodLink RL 35 yL_daysOf ∈ AL := AL_in (tk_3 _ (List.mem_of_getElem? (i := 166) rfl)) rfl
theorem aw_665 : Cond.static yL_daysOf ∈ AL := AL_in (tk_3 _ (List.mem_of_getElem? (i := 167) rfl)) rfl
theorem aw_666 : Cond.code yL_daysOf cL_daysOf 6 (some .int) ∈ AL := AL_in (tk_3 _ (List.mem_of_getElem? (i := 168) rfl)) rfl
theorem aw_667 : Cond.methodLink RL 39 yL_day ∈ AL := AL_in (tk_3 _ (List.mem_of_getElem? (i := 169) rfl)) rfl
theorem aw_668 : Cond.static yL_day ∈ AL := AL_in (tk_3 _ (List.mem_of_getElem? (i := 170) rfl)) rfl
theorem aw_669 : Cond.code yL_day cL_day 6 none ∈ AL := AL_in (tk_3 _ (List.mem_of_getElem? (i := 171) rfl)) rfl
theorem aw_670 : Cond.methodLink RL 90 yL_tows ∈ AL := AL_in (tk_3 _ (List.mem_of_getElem? (i := 172) rfl)) rfl
theorem aw_671 : Cond.static yL_tows ∈ AL := AL_in (tk_3 _ (List.mem_of_getElem? (i := 173) rfl)) rfl
theorem aw_672 : Cond.code yL_tows cL_tows 20 (some .boolean) ∈ AL := AL_in (tk_3 _ (List.mem_of_getElem? (i := 174) rfl)) rfl
theorem aw_673 : Cond.constant RL 120 (2147483647) ∈ AL := AL_in (tk_3 _ (List.mem_of_getElem? (i := 175) rfl)) rfl
theorem aw_674 : Cond.constant RL 79 (-100001) ∈ AL := AL_in (tk_3 _ (List.mem_of_getElem? (i := 176) rfl)) rfl
theorem aw_675 : Cond.constantLong RL 121 (1103515245) ∈ AL := AL_in (tk_3 _ (List.mem_of_getElem? (i := 177) rfl)) rfl
theorem aw_676 : Cond.constantLong RL 123 (12345) ∈ AL := AL_in (tk_3 _ (List.mem_of_getElem? (i := 178) rfl)) rfl
theorem aw_677 : Cond.constantLong RL 125 (2147483648) ∈ AL := AL_in (tk_3 _ (List.mem_of_getElem? (i := 179) rfl)) rfl
theorem aw_678 : Cond.constantLong RL 127 (65536) ∈ AL := AL_in (tk_3 _ (List.mem_of_getElem? (i := 180) rfl)) rfl
theorem aw_679 : Cond.constantLong RL 129 (3) ∈ AL := AL_in (tk_3 _ (List.mem_of_getElem? (i := 181) rfl)) rfl
theorem aw_680 : Cond.methodLink RL 94 yL_season ∈ AL := AL_in (tk_3 _ (List.mem_of_getElem? (i := 182) rfl)) rfl
theorem aw_681 : Cond.static yL_season ∈ AL := AL_in (tk_3 _ (List.mem_of_getElem? (i := 183) rfl)) rfl
theorem aw_682 : Cond.code yL_season cL_season 12 (some .int) ∈ AL := AL_in (tk_3 _ (List.mem_of_getElem? (i := 184) rfl)) rfl
theorem aw_683 : Cond.constant RL 109 (-100101) ∈ AL := AL_in (tk_3 _ (List.mem_of_getElem? (i := 185) rfl)) rfl
theorem aw_684 : Cond.constant RL 119 (-100102) ∈ AL := AL_in (tk_3 _ (List.mem_of_getElem? (i := 186) rfl)) rfl
