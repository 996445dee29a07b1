/-! ===== the tables' words by their places ===== -/
theorem AL_of (ws : List Cond) (ps : List Nat) (hp : ws = ps.filterMap (fun i => lw_tbl[i]?)) (h : ws.all goodWord = true) : ∀ w ∈ ws, w ∈ AL := by
  intro w hw
  have h1 := List.all_eq_true.mp h w hw
  rw [hp] at hw
  obtain ⟨i, -, hi⟩ := List.mem_filterMap.mp hw
  exact AL_in (List.mem_of_getElem? hi) h1
theorem NW_of (ws : List Cond) (ps : List Nat) (hp : ws = ps.filterMap (fun i => lw_tbl[i]?)) (h : ws.all isNest = true) : ∀ w ∈ ws, w ∈ NW := by
  intro w hw
  have h1 := List.all_eq_true.mp h w hw
  rw [hp] at hw
  obtain ⟨i, -, hi⟩ := List.mem_filterMap.mp hw
  exact NW_in (List.mem_of_getElem? hi) h1
theorem inA0 : ∀ w ∈ wsX00, w ∈ AL := AL_of _ [179, 181, 183, 185, 187, 189] (by decide +kernel) (by decide +kernel)
theorem inA1 : ∀ w ∈ wsX10, w ∈ AL := AL_of _ [154] (by decide +kernel) (by decide +kernel)
theorem inA2 : ∀ w ∈ wsX20, w ∈ AL := AL_of _ [291, 293, 295, 297, 299, 301] (by decide +kernel) (by decide +kernel)
theorem inA3 : ∀ w ∈ wsX30, w ∈ AL := AL_of _ [319, 321, 323, 325] (by decide +kernel) (by decide +kernel)
theorem inA4 : ∀ w ∈ wsX40, w ∈ AL := AL_of _ [267, 269, 271, 273] (by decide +kernel) (by decide +kernel)
theorem inA5 : ∀ w ∈ wsX50, w ∈ AL := AL_of _ [342, 344, 346, 348] (by decide +kernel) (by decide +kernel)
theorem inA6 : ∀ w ∈ wsX60, w ∈ AL := AL_of _ [82, 84, 86, 88, 90, 92, 94] (by decide +kernel) (by decide +kernel)
theorem inA7 : ∀ w ∈ wsX70, w ∈ AL := AL_of _ [129, 131, 133, 135, 137, 139, 141, 143] (by decide +kernel) (by decide +kernel)
theorem inA8 : ∀ w ∈ wsX80, w ∈ AL := AL_of _ [216, 218, 220, 222, 224, 226, 228, 230, 232, 234, 236, 238, 240, 242, 244, 246, 248] (by decide +kernel) (by decide +kernel)
theorem inA9 : ∀ w ∈ wsX90, w ∈ AL := AL_of _ [365, 367, 369, 371, 373, 375, 377, 379, 381, 383, 385, 387] (by decide +kernel) (by decide +kernel)
theorem inA10 : ∀ w ∈ wsX100, w ∈ AL := AL_of _ [841, 843, 845, 847, 849, 851, 853, 855, 857, 859, 861, 863, 865, 867, 869, 871, 873, 875, 877, 879, 881, 883, 885, 887, 889, 891, 893, 895, 897, 899, 901, 903, 905, 907, 909, 911, 913, 915, 917, 919, 921, 923, 925, 927, 929, 931, 933, 935, 937, 939, 941, 943] (by decide +kernel) (by decide +kernel)
def uw_0 : List Cond := [Cond.selects RX6 yX6_takes yX6_takes,
  Cond.selects RX6 yX6_takesRowEnd yX6_takesRowEnd,
  Cond.selects RX6 yX6_takesSquare yX6_takesSquare,
  Cond.selects RX7 yX7_layLetter yX7_layLetter,
  Cond.selects RX7 yX7_measure yX7_measure,
  Cond.selects RX7 yX7_openWays yX7_openWays,
  Cond.selects RX7 yX7_beside yX7_beside,
  Cond.selects RX9 yX9_isBerg yX9_isBerg,
  Cond.selects RX9 yX9_hasWay yX9_hasWay,
  Cond.selects RX8 yX8_isHopeless yX8_isHopeless,
  Cond.selects RX8 yX8_choose yX8_choose,
  Cond.selects RX8 yX8_pass yX8_pass,
  Cond.selects RX8 yX8_daysOfStep yX8_daysOfStep,
  Cond.selects RX8 yX8_drawnWarmth yX8_drawnWarmth,
  Cond.selects RX9 yX9_weigh yX9_weigh,
  Cond.selects RX3 yX3_mostFrom yX3_mostFrom,
  Cond.selects RX3 yX3_gainBy yX3_gainBy,
  Cond.selects RX3 yX3_fewestFor yX3_fewestFor,
  Cond.selects RX5 yX5_letOffNow yX5_letOffNow,
  Cond.selects RX5 yX5_heldNow yX5_heldNow,
  Cond.selects RX4 yX4_counts yX4_counts,
  Cond.selects RX10 yX10_faultOf yX10_faultOf,
  Cond.selects RX10 yX10_go yX10_go,
  Cond.selects RX10 yX10_readAt yX10_readAt,
  Cond.selects RX10 yX10_isSquare yX10_isSquare,
  Cond.selects RX10 yX10_tellSquare yX10_tellSquare,
  Cond.selects RX10 yX10_farOf yX10_farOf,
  Cond.selects RX10 yX10_isBerg yX10_isBerg,
  Cond.selects RX10 yX10_tellTow yX10_tellTow,
  Cond.selects RX10 yX10_ownSize yX10_ownSize,
  Cond.selects RX10 yX10_layWays yX10_layWays,
  Cond.selects RX10 yX10_to yX10_to,
  Cond.selects RX10 yX10_tryWay yX10_tryWay,
  Cond.selects RX10 yX10_begin yX10_begin,
  Cond.selects RX10 yX10_towAll yX10_towAll,
  Cond.selects RX10 yX10_step yX10_step,
  Cond.selects RX10 yX10_day yX10_day,
  Cond.selects RX10 yX10_draw yX10_draw,
  Cond.selects RX10 yX10_waysOf yX10_waysOf,
  Cond.selects RX10 yX10_tellBest yX10_tellBest]
theorem uw_0_in : ∀ w ∈ uw_0, w ∈ AL := AL_of _ [0, 1, 2, 3, 4, 5, 6, 7, 8, 9, 10, 11, 12, 13, 14, 15, 16, 17, 18, 19, 20, 21, 22, 23, 24, 25, 26, 27, 28, 29, 30, 31, 32, 33, 34, 35, 36, 37, 38, 39] (by decide +kernel) (by decide +kernel)
theorem aw_0 : Cond.selects RX6 yX6_takes yX6_takes ∈ AL := uw_0_in _ (List.mem_of_getElem? (i := 0) rfl)
theorem aw_1 : Cond.selects RX6 yX6_takesRowEnd yX6_takesRowEnd ∈ AL := uw_0_in _ (List.mem_of_getElem? (i := 1) rfl)
theorem aw_2 : Cond.selects RX6 yX6_takesSquare yX6_takesSquare ∈ AL := uw_0_in _ (List.mem_of_getElem? (i := 2) rfl)
theorem aw_3 : Cond.selects RX7 yX7_layLetter yX7_layLetter ∈ AL := uw_0_in _ (List.mem_of_getElem? (i := 3) rfl)
theorem aw_4 : Cond.selects RX7 yX7_measure yX7_measure ∈ AL := uw_0_in _ (List.mem_of_getElem? (i := 4) rfl)
theorem aw_5 : Cond.selects RX7 yX7_openWays yX7_openWays ∈ AL := uw_0_in _ (List.mem_of_getElem? (i := 5) rfl)
theorem aw_6 : Cond.selects RX7 yX7_beside yX7_beside ∈ AL := uw_0_in _ (List.mem_of_getElem? (i := 6) rfl)
theorem aw_7 : Cond.selects RX9 yX9_isBerg yX9_isBerg ∈ AL := uw_0_in _ (List.mem_of_getElem? (i := 7) rfl)
theorem aw_8 : Cond.selects RX9 yX9_hasWay yX9_hasWay ∈ AL := uw_0_in _ (List.mem_of_getElem? (i := 8) rfl)
theorem aw_9 : Cond.selects RX8 yX8_isHopeless yX8_isHopeless ∈ AL := uw_0_in _ (List.mem_of_getElem? (i := 9) rfl)
theorem aw_10 : Cond.selects RX8 yX8_choose yX8_choose ∈ AL := uw_0_in _ (List.mem_of_getElem? (i := 10) rfl)
theorem aw_11 : Cond.selects RX8 yX8_pass yX8_pass ∈ AL := uw_0_in _ (List.mem_of_getElem? (i := 11) rfl)
theorem aw_12 : Cond.selects RX8 yX8_daysOfStep yX8_daysOfStep ∈ AL := uw_0_in _ (List.mem_of_getElem? (i := 12) rfl)
theorem aw_13 : Cond.selects RX8 yX8_drawnWarmth yX8_drawnWarmth ∈ AL := uw_0_in _ (List.mem_of_getElem? (i := 13) rfl)
theorem aw_14 : Cond.selects RX9 yX9_weigh yX9_weigh ∈ AL := uw_0_in _ (List.mem_of_getElem? (i := 14) rfl)
theorem aw_15 : Cond.selects RX3 yX3_mostFrom yX3_mostFrom ∈ AL := uw_0_in _ (List.mem_of_getElem? (i := 15) rfl)
theorem aw_16 : Cond.selects RX3 yX3_gainBy yX3_gainBy ∈ AL := uw_0_in _ (List.mem_of_getElem? (i := 16) rfl)
theorem aw_17 : Cond.selects RX3 yX3_fewestFor yX3_fewestFor ∈ AL := uw_0_in _ (List.mem_of_getElem? (i := 17) rfl)
theorem aw_18 : Cond.selects RX5 yX5_letOffNow yX5_letOffNow ∈ AL := uw_0_in _ (List.mem_of_getElem? (i := 18) rfl)
theorem aw_19 : Cond.selects RX5 yX5_heldNow yX5_heldNow ∈ AL := uw_0_in _ (List.mem_of_getElem? (i := 19) rfl)
theorem aw_20 : Cond.selects RX4 yX4_counts yX4_counts ∈ AL := uw_0_in _ (List.mem_of_getElem? (i := 20) rfl)
theorem aw_21 : Cond.selects RX10 yX10_faultOf yX10_faultOf ∈ AL := uw_0_in _ (List.mem_of_getElem? (i := 21) rfl)
theorem aw_22 : Cond.selects RX10 yX10_go yX10_go ∈ AL := uw_0_in _ (List.mem_of_getElem? (i := 22) rfl)
theorem aw_23 : Cond.selects RX10 yX10_readAt yX10_readAt ∈ AL := uw_0_in _ (List.mem_of_getElem? (i := 23) rfl)
theorem aw_24 : Cond.selects RX10 yX10_isSquare yX10_isSquare ∈ AL := uw_0_in _ (List.mem_of_getElem? (i := 24) rfl)
theorem aw_25 : Cond.selects RX10 yX10_tellSquare yX10_tellSquare ∈ AL := uw_0_in _ (List.mem_of_getElem? (i := 25) rfl)
theorem aw_26 : Cond.selects RX10 yX10_farOf yX10_farOf ∈ AL := uw_0_in _ (List.mem_of_getElem? (i := 26) rfl)
theorem aw_27 : Cond.selects RX10 yX10_isBerg yX10_isBerg ∈ AL := uw_0_in _ (List.mem_of_getElem? (i := 27) rfl)
theorem aw_28 : Cond.selects RX10 yX10_tellTow yX10_tellTow ∈ AL := uw_0_in _ (List.mem_of_getElem? (i := 28) rfl)
theorem aw_29 : Cond.selects RX10 yX10_ownSize yX10_ownSize ∈ AL := uw_0_in _ (List.mem_of_getElem? (i := 29) rfl)
theorem aw_30 : Cond.selects RX10 yX10_layWays yX10_layWays ∈ AL := uw_0_in _ (List.mem_of_getElem? (i := 30) rfl)
theorem aw_31 : Cond.selects RX10 yX10_to yX10_to ∈ AL := uw_0_in _ (List.mem_of_getElem? (i := 31) rfl)
theorem aw_32 : Cond.selects RX10 yX10_tryWay yX10_tryWay ∈ AL := uw_0_in _ (List.mem_of_getElem? (i := 32) rfl)
theorem aw_33 : Cond.selects RX10 yX10_begin yX10_begin ∈ AL := uw_0_in _ (List.mem_of_getElem? (i := 33) rfl)
theorem aw_34 : Cond.selects RX10 yX10_towAll yX10_towAll ∈ AL := uw_0_in _ (List.mem_of_getElem? (i := 34) rfl)
theorem aw_35 : Cond.selects RX10 yX10_step yX10_step ∈ AL := uw_0_in _ (List.mem_of_getElem? (i := 35) rfl)
theorem aw_36 : Cond.selects RX10 yX10_day yX10_day ∈ AL := uw_0_in _ (List.mem_of_getElem? (i := 36) rfl)
theorem aw_37 : Cond.selects RX10 yX10_draw yX10_draw ∈ AL := uw_0_in _ (List.mem_of_getElem? (i := 37) rfl)
theorem aw_38 : Cond.selects RX10 yX10_waysOf yX10_waysOf ∈ AL := uw_0_in _ (List.mem_of_getElem? (i := 38) rfl)
theorem aw_39 : Cond.selects RX10 yX10_tellBest yX10_tellBest ∈ AL := uw_0_in _ (List.mem_of_getElem? (i := 39) rfl)
def uw_1 : List Cond := [Cond.selects RX10 yX10_lacks yX10_lacks,
  Cond.selects RX10 yX10_seasonOf yX10_seasonOf,
  Cond.selects RX10 yX10_countOf yX10_countOf,
  Cond.selects RX10 yX10_say yX10_say,
  Cond.selects RX10 yX10_sayBerg yX10_sayBerg,
  Cond.initialized RX9,
  Cond.initialized RX6,
  Cond.initialized RX8,
  Cond.initialized RX7,
  Cond.initialized RX1,
  Cond.initialized RX0,
  Cond.initialized RX4,
  Cond.initialized RX2,
  Cond.initialized RX3,
  Cond.initialized RX5,
  Cond.initialized RX10,
  Cond.initialized "java/lang/Math",
  Cond.initialized "java/lang/System",
  Cond.fieldLink RX6 11 "IceForCoast$Page" "codes" "[I",
  Cond.fieldLink RX6 19 "IceForCoast$Page" "length" "I",
  Cond.fieldLink RX6 23 "IceForCoast$Page" "row" "I",
  Cond.fieldLink RX6 26 "IceForCoast$Page" "inRow" "I",
  Cond.fieldLink RX6 29 "IceForCoast$Page" "width" "I",
  Cond.fieldLink RX6 32 "IceForCoast$Page" "harbours" "I",
  Cond.fieldLink RX6 35 "IceForCoast$Page" "currentMayCome" "Z",
  Cond.fieldLink RX7 11 "IceForCoast$Sea" "warmth" "[I",
  Cond.fieldLink RX7 15 "IceForCoast$Sea" "current" "[I",
  Cond.fieldLink RX7 18 "IceForCoast$Sea" "far" "[I",
  Cond.fieldLink RX7 21 "IceForCoast$Sea" "waysFrom" "[I",
  Cond.fieldLink RX7 26 "IceForCoast$Sea" "next" "[[I",
  Cond.fieldLink RX7 29 "IceForCoast$Sea" "squares" "I",
  Cond.fieldLink RX7 37 "IceForCoast$Sea" "width" "I",
  Cond.fieldLink RX7 64 "IceForCoast$Sea" "harbour" "I",
  Cond.fieldLink RX1 7 "IceForCoast$Coins" "value" "[I",
  Cond.fieldLink RX0 9 "IceForCoast$Berg" "kind" "I",
  Cond.fieldLink RX0 13 "IceForCoast$Berg" "square" "I",
  Cond.fieldLink RX0 16 "IceForCoast$Berg" "size" "I",
  Cond.fieldLink RX0 19 "IceForCoast$Berg" "foot" "I",
  Cond.fieldLink RX0 22 "IceForCoast$Berg" "n" "I",
  Cond.fieldLink RX0 25 "IceForCoast$Berg" "flat" "Z"]
theorem uw_1_in : ∀ w ∈ uw_1, w ∈ AL := AL_of _ [40, 41, 42, 43, 44, 46, 47, 48, 49, 50, 51, 52, 53, 54, 55, 56, 57, 58, 73, 74, 77, 78, 79, 80, 81, 112, 115, 118, 120, 122, 124, 126, 128, 152, 163, 167, 170, 174, 176, 178] (by decide +kernel) (by decide +kernel)
theorem aw_40 : Cond.selects RX10 yX10_lacks yX10_lacks ∈ AL := uw_1_in _ (List.mem_of_getElem? (i := 0) rfl)
theorem aw_41 : Cond.selects RX10 yX10_seasonOf yX10_seasonOf ∈ AL := uw_1_in _ (List.mem_of_getElem? (i := 1) rfl)
theorem aw_42 : Cond.selects RX10 yX10_countOf yX10_countOf ∈ AL := uw_1_in _ (List.mem_of_getElem? (i := 2) rfl)
theorem aw_43 : Cond.selects RX10 yX10_say yX10_say ∈ AL := uw_1_in _ (List.mem_of_getElem? (i := 3) rfl)
theorem aw_44 : Cond.selects RX10 yX10_sayBerg yX10_sayBerg ∈ AL := uw_1_in _ (List.mem_of_getElem? (i := 4) rfl)
theorem aw_46 : Cond.initialized RX9 ∈ AL := uw_1_in _ (List.mem_of_getElem? (i := 5) rfl)
theorem aw_47 : Cond.initialized RX6 ∈ AL := uw_1_in _ (List.mem_of_getElem? (i := 6) rfl)
theorem aw_48 : Cond.initialized RX8 ∈ AL := uw_1_in _ (List.mem_of_getElem? (i := 7) rfl)
theorem aw_49 : Cond.initialized RX7 ∈ AL := uw_1_in _ (List.mem_of_getElem? (i := 8) rfl)
theorem aw_50 : Cond.initialized RX1 ∈ AL := uw_1_in _ (List.mem_of_getElem? (i := 9) rfl)
theorem aw_51 : Cond.initialized RX0 ∈ AL := uw_1_in _ (List.mem_of_getElem? (i := 10) rfl)
theorem aw_52 : Cond.initialized RX4 ∈ AL := uw_1_in _ (List.mem_of_getElem? (i := 11) rfl)
theorem aw_53 : Cond.initialized RX2 ∈ AL := uw_1_in _ (List.mem_of_getElem? (i := 12) rfl)
theorem aw_54 : Cond.initialized RX3 ∈ AL := uw_1_in _ (List.mem_of_getElem? (i := 13) rfl)
theorem aw_55 : Cond.initialized RX5 ∈ AL := uw_1_in _ (List.mem_of_getElem? (i := 14) rfl)
theorem aw_56 : Cond.initialized RX10 ∈ AL := uw_1_in _ (List.mem_of_getElem? (i := 15) rfl)
theorem aw_57 : Cond.initialized "java/lang/Math" ∈ AL := uw_1_in _ (List.mem_of_getElem? (i := 16) rfl)
theorem aw_58 : Cond.initialized "java/lang/System" ∈ AL := uw_1_in _ (List.mem_of_getElem? (i := 17) rfl)
theorem aw_73 : Cond.fieldLink RX6 11 "IceForCoast$Page" "codes" "[I" ∈ AL := uw_1_in _ (List.mem_of_getElem? (i := 18) rfl)
theorem aw_74 : Cond.fieldLink RX6 19 "IceForCoast$Page" "length" "I" ∈ AL := uw_1_in _ (List.mem_of_getElem? (i := 19) rfl)
theorem aw_77 : Cond.fieldLink RX6 23 "IceForCoast$Page" "row" "I" ∈ AL := uw_1_in _ (List.mem_of_getElem? (i := 20) rfl)
theorem aw_78 : Cond.fieldLink RX6 26 "IceForCoast$Page" "inRow" "I" ∈ AL := uw_1_in _ (List.mem_of_getElem? (i := 21) rfl)
theorem aw_79 : Cond.fieldLink RX6 29 "IceForCoast$Page" "width" "I" ∈ AL := uw_1_in _ (List.mem_of_getElem? (i := 22) rfl)
theorem aw_80 : Cond.fieldLink RX6 32 "IceForCoast$Page" "harbours" "I" ∈ AL := uw_1_in _ (List.mem_of_getElem? (i := 23) rfl)
theorem aw_81 : Cond.fieldLink RX6 35 "IceForCoast$Page" "currentMayCome" "Z" ∈ AL := uw_1_in _ (List.mem_of_getElem? (i := 24) rfl)
theorem aw_112 : Cond.fieldLink RX7 11 "IceForCoast$Sea" "warmth" "[I" ∈ AL := uw_1_in _ (List.mem_of_getElem? (i := 25) rfl)
theorem aw_115 : Cond.fieldLink RX7 15 "IceForCoast$Sea" "current" "[I" ∈ AL := uw_1_in _ (List.mem_of_getElem? (i := 26) rfl)
theorem aw_118 : Cond.fieldLink RX7 18 "IceForCoast$Sea" "far" "[I" ∈ AL := uw_1_in _ (List.mem_of_getElem? (i := 27) rfl)
theorem aw_120 : Cond.fieldLink RX7 21 "IceForCoast$Sea" "waysFrom" "[I" ∈ AL := uw_1_in _ (List.mem_of_getElem? (i := 28) rfl)
theorem aw_122 : Cond.fieldLink RX7 26 "IceForCoast$Sea" "next" "[[I" ∈ AL := uw_1_in _ (List.mem_of_getElem? (i := 29) rfl)
theorem aw_124 : Cond.fieldLink RX7 29 "IceForCoast$Sea" "squares" "I" ∈ AL := uw_1_in _ (List.mem_of_getElem? (i := 30) rfl)
theorem aw_126 : Cond.fieldLink RX7 37 "IceForCoast$Sea" "width" "I" ∈ AL := uw_1_in _ (List.mem_of_getElem? (i := 31) rfl)
theorem aw_128 : Cond.fieldLink RX7 64 "IceForCoast$Sea" "harbour" "I" ∈ AL := uw_1_in _ (List.mem_of_getElem? (i := 32) rfl)
theorem aw_152 : Cond.fieldLink RX1 7 "IceForCoast$Coins" "value" "[I" ∈ AL := uw_1_in _ (List.mem_of_getElem? (i := 33) rfl)
theorem aw_163 : Cond.fieldLink RX0 9 "IceForCoast$Berg" "kind" "I" ∈ AL := uw_1_in _ (List.mem_of_getElem? (i := 34) rfl)
theorem aw_167 : Cond.fieldLink RX0 13 "IceForCoast$Berg" "square" "I" ∈ AL := uw_1_in _ (List.mem_of_getElem? (i := 35) rfl)
theorem aw_170 : Cond.fieldLink RX0 16 "IceForCoast$Berg" "size" "I" ∈ AL := uw_1_in _ (List.mem_of_getElem? (i := 36) rfl)
theorem aw_174 : Cond.fieldLink RX0 19 "IceForCoast$Berg" "foot" "I" ∈ AL := uw_1_in _ (List.mem_of_getElem? (i := 37) rfl)
theorem aw_176 : Cond.fieldLink RX0 22 "IceForCoast$Berg" "n" "I" ∈ AL := uw_1_in _ (List.mem_of_getElem? (i := 38) rfl)
theorem aw_178 : Cond.fieldLink RX0 25 "IceForCoast$Berg" "flat" "Z" ∈ AL := uw_1_in _ (List.mem_of_getElem? (i := 39) rfl)
def uw_2 : List Cond := [Cond.fieldLink RX8 12 "IceForCoast$Tow" "sea" "LIceForCoast$Sea;",
  Cond.fieldLink RX8 21 "IceForCoast$Tow" "coins" "LIceForCoast$Coins;",
  Cond.fieldLink RX8 25 "IceForCoast$Tow" "sizeAt" "[I",
  Cond.fieldLink RX8 29 "IceForCoast$Tow" "footAt" "[I",
  Cond.fieldLink RX8 32 "IceForCoast$Tow" "dayAt" "[I",
  Cond.fieldLink RX8 35 "IceForCoast$Tow" "trial" "[I",
  Cond.fieldLink RX8 38 "IceForCoast$Tow" "chosen" "[I",
  Cond.fieldLink RX8 44 "IceForCoast$Tow" "berg" "LIceForCoast$Berg;",
  Cond.fieldLink RX8 48 "IceForCoast$Tow" "tugs" "I",
  Cond.fieldLink RX8 58 "IceForCoast$Tow" "skirt" "Z",
  Cond.fieldLink RX8 62 "IceForCoast$Tow" "found" "Z",
  Cond.fieldLink RX8 93 "IceForCoast$Tow" "water" "I",
  Cond.fieldLink RX8 96 "IceForCoast$Tow" "days" "I",
  Cond.fieldLink RX8 114 "IceForCoast$Tow" "gain" "I",
  Cond.fieldLink RX8 82 "IceForCoast$Tow" "steps" "I",
  Cond.fieldLink RX8 65 "IceForCoast$Tow" "drawing" "Z",
  Cond.fieldLink RX8 78 "IceForCoast$Tow" "seed" "J",
  Cond.fieldLink RX4 11 "IceForCoast$Lines" "house" "[I",
  Cond.fieldLink RX4 15 "IceForCoast$Lines" "berg" "[I",
  Cond.fieldLink RX4 18 "IceForCoast$Lines" "day" "[I",
  Cond.fieldLink RX4 21 "IceForCoast$Lines" "length" "I",
  Cond.fieldLink RX2 9 "IceForCoast$Image" "sizes" "[I",
  Cond.fieldLink RX2 15 "IceForCoast$Image" "feet" "[I",
  Cond.fieldLink RX2 21 "IceForCoast$Image" "coins" "LIceForCoast$Coins;",
  Cond.fieldLink RX2 31 "IceForCoast$Image" "bergCount" "I",
  Cond.fieldLink RX3 13 "IceForCoast$Ledger" "gains" "[[I",
  Cond.fieldLink RX3 16 "IceForCoast$Ledger" "known" "[Z",
  Cond.fieldLink RX3 20 "IceForCoast$Ledger" "towable" "[Z",
  Cond.fieldLink RX3 23 "IceForCoast$Ledger" "most" "[[I",
  Cond.fieldLink RX5 9 "IceForCoast$Odds" "water" "[J",
  Cond.fieldLink RX5 38 "IceForCoast$Odds" "above" "J",
  Cond.fieldLink RX5 42 "IceForCoast$Odds" "below" "J",
  Cond.fieldLink RX5 15 "IceForCoast$Odds" "letsOff" "Z",
  Cond.fieldLink RX9 10 "IceForCoast" "thePage" "LIceForCoast$Page;",
  Cond.fieldLink RX9 19 "IceForCoast" "theTow" "LIceForCoast$Tow;",
  Cond.fieldLink RX9 27 "IceForCoast" "theSea" "LIceForCoast$Sea;",
  Cond.fieldLink RX9 34 "IceForCoast" "coins" "LIceForCoast$Coins;",
  Cond.fieldLink RX9 37 "IceForCoast" "bergs" "[LIceForCoast$Berg;",
  Cond.fieldLink RX9 44 "IceForCoast" "lines" "LIceForCoast$Lines;",
  Cond.fieldLink RX9 51 "IceForCoast" "kept" "LIceForCoast$Image;"]
theorem uw_2_in : ∀ w ∈ uw_2, w ∈ AL := AL_of _ [192, 194, 196, 197, 198, 199, 200, 201, 202, 203, 204, 205, 207, 209, 211, 213, 214, 259, 261, 263, 265, 284, 285, 286, 287, 311, 313, 315, 317, 335, 336, 338, 340, 353, 354, 355, 356, 357, 358, 359] (by decide +kernel) (by decide +kernel)
theorem aw_192 : Cond.fieldLink RX8 12 "IceForCoast$Tow" "sea" "LIceForCoast$Sea;" ∈ AL := uw_2_in _ (List.mem_of_getElem? (i := 0) rfl)
theorem aw_194 : Cond.fieldLink RX8 21 "IceForCoast$Tow" "coins" "LIceForCoast$Coins;" ∈ AL := uw_2_in _ (List.mem_of_getElem? (i := 1) rfl)
theorem aw_196 : Cond.fieldLink RX8 25 "IceForCoast$Tow" "sizeAt" "[I" ∈ AL := uw_2_in _ (List.mem_of_getElem? (i := 2) rfl)
theorem aw_197 : Cond.fieldLink RX8 29 "IceForCoast$Tow" "footAt" "[I" ∈ AL := uw_2_in _ (List.mem_of_getElem? (i := 3) rfl)
theorem aw_198 : Cond.fieldLink RX8 32 "IceForCoast$Tow" "dayAt" "[I" ∈ AL := uw_2_in _ (List.mem_of_getElem? (i := 4) rfl)
theorem aw_199 : Cond.fieldLink RX8 35 "IceForCoast$Tow" "trial" "[I" ∈ AL := uw_2_in _ (List.mem_of_getElem? (i := 5) rfl)
theorem aw_200 : Cond.fieldLink RX8 38 "IceForCoast$Tow" "chosen" "[I" ∈ AL := uw_2_in _ (List.mem_of_getElem? (i := 6) rfl)
theorem aw_201 : Cond.fieldLink RX8 44 "IceForCoast$Tow" "berg" "LIceForCoast$Berg;" ∈ AL := uw_2_in _ (List.mem_of_getElem? (i := 7) rfl)
theorem aw_202 : Cond.fieldLink RX8 48 "IceForCoast$Tow" "tugs" "I" ∈ AL := uw_2_in _ (List.mem_of_getElem? (i := 8) rfl)
theorem aw_203 : Cond.fieldLink RX8 58 "IceForCoast$Tow" "skirt" "Z" ∈ AL := uw_2_in _ (List.mem_of_getElem? (i := 9) rfl)
theorem aw_204 : Cond.fieldLink RX8 62 "IceForCoast$Tow" "found" "Z" ∈ AL := uw_2_in _ (List.mem_of_getElem? (i := 10) rfl)
theorem aw_205 : Cond.fieldLink RX8 93 "IceForCoast$Tow" "water" "I" ∈ AL := uw_2_in _ (List.mem_of_getElem? (i := 11) rfl)
theorem aw_207 : Cond.fieldLink RX8 96 "IceForCoast$Tow" "days" "I" ∈ AL := uw_2_in _ (List.mem_of_getElem? (i := 12) rfl)
theorem aw_209 : Cond.fieldLink RX8 114 "IceForCoast$Tow" "gain" "I" ∈ AL := uw_2_in _ (List.mem_of_getElem? (i := 13) rfl)
theorem aw_211 : Cond.fieldLink RX8 82 "IceForCoast$Tow" "steps" "I" ∈ AL := uw_2_in _ (List.mem_of_getElem? (i := 14) rfl)
theorem aw_213 : Cond.fieldLink RX8 65 "IceForCoast$Tow" "drawing" "Z" ∈ AL := uw_2_in _ (List.mem_of_getElem? (i := 15) rfl)
theorem aw_214 : Cond.fieldLink RX8 78 "IceForCoast$Tow" "seed" "J" ∈ AL := uw_2_in _ (List.mem_of_getElem? (i := 16) rfl)
theorem aw_259 : Cond.fieldLink RX4 11 "IceForCoast$Lines" "house" "[I" ∈ AL := uw_2_in _ (List.mem_of_getElem? (i := 17) rfl)
theorem aw_261 : Cond.fieldLink RX4 15 "IceForCoast$Lines" "berg" "[I" ∈ AL := uw_2_in _ (List.mem_of_getElem? (i := 18) rfl)
theorem aw_263 : Cond.fieldLink RX4 18 "IceForCoast$Lines" "day" "[I" ∈ AL := uw_2_in _ (List.mem_of_getElem? (i := 19) rfl)
theorem aw_265 : Cond.fieldLink RX4 21 "IceForCoast$Lines" "length" "I" ∈ AL := uw_2_in _ (List.mem_of_getElem? (i := 20) rfl)
theorem aw_284 : Cond.fieldLink RX2 9 "IceForCoast$Image" "sizes" "[I" ∈ AL := uw_2_in _ (List.mem_of_getElem? (i := 21) rfl)
theorem aw_285 : Cond.fieldLink RX2 15 "IceForCoast$Image" "feet" "[I" ∈ AL := uw_2_in _ (List.mem_of_getElem? (i := 22) rfl)
theorem aw_286 : Cond.fieldLink RX2 21 "IceForCoast$Image" "coins" "LIceForCoast$Coins;" ∈ AL := uw_2_in _ (List.mem_of_getElem? (i := 23) rfl)
theorem aw_287 : Cond.fieldLink RX2 31 "IceForCoast$Image" "bergCount" "I" ∈ AL := uw_2_in _ (List.mem_of_getElem? (i := 24) rfl)
theorem aw_311 : Cond.fieldLink RX3 13 "IceForCoast$Ledger" "gains" "[[I" ∈ AL := uw_2_in _ (List.mem_of_getElem? (i := 25) rfl)
theorem aw_313 : Cond.fieldLink RX3 16 "IceForCoast$Ledger" "known" "[Z" ∈ AL := uw_2_in _ (List.mem_of_getElem? (i := 26) rfl)
theorem aw_315 : Cond.fieldLink RX3 20 "IceForCoast$Ledger" "towable" "[Z" ∈ AL := uw_2_in _ (List.mem_of_getElem? (i := 27) rfl)
theorem aw_317 : Cond.fieldLink RX3 23 "IceForCoast$Ledger" "most" "[[I" ∈ AL := uw_2_in _ (List.mem_of_getElem? (i := 28) rfl)
theorem aw_335 : Cond.fieldLink RX5 9 "IceForCoast$Odds" "water" "[J" ∈ AL := uw_2_in _ (List.mem_of_getElem? (i := 29) rfl)
theorem aw_336 : Cond.fieldLink RX5 38 "IceForCoast$Odds" "above" "J" ∈ AL := uw_2_in _ (List.mem_of_getElem? (i := 30) rfl)
theorem aw_338 : Cond.fieldLink RX5 42 "IceForCoast$Odds" "below" "J" ∈ AL := uw_2_in _ (List.mem_of_getElem? (i := 31) rfl)
theorem aw_340 : Cond.fieldLink RX5 15 "IceForCoast$Odds" "letsOff" "Z" ∈ AL := uw_2_in _ (List.mem_of_getElem? (i := 32) rfl)
theorem aw_353 : Cond.fieldLink RX9 10 "IceForCoast" "thePage" "LIceForCoast$Page;" ∈ AL := uw_2_in _ (List.mem_of_getElem? (i := 33) rfl)
theorem aw_354 : Cond.fieldLink RX9 19 "IceForCoast" "theTow" "LIceForCoast$Tow;" ∈ AL := uw_2_in _ (List.mem_of_getElem? (i := 34) rfl)
theorem aw_355 : Cond.fieldLink RX9 27 "IceForCoast" "theSea" "LIceForCoast$Sea;" ∈ AL := uw_2_in _ (List.mem_of_getElem? (i := 35) rfl)
theorem aw_356 : Cond.fieldLink RX9 34 "IceForCoast" "coins" "LIceForCoast$Coins;" ∈ AL := uw_2_in _ (List.mem_of_getElem? (i := 36) rfl)
theorem aw_357 : Cond.fieldLink RX9 37 "IceForCoast" "bergs" "[LIceForCoast$Berg;" ∈ AL := uw_2_in _ (List.mem_of_getElem? (i := 37) rfl)
theorem aw_358 : Cond.fieldLink RX9 44 "IceForCoast" "lines" "LIceForCoast$Lines;" ∈ AL := uw_2_in _ (List.mem_of_getElem? (i := 38) rfl)
theorem aw_359 : Cond.fieldLink RX9 51 "IceForCoast" "kept" "LIceForCoast$Image;" ∈ AL := uw_2_in _ (List.mem_of_getElem? (i := 39) rfl)
def uw_3 : List Cond := [Cond.fieldLink RX9 58 "IceForCoast" "ledger" "LIceForCoast$Ledger;",
  Cond.fieldLink RX9 65 "IceForCoast" "theOdds" "LIceForCoast$Odds;",
  Cond.fieldLink RX9 91 "IceForCoast" "bergCount" "I",
  Cond.fieldLink RX9 99 "IceForCoast" "seasRead" "I",
  Cond.fieldLink RX9 242 "IceForCoast" "cameDone" "I",
  Cond.code yX9_letters cX9_letters 3 (some .int),
  Cond.methodLink RX9 70 yX6_append,
  Cond.instanceMethod yX6_append,
  Cond.selects RX6 yX6_append yX6_append,
  Cond.code yX6_append cX6_append 7 (some .int),
  Cond.methodLink RX6 15 yX6_byteOf,
  Cond.static yX6_byteOf,
  Cond.code yX6_byteOf cX6_byteOf 3 (some .int),
  Cond.code yX9_blank cX9_blank 1 (some .int),
  Cond.methodLink RX9 74 yX6_clear,
  Cond.instanceMethod yX6_clear,
  Cond.selects RX6 yX6_clear yX6_clear,
  Cond.code yX6_clear cX6_clear 2 (some .int),
  Cond.code yX9_fault cX9_fault 1 (some .int),
  Cond.methodLink RX9 78 yX6_firstWrong,
  Cond.instanceMethod yX6_firstWrong,
  Cond.selects RX6 yX6_firstWrong yX6_firstWrong,
  Cond.code yX6_firstWrong cX6_firstWrong 2 (some .int),
  Cond.methodLink RX6 39 yX6_takes,
  Cond.instanceMethod yX6_takes,
  Cond.code yX6_takes cX6_takes 3 (some .boolean),
  Cond.methodLink RX6 47 yX6_takesRowEnd,
  Cond.instanceMethod yX6_takesRowEnd,
  Cond.code yX6_takesRowEnd cX6_takesRowEnd 2 (some .boolean),
  Cond.methodLink RX6 51 yX7_wayOf,
  Cond.static yX7_wayOf,
  Cond.code yX7_wayOf cX7_wayOf 1 (some .int),
  Cond.methodLink RX6 57 yX6_takesSquare,
  Cond.instanceMethod yX6_takesSquare,
  Cond.code yX6_takesSquare cX6_takesSquare 4 (some .boolean),
  Cond.code yX9_sea cX9_sea 1 (some .int),
  Cond.methodLink RX9 81 yX6_isSea,
  Cond.instanceMethod yX6_isSea,
  Cond.selects RX6 yX6_isSea yX6_isSea,
  Cond.code yX6_isSea cX6_isSea 1 (some .boolean)]
theorem uw_3_in : ∀ w ∈ uw_3, w ∈ AL := AL_of _ [360, 361, 362, 363, 364, 393, 394, 395, 396, 397, 398, 399, 400, 404, 405, 406, 407, 408, 412, 413, 414, 415, 416, 417, 419, 420, 421, 423, 424, 425, 426, 427, 428, 430, 431, 435, 436, 437, 438, 439] (by decide +kernel) (by decide +kernel)
theorem aw_360 : Cond.fieldLink RX9 58 "IceForCoast" "ledger" "LIceForCoast$Ledger;" ∈ AL := uw_3_in _ (List.mem_of_getElem? (i := 0) rfl)
theorem aw_361 : Cond.fieldLink RX9 65 "IceForCoast" "theOdds" "LIceForCoast$Odds;" ∈ AL := uw_3_in _ (List.mem_of_getElem? (i := 1) rfl)
theorem aw_362 : Cond.fieldLink RX9 91 "IceForCoast" "bergCount" "I" ∈ AL := uw_3_in _ (List.mem_of_getElem? (i := 2) rfl)
theorem aw_363 : Cond.fieldLink RX9 99 "IceForCoast" "seasRead" "I" ∈ AL := uw_3_in _ (List.mem_of_getElem? (i := 3) rfl)
theorem aw_364 : Cond.fieldLink RX9 242 "IceForCoast" "cameDone" "I" ∈ AL := uw_3_in _ (List.mem_of_getElem? (i := 4) rfl)
theorem aw_393 : Cond.code yX9_letters cX9_letters 3 (some .int) ∈ AL := uw_3_in _ (List.mem_of_getElem? (i := 5) rfl)
theorem aw_394 : Cond.methodLink RX9 70 yX6_append ∈ AL := uw_3_in _ (List.mem_of_getElem? (i := 6) rfl)
theorem aw_395 : Cond.instanceMethod yX6_append ∈ AL := uw_3_in _ (List.mem_of_getElem? (i := 7) rfl)
theorem aw_396 : Cond.selects RX6 yX6_append yX6_append ∈ AL := uw_3_in _ (List.mem_of_getElem? (i := 8) rfl)
theorem aw_397 : Cond.code yX6_append cX6_append 7 (some .int) ∈ AL := uw_3_in _ (List.mem_of_getElem? (i := 9) rfl)
theorem aw_398 : Cond.methodLink RX6 15 yX6_byteOf ∈ AL := uw_3_in _ (List.mem_of_getElem? (i := 10) rfl)
theorem aw_399 : Cond.static yX6_byteOf ∈ AL := uw_3_in _ (List.mem_of_getElem? (i := 11) rfl)
theorem aw_400 : Cond.code yX6_byteOf cX6_byteOf 3 (some .int) ∈ AL := uw_3_in _ (List.mem_of_getElem? (i := 12) rfl)
theorem aw_404 : Cond.code yX9_blank cX9_blank 1 (some .int) ∈ AL := uw_3_in _ (List.mem_of_getElem? (i := 13) rfl)
theorem aw_405 : Cond.methodLink RX9 74 yX6_clear ∈ AL := uw_3_in _ (List.mem_of_getElem? (i := 14) rfl)
theorem aw_406 : Cond.instanceMethod yX6_clear ∈ AL := uw_3_in _ (List.mem_of_getElem? (i := 15) rfl)
theorem aw_407 : Cond.selects RX6 yX6_clear yX6_clear ∈ AL := uw_3_in _ (List.mem_of_getElem? (i := 16) rfl)
theorem aw_408 : Cond.code yX6_clear cX6_clear 2 (some .int) ∈ AL := uw_3_in _ (List.mem_of_getElem? (i := 17) rfl)
theorem aw_412 : Cond.code yX9_fault cX9_fault 1 (some .int) ∈ AL := uw_3_in _ (List.mem_of_getElem? (i := 18) rfl)
theorem aw_413 : Cond.methodLink RX9 78 yX6_firstWrong ∈ AL := uw_3_in _ (List.mem_of_getElem? (i := 19) rfl)
theorem aw_414 : Cond.instanceMethod yX6_firstWrong ∈ AL := uw_3_in _ (List.mem_of_getElem? (i := 20) rfl)
theorem aw_415 : Cond.selects RX6 yX6_firstWrong yX6_firstWrong ∈ AL := uw_3_in _ (List.mem_of_getElem? (i := 21) rfl)
theorem aw_416 : Cond.code yX6_firstWrong cX6_firstWrong 2 (some .int) ∈ AL := uw_3_in _ (List.mem_of_getElem? (i := 22) rfl)
theorem aw_417 : Cond.methodLink RX6 39 yX6_takes ∈ AL := uw_3_in _ (List.mem_of_getElem? (i := 23) rfl)
theorem aw_419 : Cond.instanceMethod yX6_takes ∈ AL := uw_3_in _ (List.mem_of_getElem? (i := 24) rfl)
theorem aw_420 : Cond.code yX6_takes cX6_takes 3 (some .boolean) ∈ AL := uw_3_in _ (List.mem_of_getElem? (i := 25) rfl)
theorem aw_421 : Cond.methodLink RX6 47 yX6_takesRowEnd ∈ AL := uw_3_in _ (List.mem_of_getElem? (i := 26) rfl)
theorem aw_423 : Cond.instanceMethod yX6_takesRowEnd ∈ AL := uw_3_in _ (List.mem_of_getElem? (i := 27) rfl)
theorem aw_424 : Cond.code yX6_takesRowEnd cX6_takesRowEnd 2 (some .boolean) ∈ AL := uw_3_in _ (List.mem_of_getElem? (i := 28) rfl)
theorem aw_425 : Cond.methodLink RX6 51 yX7_wayOf ∈ AL := uw_3_in _ (List.mem_of_getElem? (i := 29) rfl)
theorem aw_426 : Cond.static yX7_wayOf ∈ AL := uw_3_in _ (List.mem_of_getElem? (i := 30) rfl)
theorem aw_427 : Cond.code yX7_wayOf cX7_wayOf 1 (some .int) ∈ AL := uw_3_in _ (List.mem_of_getElem? (i := 31) rfl)
theorem aw_428 : Cond.methodLink RX6 57 yX6_takesSquare ∈ AL := uw_3_in _ (List.mem_of_getElem? (i := 32) rfl)
theorem aw_430 : Cond.instanceMethod yX6_takesSquare ∈ AL := uw_3_in _ (List.mem_of_getElem? (i := 33) rfl)
theorem aw_431 : Cond.code yX6_takesSquare cX6_takesSquare 4 (some .boolean) ∈ AL := uw_3_in _ (List.mem_of_getElem? (i := 34) rfl)
theorem aw_435 : Cond.code yX9_sea cX9_sea 1 (some .int) ∈ AL := uw_3_in _ (List.mem_of_getElem? (i := 35) rfl)
theorem aw_436 : Cond.methodLink RX9 81 yX6_isSea ∈ AL := uw_3_in _ (List.mem_of_getElem? (i := 36) rfl)
theorem aw_437 : Cond.instanceMethod yX6_isSea ∈ AL := uw_3_in _ (List.mem_of_getElem? (i := 37) rfl)
theorem aw_438 : Cond.selects RX6 yX6_isSea yX6_isSea ∈ AL := uw_3_in _ (List.mem_of_getElem? (i := 38) rfl)
theorem aw_439 : Cond.code yX6_isSea cX6_isSea 1 (some .boolean) ∈ AL := uw_3_in _ (List.mem_of_getElem? (i := 39) rfl)
def uw_4 : List Cond := [Cond.methodLink RX6 43 yX6_firstWrong,
  Cond.methodLink RX9 85 yX7_lay,
  Cond.instanceMethod yX7_lay,
  Cond.selects RX7 yX7_lay yX7_lay,
  Cond.code yX7_lay cX7_lay 3 none,
  Cond.methodLink RX7 45 yX6_codeAt,
  Cond.instanceMethod yX6_codeAt,
  Cond.selects RX6 yX6_codeAt yX6_codeAt,
  Cond.code yX6_codeAt cX6_codeAt 2 (some .int),
  Cond.methodLink RX7 49 yX7_layLetter,
  Cond.instanceMethod yX7_layLetter,
  Cond.code yX7_layLetter cX7_layLetter 3 none,
  Cond.methodLink RX7 61 yX7_wayOf,
  Cond.methodLink RX7 53 yX7_measure,
  Cond.instanceMethod yX7_measure,
  Cond.code yX7_measure cX7_measure 4 none,
  Cond.methodLink RX7 67 Lib.Math.abs.name,
  Cond.static Lib.Math.abs.name,
  Cond.code Lib.Math.abs.name Lib.Math.abs.code 1 (some .int),
  Cond.methodLink RX7 58 yX7_openWays,
  Cond.instanceMethod yX7_openWays,
  Cond.code yX7_openWays cX7_openWays 6 none,
  Cond.methodLink RX7 72 yX7_beside,
  Cond.instanceMethod yX7_beside,
  Cond.code yX7_beside cX7_beside 4 (some .int),
  Cond.methodLink RX9 95 yX4_cutTo,
  Cond.instanceMethod yX4_cutTo,
  Cond.selects RX4 yX4_cutTo yX4_cutTo,
  Cond.code yX4_cutTo cX4_cutTo 2 none,
  Cond.methodLink RX4 25 Lib.Math.min.name,
  Cond.static Lib.Math.min.name,
  Cond.code Lib.Math.min.name Lib.Math.min.code 2 (some .int),
  Cond.methodLink RX4 31 Lib.Math.max.name,
  Cond.static Lib.Math.max.name,
  Cond.code Lib.Math.max.name Lib.Math.max.code 2 (some .int),
  Cond.instanceMethod yX9_square,
  Cond.selects RX9 yX9_square yX9_square,
  Cond.code yX9_square cX9_square 3 (some .int),
  Cond.methodLink RX9 105 yX7_has,
  Cond.instanceMethod yX7_has]
theorem uw_4_in : ∀ w ∈ uw_4, w ∈ AL := AL_of _ [440, 441, 442, 443, 444, 445, 446, 447, 448, 449, 451, 452, 453, 454, 456, 457, 458, 459, 460, 461, 463, 464, 465, 467, 468, 469, 470, 471, 472, 473, 474, 475, 476, 477, 478, 480, 481, 482, 483, 484] (by decide +kernel) (by decide +kernel)
theorem aw_440 : Cond.methodLink RX6 43 yX6_firstWrong ∈ AL := uw_4_in _ (List.mem_of_getElem? (i := 0) rfl)
theorem aw_441 : Cond.methodLink RX9 85 yX7_lay ∈ AL := uw_4_in _ (List.mem_of_getElem? (i := 1) rfl)
theorem aw_442 : Cond.instanceMethod yX7_lay ∈ AL := uw_4_in _ (List.mem_of_getElem? (i := 2) rfl)
theorem aw_443 : Cond.selects RX7 yX7_lay yX7_lay ∈ AL := uw_4_in _ (List.mem_of_getElem? (i := 3) rfl)
theorem aw_444 : Cond.code yX7_lay cX7_lay 3 none ∈ AL := uw_4_in _ (List.mem_of_getElem? (i := 4) rfl)
theorem aw_445 : Cond.methodLink RX7 45 yX6_codeAt ∈ AL := uw_4_in _ (List.mem_of_getElem? (i := 5) rfl)
theorem aw_446 : Cond.instanceMethod yX6_codeAt ∈ AL := uw_4_in _ (List.mem_of_getElem? (i := 6) rfl)
theorem aw_447 : Cond.selects RX6 yX6_codeAt yX6_codeAt ∈ AL := uw_4_in _ (List.mem_of_getElem? (i := 7) rfl)
theorem aw_448 : Cond.code yX6_codeAt cX6_codeAt 2 (some .int) ∈ AL := uw_4_in _ (List.mem_of_getElem? (i := 8) rfl)
theorem aw_449 : Cond.methodLink RX7 49 yX7_layLetter ∈ AL := uw_4_in _ (List.mem_of_getElem? (i := 9) rfl)
theorem aw_451 : Cond.instanceMethod yX7_layLetter ∈ AL := uw_4_in _ (List.mem_of_getElem? (i := 10) rfl)
theorem aw_452 : Cond.code yX7_layLetter cX7_layLetter 3 none ∈ AL := uw_4_in _ (List.mem_of_getElem? (i := 11) rfl)
theorem aw_453 : Cond.methodLink RX7 61 yX7_wayOf ∈ AL := uw_4_in _ (List.mem_of_getElem? (i := 12) rfl)
theorem aw_454 : Cond.methodLink RX7 53 yX7_measure ∈ AL := uw_4_in _ (List.mem_of_getElem? (i := 13) rfl)
theorem aw_456 : Cond.instanceMethod yX7_measure ∈ AL := uw_4_in _ (List.mem_of_getElem? (i := 14) rfl)
theorem aw_457 : Cond.code yX7_measure cX7_measure 4 none ∈ AL := uw_4_in _ (List.mem_of_getElem? (i := 15) rfl)
theorem aw_458 : Cond.methodLink RX7 67 Lib.Math.abs.name ∈ AL := uw_4_in _ (List.mem_of_getElem? (i := 16) rfl)
theorem aw_459 : Cond.static Lib.Math.abs.name ∈ AL := uw_4_in _ (List.mem_of_getElem? (i := 17) rfl)
theorem aw_460 : Cond.code Lib.Math.abs.name Lib.Math.abs.code 1 (some .int) ∈ AL := uw_4_in _ (List.mem_of_getElem? (i := 18) rfl)
theorem aw_461 : Cond.methodLink RX7 58 yX7_openWays ∈ AL := uw_4_in _ (List.mem_of_getElem? (i := 19) rfl)
theorem aw_463 : Cond.instanceMethod yX7_openWays ∈ AL := uw_4_in _ (List.mem_of_getElem? (i := 20) rfl)
theorem aw_464 : Cond.code yX7_openWays cX7_openWays 6 none ∈ AL := uw_4_in _ (List.mem_of_getElem? (i := 21) rfl)
theorem aw_465 : Cond.methodLink RX7 72 yX7_beside ∈ AL := uw_4_in _ (List.mem_of_getElem? (i := 22) rfl)
theorem aw_467 : Cond.instanceMethod yX7_beside ∈ AL := uw_4_in _ (List.mem_of_getElem? (i := 23) rfl)
theorem aw_468 : Cond.code yX7_beside cX7_beside 4 (some .int) ∈ AL := uw_4_in _ (List.mem_of_getElem? (i := 24) rfl)
theorem aw_469 : Cond.methodLink RX9 95 yX4_cutTo ∈ AL := uw_4_in _ (List.mem_of_getElem? (i := 25) rfl)
theorem aw_470 : Cond.instanceMethod yX4_cutTo ∈ AL := uw_4_in _ (List.mem_of_getElem? (i := 26) rfl)
theorem aw_471 : Cond.selects RX4 yX4_cutTo yX4_cutTo ∈ AL := uw_4_in _ (List.mem_of_getElem? (i := 27) rfl)
theorem aw_472 : Cond.code yX4_cutTo cX4_cutTo 2 none ∈ AL := uw_4_in _ (List.mem_of_getElem? (i := 28) rfl)
theorem aw_473 : Cond.methodLink RX4 25 Lib.Math.min.name ∈ AL := uw_4_in _ (List.mem_of_getElem? (i := 29) rfl)
theorem aw_474 : Cond.static Lib.Math.min.name ∈ AL := uw_4_in _ (List.mem_of_getElem? (i := 30) rfl)
theorem aw_475 : Cond.code Lib.Math.min.name Lib.Math.min.code 2 (some .int) ∈ AL := uw_4_in _ (List.mem_of_getElem? (i := 31) rfl)
theorem aw_476 : Cond.methodLink RX4 31 Lib.Math.max.name ∈ AL := uw_4_in _ (List.mem_of_getElem? (i := 32) rfl)
theorem aw_477 : Cond.static Lib.Math.max.name ∈ AL := uw_4_in _ (List.mem_of_getElem? (i := 33) rfl)
theorem aw_478 : Cond.code Lib.Math.max.name Lib.Math.max.code 2 (some .int) ∈ AL := uw_4_in _ (List.mem_of_getElem? (i := 34) rfl)
theorem aw_480 : Cond.instanceMethod yX9_square ∈ AL := uw_4_in _ (List.mem_of_getElem? (i := 35) rfl)
theorem aw_481 : Cond.selects RX9 yX9_square yX9_square ∈ AL := uw_4_in _ (List.mem_of_getElem? (i := 36) rfl)
theorem aw_482 : Cond.code yX9_square cX9_square 3 (some .int) ∈ AL := uw_4_in _ (List.mem_of_getElem? (i := 37) rfl)
theorem aw_483 : Cond.methodLink RX9 105 yX7_has ∈ AL := uw_4_in _ (List.mem_of_getElem? (i := 38) rfl)
theorem aw_484 : Cond.instanceMethod yX7_has ∈ AL := uw_4_in _ (List.mem_of_getElem? (i := 39) rfl)
def uw_5 : List Cond := [Cond.selects RX7 yX7_has yX7_has,
  Cond.code yX7_has cX7_has 2 (some .boolean),
  Cond.code yX9_berg cX9_berg 6 (some .int),
  Cond.methodLink RX9 119 yX0_isKind,
  Cond.static yX0_isKind,
  Cond.code yX0_isKind cX0_isKind 1 (some .boolean),
  Cond.methodLink RX9 122 yX7_hasWarmth,
  Cond.instanceMethod yX7_hasWarmth,
  Cond.selects RX7 yX7_hasWarmth yX7_hasWarmth,
  Cond.code yX7_hasWarmth cX7_hasWarmth 2 (some .boolean),
  Cond.methodLink RX7 33 yX7_has,
  Cond.methodLink RX9 125 yX9_isSize,
  Cond.static yX9_isSize,
  Cond.code yX9_isSize cX9_isSize 1 (some .boolean),
  Cond.methodLink RX9 128 yX9_isFoot,
  Cond.static yX9_isFoot,
  Cond.code yX9_isFoot cX9_isFoot 1 (some .boolean),
  Cond.methodLink RX9 131 yX0_mayBreak,
  Cond.static yX0_mayBreak,
  Cond.code yX0_mayBreak cX0_mayBreak 2 (some .boolean),
  Cond.methodLink RX9 135 yX0_become,
  Cond.instanceMethod yX0_become,
  Cond.selects RX0 yX0_become yX0_become,
  Cond.code yX0_become cX0_become 6 none,
  Cond.methodLink RX9 139 yX3_forget,
  Cond.instanceMethod yX3_forget,
  Cond.selects RX3 yX3_forget yX3_forget,
  Cond.code yX3_forget cX3_forget 2 none,
  Cond.code yX9_as cX9_as 3 (some .int),
  Cond.methodLink RX9 142 yX9_isBerg,
  Cond.instanceMethod yX9_isBerg,
  Cond.code yX9_isBerg cX9_isBerg 2 (some .boolean),
  Cond.methodLink RX9 145 yX0_isA,
  Cond.instanceMethod yX0_isA,
  Cond.selects RX0 yX0_isA yX0_isA,
  Cond.code yX0_isA cX0_isA 2 (some .boolean),
  Cond.instanceMethod yX9_about,
  Cond.selects RX9 yX9_about yX9_about,
  Cond.code yX9_about cX9_about 3 (some .int),
  Cond.code yX9_change cX9_change 8 (some .int)]
theorem uw_5_in : ∀ w ∈ uw_5, w ∈ AL := AL_of _ [485, 486, 490, 491, 492, 493, 494, 495, 496, 497, 498, 499, 500, 501, 502, 503, 504, 505, 506, 507, 508, 509, 510, 511, 512, 513, 514, 515, 519, 520, 522, 523, 524, 525, 526, 527, 529, 530, 531, 535] (by decide +kernel) (by decide +kernel)
theorem aw_485 : Cond.selects RX7 yX7_has yX7_has ∈ AL := uw_5_in _ (List.mem_of_getElem? (i := 0) rfl)
theorem aw_486 : Cond.code yX7_has cX7_has 2 (some .boolean) ∈ AL := uw_5_in _ (List.mem_of_getElem? (i := 1) rfl)
theorem aw_490 : Cond.code yX9_berg cX9_berg 6 (some .int) ∈ AL := uw_5_in _ (List.mem_of_getElem? (i := 2) rfl)
theorem aw_491 : Cond.methodLink RX9 119 yX0_isKind ∈ AL := uw_5_in _ (List.mem_of_getElem? (i := 3) rfl)
theorem aw_492 : Cond.static yX0_isKind ∈ AL := uw_5_in _ (List.mem_of_getElem? (i := 4) rfl)
theorem aw_493 : Cond.code yX0_isKind cX0_isKind 1 (some .boolean) ∈ AL := uw_5_in _ (List.mem_of_getElem? (i := 5) rfl)
theorem aw_494 : Cond.methodLink RX9 122 yX7_hasWarmth ∈ AL := uw_5_in _ (List.mem_of_getElem? (i := 6) rfl)
theorem aw_495 : Cond.instanceMethod yX7_hasWarmth ∈ AL := uw_5_in _ (List.mem_of_getElem? (i := 7) rfl)
theorem aw_496 : Cond.selects RX7 yX7_hasWarmth yX7_hasWarmth ∈ AL := uw_5_in _ (List.mem_of_getElem? (i := 8) rfl)
theorem aw_497 : Cond.code yX7_hasWarmth cX7_hasWarmth 2 (some .boolean) ∈ AL := uw_5_in _ (List.mem_of_getElem? (i := 9) rfl)
theorem aw_498 : Cond.methodLink RX7 33 yX7_has ∈ AL := uw_5_in _ (List.mem_of_getElem? (i := 10) rfl)
theorem aw_499 : Cond.methodLink RX9 125 yX9_isSize ∈ AL := uw_5_in _ (List.mem_of_getElem? (i := 11) rfl)
theorem aw_500 : Cond.static yX9_isSize ∈ AL := uw_5_in _ (List.mem_of_getElem? (i := 12) rfl)
theorem aw_501 : Cond.code yX9_isSize cX9_isSize 1 (some .boolean) ∈ AL := uw_5_in _ (List.mem_of_getElem? (i := 13) rfl)
theorem aw_502 : Cond.methodLink RX9 128 yX9_isFoot ∈ AL := uw_5_in _ (List.mem_of_getElem? (i := 14) rfl)
theorem aw_503 : Cond.static yX9_isFoot ∈ AL := uw_5_in _ (List.mem_of_getElem? (i := 15) rfl)
theorem aw_504 : Cond.code yX9_isFoot cX9_isFoot 1 (some .boolean) ∈ AL := uw_5_in _ (List.mem_of_getElem? (i := 16) rfl)
theorem aw_505 : Cond.methodLink RX9 131 yX0_mayBreak ∈ AL := uw_5_in _ (List.mem_of_getElem? (i := 17) rfl)
theorem aw_506 : Cond.static yX0_mayBreak ∈ AL := uw_5_in _ (List.mem_of_getElem? (i := 18) rfl)
theorem aw_507 : Cond.code yX0_mayBreak cX0_mayBreak 2 (some .boolean) ∈ AL := uw_5_in _ (List.mem_of_getElem? (i := 19) rfl)
theorem aw_508 : Cond.methodLink RX9 135 yX0_become ∈ AL := uw_5_in _ (List.mem_of_getElem? (i := 20) rfl)
theorem aw_509 : Cond.instanceMethod yX0_become ∈ AL := uw_5_in _ (List.mem_of_getElem? (i := 21) rfl)
theorem aw_510 : Cond.selects RX0 yX0_become yX0_become ∈ AL := uw_5_in _ (List.mem_of_getElem? (i := 22) rfl)
theorem aw_511 : Cond.code yX0_become cX0_become 6 none ∈ AL := uw_5_in _ (List.mem_of_getElem? (i := 23) rfl)
theorem aw_512 : Cond.methodLink RX9 139 yX3_forget ∈ AL := uw_5_in _ (List.mem_of_getElem? (i := 24) rfl)
theorem aw_513 : Cond.instanceMethod yX3_forget ∈ AL := uw_5_in _ (List.mem_of_getElem? (i := 25) rfl)
theorem aw_514 : Cond.selects RX3 yX3_forget yX3_forget ∈ AL := uw_5_in _ (List.mem_of_getElem? (i := 26) rfl)
theorem aw_515 : Cond.code yX3_forget cX3_forget 2 none ∈ AL := uw_5_in _ (List.mem_of_getElem? (i := 27) rfl)
theorem aw_519 : Cond.code yX9_as cX9_as 3 (some .int) ∈ AL := uw_5_in _ (List.mem_of_getElem? (i := 28) rfl)
theorem aw_520 : Cond.methodLink RX9 142 yX9_isBerg ∈ AL := uw_5_in _ (List.mem_of_getElem? (i := 29) rfl)
theorem aw_522 : Cond.instanceMethod yX9_isBerg ∈ AL := uw_5_in _ (List.mem_of_getElem? (i := 30) rfl)
theorem aw_523 : Cond.code yX9_isBerg cX9_isBerg 2 (some .boolean) ∈ AL := uw_5_in _ (List.mem_of_getElem? (i := 31) rfl)
theorem aw_524 : Cond.methodLink RX9 145 yX0_isA ∈ AL := uw_5_in _ (List.mem_of_getElem? (i := 32) rfl)
theorem aw_525 : Cond.instanceMethod yX0_isA ∈ AL := uw_5_in _ (List.mem_of_getElem? (i := 33) rfl)
theorem aw_526 : Cond.selects RX0 yX0_isA yX0_isA ∈ AL := uw_5_in _ (List.mem_of_getElem? (i := 34) rfl)
theorem aw_527 : Cond.code yX0_isA cX0_isA 2 (some .boolean) ∈ AL := uw_5_in _ (List.mem_of_getElem? (i := 35) rfl)
theorem aw_529 : Cond.instanceMethod yX9_about ∈ AL := uw_5_in _ (List.mem_of_getElem? (i := 36) rfl)
theorem aw_530 : Cond.selects RX9 yX9_about yX9_about ∈ AL := uw_5_in _ (List.mem_of_getElem? (i := 37) rfl)
theorem aw_531 : Cond.code yX9_about cX9_about 3 (some .int) ∈ AL := uw_5_in _ (List.mem_of_getElem? (i := 38) rfl)
theorem aw_535 : Cond.code yX9_change cX9_change 8 (some .int) ∈ AL := uw_5_in _ (List.mem_of_getElem? (i := 39) rfl)
def uw_6 : List Cond := [Cond.code yX9_coin cX9_coin 3 (some .int),
  Cond.methodLink RX9 163 yX1_mayBe,
  Cond.instanceMethod yX1_mayBe,
  Cond.selects RX1 yX1_mayBe yX1_mayBe,
  Cond.code yX1_mayBe cX1_mayBe 3 (some .boolean),
  Cond.fieldLink RX1 13 "IceForCoast$Coins" "LEAST" "[I",
  Cond.fieldLink RX1 16 "IceForCoast$Coins" "MOST" "[I",
  Cond.methodLink RX9 168 yX3_forgetAll,
  Cond.instanceMethod yX3_forgetAll,
  Cond.selects RX3 yX3_forgetAll yX3_forgetAll,
  Cond.code yX3_forgetAll cX3_forgetAll 2 none,
  Cond.methodLink RX9 171 yX1_put,
  Cond.instanceMethod yX1_put,
  Cond.selects RX1 yX1_put yX1_put,
  Cond.code yX1_put cX1_put 4 (some .int),
  Cond.instanceMethod yX9_tow,
  Cond.selects RX9 yX9_tow yX9_tow,
  Cond.code yX9_tow cX9_tow 6 (some .int),
  Cond.constant RX9 175 (-100101),
  Cond.methodLink RX9 176 yX9_isTugs,
  Cond.static yX9_isTugs,
  Cond.code yX9_isTugs cX9_isTugs 1 (some .boolean),
  Cond.constant RX9 179 (-100102),
  Cond.methodLink RX9 180 yX9_hasWay,
  Cond.instanceMethod yX9_hasWay,
  Cond.code yX9_hasWay cX9_hasWay 2 (some .boolean),
  Cond.constant RX9 183 (-100001),
  Cond.methodLink RX9 184 yX8_seek,
  Cond.instanceMethod yX8_seek,
  Cond.selects RX8 yX8_seek yX8_seek,
  Cond.code yX8_seek cX8_seek 5 none,
  Cond.methodLink RX8 52 Lib.Math.max.name,
  Cond.methodLink RX8 74 yX8_follow,
  Cond.static yX8_follow,
  Cond.code yX8_follow cX8_follow 5 none,
  Cond.methodLink RX8 99 yX8_isHopeless,
  Cond.instanceMethod yX8_isHopeless,
  Cond.code yX8_isHopeless cX8_isHopeless 3 (some .boolean),
  Cond.methodLink RX8 110 yX1_gainOf,
  Cond.instanceMethod yX1_gainOf]
theorem uw_6_in : ∀ w ∈ uw_6, w ∈ AL := AL_of _ [539, 540, 541, 542, 543, 544, 546, 548, 549, 550, 551, 552, 553, 554, 555, 557, 558, 559, 560, 561, 562, 563, 564, 565, 567, 568, 569, 570, 571, 572, 573, 574, 575, 576, 577, 578, 580, 581, 582, 583] (by decide +kernel) (by decide +kernel)
theorem aw_539 : Cond.code yX9_coin cX9_coin 3 (some .int) ∈ AL := uw_6_in _ (List.mem_of_getElem? (i := 0) rfl)
theorem aw_540 : Cond.methodLink RX9 163 yX1_mayBe ∈ AL := uw_6_in _ (List.mem_of_getElem? (i := 1) rfl)
theorem aw_541 : Cond.instanceMethod yX1_mayBe ∈ AL := uw_6_in _ (List.mem_of_getElem? (i := 2) rfl)
theorem aw_542 : Cond.selects RX1 yX1_mayBe yX1_mayBe ∈ AL := uw_6_in _ (List.mem_of_getElem? (i := 3) rfl)
theorem aw_543 : Cond.code yX1_mayBe cX1_mayBe 3 (some .boolean) ∈ AL := uw_6_in _ (List.mem_of_getElem? (i := 4) rfl)
theorem aw_544 : Cond.fieldLink RX1 13 "IceForCoast$Coins" "LEAST" "[I" ∈ AL := uw_6_in _ (List.mem_of_getElem? (i := 5) rfl)
theorem aw_546 : Cond.fieldLink RX1 16 "IceForCoast$Coins" "MOST" "[I" ∈ AL := uw_6_in _ (List.mem_of_getElem? (i := 6) rfl)
theorem aw_548 : Cond.methodLink RX9 168 yX3_forgetAll ∈ AL := uw_6_in _ (List.mem_of_getElem? (i := 7) rfl)
theorem aw_549 : Cond.instanceMethod yX3_forgetAll ∈ AL := uw_6_in _ (List.mem_of_getElem? (i := 8) rfl)
theorem aw_550 : Cond.selects RX3 yX3_forgetAll yX3_forgetAll ∈ AL := uw_6_in _ (List.mem_of_getElem? (i := 9) rfl)
theorem aw_551 : Cond.code yX3_forgetAll cX3_forgetAll 2 none ∈ AL := uw_6_in _ (List.mem_of_getElem? (i := 10) rfl)
theorem aw_552 : Cond.methodLink RX9 171 yX1_put ∈ AL := uw_6_in _ (List.mem_of_getElem? (i := 11) rfl)
theorem aw_553 : Cond.instanceMethod yX1_put ∈ AL := uw_6_in _ (List.mem_of_getElem? (i := 12) rfl)
theorem aw_554 : Cond.selects RX1 yX1_put yX1_put ∈ AL := uw_6_in _ (List.mem_of_getElem? (i := 13) rfl)
theorem aw_555 : Cond.code yX1_put cX1_put 4 (some .int) ∈ AL := uw_6_in _ (List.mem_of_getElem? (i := 14) rfl)
theorem aw_557 : Cond.instanceMethod yX9_tow ∈ AL := uw_6_in _ (List.mem_of_getElem? (i := 15) rfl)
theorem aw_558 : Cond.selects RX9 yX9_tow yX9_tow ∈ AL := uw_6_in _ (List.mem_of_getElem? (i := 16) rfl)
theorem aw_559 : Cond.code yX9_tow cX9_tow 6 (some .int) ∈ AL := uw_6_in _ (List.mem_of_getElem? (i := 17) rfl)
theorem aw_560 : Cond.constant RX9 175 (-100101) ∈ AL := uw_6_in _ (List.mem_of_getElem? (i := 18) rfl)
theorem aw_561 : Cond.methodLink RX9 176 yX9_isTugs ∈ AL := uw_6_in _ (List.mem_of_getElem? (i := 19) rfl)
theorem aw_562 : Cond.static yX9_isTugs ∈ AL := uw_6_in _ (List.mem_of_getElem? (i := 20) rfl)
theorem aw_563 : Cond.code yX9_isTugs cX9_isTugs 1 (some .boolean) ∈ AL := uw_6_in _ (List.mem_of_getElem? (i := 21) rfl)
theorem aw_564 : Cond.constant RX9 179 (-100102) ∈ AL := uw_6_in _ (List.mem_of_getElem? (i := 22) rfl)
theorem aw_565 : Cond.methodLink RX9 180 yX9_hasWay ∈ AL := uw_6_in _ (List.mem_of_getElem? (i := 23) rfl)
theorem aw_567 : Cond.instanceMethod yX9_hasWay ∈ AL := uw_6_in _ (List.mem_of_getElem? (i := 24) rfl)
theorem aw_568 : Cond.code yX9_hasWay cX9_hasWay 2 (some .boolean) ∈ AL := uw_6_in _ (List.mem_of_getElem? (i := 25) rfl)
theorem aw_569 : Cond.constant RX9 183 (-100001) ∈ AL := uw_6_in _ (List.mem_of_getElem? (i := 26) rfl)
theorem aw_570 : Cond.methodLink RX9 184 yX8_seek ∈ AL := uw_6_in _ (List.mem_of_getElem? (i := 27) rfl)
theorem aw_571 : Cond.instanceMethod yX8_seek ∈ AL := uw_6_in _ (List.mem_of_getElem? (i := 28) rfl)
theorem aw_572 : Cond.selects RX8 yX8_seek yX8_seek ∈ AL := uw_6_in _ (List.mem_of_getElem? (i := 29) rfl)
theorem aw_573 : Cond.code yX8_seek cX8_seek 5 none ∈ AL := uw_6_in _ (List.mem_of_getElem? (i := 30) rfl)
theorem aw_574 : Cond.methodLink RX8 52 Lib.Math.max.name ∈ AL := uw_6_in _ (List.mem_of_getElem? (i := 31) rfl)
theorem aw_575 : Cond.methodLink RX8 74 yX8_follow ∈ AL := uw_6_in _ (List.mem_of_getElem? (i := 32) rfl)
theorem aw_576 : Cond.static yX8_follow ∈ AL := uw_6_in _ (List.mem_of_getElem? (i := 33) rfl)
theorem aw_577 : Cond.code yX8_follow cX8_follow 5 none ∈ AL := uw_6_in _ (List.mem_of_getElem? (i := 34) rfl)
theorem aw_578 : Cond.methodLink RX8 99 yX8_isHopeless ∈ AL := uw_6_in _ (List.mem_of_getElem? (i := 35) rfl)
theorem aw_580 : Cond.instanceMethod yX8_isHopeless ∈ AL := uw_6_in _ (List.mem_of_getElem? (i := 36) rfl)
theorem aw_581 : Cond.code yX8_isHopeless cX8_isHopeless 3 (some .boolean) ∈ AL := uw_6_in _ (List.mem_of_getElem? (i := 37) rfl)
theorem aw_582 : Cond.methodLink RX8 110 yX1_gainOf ∈ AL := uw_6_in _ (List.mem_of_getElem? (i := 38) rfl)
theorem aw_583 : Cond.instanceMethod yX1_gainOf ∈ AL := uw_6_in _ (List.mem_of_getElem? (i := 39) rfl)
def uw_7 : List Cond := [Cond.selects RX1 yX1_gainOf yX1_gainOf,
  Cond.code yX1_gainOf cX1_gainOf 5 (some .int),
  Cond.methodLink RX8 106 yX8_choose,
  Cond.instanceMethod yX8_choose,
  Cond.code yX8_choose cX8_choose 2 none,
  Cond.methodLink RX8 117 arraycopyName,
  Cond.static arraycopyName,
  Cond.native arraycopyName,
  Cond.methodLink RX8 85 yX8_pass,
  Cond.instanceMethod yX8_pass,
  Cond.code yX8_pass cX8_pass 10 none,
  Cond.methodLink RX8 123 yX8_daysOfStep,
  Cond.instanceMethod yX8_daysOfStep,
  Cond.code yX8_daysOfStep cX8_daysOfStep 6 (some .int),
  Cond.methodLink RX8 130 yX8_drawnWarmth,
  Cond.instanceMethod yX8_drawnWarmth,
  Cond.code yX8_drawnWarmth cX8_drawnWarmth 3 (some .int),
  Cond.constantLong RX8 146 (1103515245),
  Cond.constantLong RX8 148 (12345),
  Cond.constantLong RX8 150 (2147483648),
  Cond.constantLong RX8 152 (65536),
  Cond.constantLong RX8 154 (3),
  Cond.methodLink RX8 134 yX0_meltOf,
  Cond.instanceMethod yX0_meltOf,
  Cond.selects RX0 yX0_meltOf yX0_meltOf,
  Cond.code yX0_meltOf cX0_meltOf 5 (some .int),
  Cond.methodLink RX8 140 yX0_breaksOn,
  Cond.instanceMethod yX0_breaksOn,
  Cond.selects RX0 yX0_breaksOn yX0_breaksOn,
  Cond.code yX0_breaksOn cX0_breaksOn 2 (some .boolean),
  Cond.methodLink RX9 200 yX8_stepAt,
  Cond.instanceMethod yX8_stepAt,
  Cond.selects RX8 yX8_stepAt yX8_stepAt,
  Cond.code yX8_stepAt cX8_stepAt 2 (some .int),
  Cond.instanceMethod yX9_ways,
  Cond.selects RX9 yX9_ways yX9_ways,
  Cond.code yX9_ways cX9_ways 2 (some .int),
  Cond.instanceMethod yX9_best,
  Cond.selects RX9 yX9_best yX9_best,
  Cond.code yX9_best cX9_best 4 (some .int)]
theorem uw_7_in : ∀ w ∈ uw_7, w ∈ AL := AL_of _ [584, 585, 586, 588, 589, 590, 591, 592, 593, 595, 596, 597, 599, 600, 601, 603, 604, 605, 606, 607, 608, 609, 610, 611, 612, 613, 614, 615, 616, 617, 618, 619, 620, 621, 623, 624, 625, 627, 628, 629] (by decide +kernel) (by decide +kernel)
theorem aw_584 : Cond.selects RX1 yX1_gainOf yX1_gainOf ∈ AL := uw_7_in _ (List.mem_of_getElem? (i := 0) rfl)
theorem aw_585 : Cond.code yX1_gainOf cX1_gainOf 5 (some .int) ∈ AL := uw_7_in _ (List.mem_of_getElem? (i := 1) rfl)
theorem aw_586 : Cond.methodLink RX8 106 yX8_choose ∈ AL := uw_7_in _ (List.mem_of_getElem? (i := 2) rfl)
theorem aw_588 : Cond.instanceMethod yX8_choose ∈ AL := uw_7_in _ (List.mem_of_getElem? (i := 3) rfl)
theorem aw_589 : Cond.code yX8_choose cX8_choose 2 none ∈ AL := uw_7_in _ (List.mem_of_getElem? (i := 4) rfl)
theorem aw_590 : Cond.methodLink RX8 117 arraycopyName ∈ AL := uw_7_in _ (List.mem_of_getElem? (i := 5) rfl)
theorem aw_591 : Cond.static arraycopyName ∈ AL := uw_7_in _ (List.mem_of_getElem? (i := 6) rfl)
theorem aw_592 : Cond.native arraycopyName ∈ AL := uw_7_in _ (List.mem_of_getElem? (i := 7) rfl)
theorem aw_593 : Cond.methodLink RX8 85 yX8_pass ∈ AL := uw_7_in _ (List.mem_of_getElem? (i := 8) rfl)
theorem aw_595 : Cond.instanceMethod yX8_pass ∈ AL := uw_7_in _ (List.mem_of_getElem? (i := 9) rfl)
theorem aw_596 : Cond.code yX8_pass cX8_pass 10 none ∈ AL := uw_7_in _ (List.mem_of_getElem? (i := 10) rfl)
theorem aw_597 : Cond.methodLink RX8 123 yX8_daysOfStep ∈ AL := uw_7_in _ (List.mem_of_getElem? (i := 11) rfl)
theorem aw_599 : Cond.instanceMethod yX8_daysOfStep ∈ AL := uw_7_in _ (List.mem_of_getElem? (i := 12) rfl)
theorem aw_600 : Cond.code yX8_daysOfStep cX8_daysOfStep 6 (some .int) ∈ AL := uw_7_in _ (List.mem_of_getElem? (i := 13) rfl)
theorem aw_601 : Cond.methodLink RX8 130 yX8_drawnWarmth ∈ AL := uw_7_in _ (List.mem_of_getElem? (i := 14) rfl)
theorem aw_603 : Cond.instanceMethod yX8_drawnWarmth ∈ AL := uw_7_in _ (List.mem_of_getElem? (i := 15) rfl)
theorem aw_604 : Cond.code yX8_drawnWarmth cX8_drawnWarmth 3 (some .int) ∈ AL := uw_7_in _ (List.mem_of_getElem? (i := 16) rfl)
theorem aw_605 : Cond.constantLong RX8 146 (1103515245) ∈ AL := uw_7_in _ (List.mem_of_getElem? (i := 17) rfl)
theorem aw_606 : Cond.constantLong RX8 148 (12345) ∈ AL := uw_7_in _ (List.mem_of_getElem? (i := 18) rfl)
theorem aw_607 : Cond.constantLong RX8 150 (2147483648) ∈ AL := uw_7_in _ (List.mem_of_getElem? (i := 19) rfl)
theorem aw_608 : Cond.constantLong RX8 152 (65536) ∈ AL := uw_7_in _ (List.mem_of_getElem? (i := 20) rfl)
theorem aw_609 : Cond.constantLong RX8 154 (3) ∈ AL := uw_7_in _ (List.mem_of_getElem? (i := 21) rfl)
theorem aw_610 : Cond.methodLink RX8 134 yX0_meltOf ∈ AL := uw_7_in _ (List.mem_of_getElem? (i := 22) rfl)
theorem aw_611 : Cond.instanceMethod yX0_meltOf ∈ AL := uw_7_in _ (List.mem_of_getElem? (i := 23) rfl)
theorem aw_612 : Cond.selects RX0 yX0_meltOf yX0_meltOf ∈ AL := uw_7_in _ (List.mem_of_getElem? (i := 24) rfl)
theorem aw_613 : Cond.code yX0_meltOf cX0_meltOf 5 (some .int) ∈ AL := uw_7_in _ (List.mem_of_getElem? (i := 25) rfl)
theorem aw_614 : Cond.methodLink RX8 140 yX0_breaksOn ∈ AL := uw_7_in _ (List.mem_of_getElem? (i := 26) rfl)
theorem aw_615 : Cond.instanceMethod yX0_breaksOn ∈ AL := uw_7_in _ (List.mem_of_getElem? (i := 27) rfl)
theorem aw_616 : Cond.selects RX0 yX0_breaksOn yX0_breaksOn ∈ AL := uw_7_in _ (List.mem_of_getElem? (i := 28) rfl)
theorem aw_617 : Cond.code yX0_breaksOn cX0_breaksOn 2 (some .boolean) ∈ AL := uw_7_in _ (List.mem_of_getElem? (i := 29) rfl)
theorem aw_618 : Cond.methodLink RX9 200 yX8_stepAt ∈ AL := uw_7_in _ (List.mem_of_getElem? (i := 30) rfl)
theorem aw_619 : Cond.instanceMethod yX8_stepAt ∈ AL := uw_7_in _ (List.mem_of_getElem? (i := 31) rfl)
theorem aw_620 : Cond.selects RX8 yX8_stepAt yX8_stepAt ∈ AL := uw_7_in _ (List.mem_of_getElem? (i := 32) rfl)
theorem aw_621 : Cond.code yX8_stepAt cX8_stepAt 2 (some .int) ∈ AL := uw_7_in _ (List.mem_of_getElem? (i := 33) rfl)
theorem aw_623 : Cond.instanceMethod yX9_ways ∈ AL := uw_7_in _ (List.mem_of_getElem? (i := 34) rfl)
theorem aw_624 : Cond.selects RX9 yX9_ways yX9_ways ∈ AL := uw_7_in _ (List.mem_of_getElem? (i := 35) rfl)
theorem aw_625 : Cond.code yX9_ways cX9_ways 2 (some .int) ∈ AL := uw_7_in _ (List.mem_of_getElem? (i := 36) rfl)
theorem aw_627 : Cond.instanceMethod yX9_best ∈ AL := uw_7_in _ (List.mem_of_getElem? (i := 37) rfl)
theorem aw_628 : Cond.selects RX9 yX9_best yX9_best ∈ AL := uw_7_in _ (List.mem_of_getElem? (i := 38) rfl)
theorem aw_629 : Cond.code yX9_best cX9_best 4 (some .int) ∈ AL := uw_7_in _ (List.mem_of_getElem? (i := 39) rfl)
def uw_8 : List Cond := [Cond.methodLink RX9 207 yX9_weigh,
  Cond.instanceMethod yX9_weigh,
  Cond.code yX9_weigh cX9_weigh 3 none,
  Cond.methodLink RX9 213 yX3_tugsOf,
  Cond.static yX3_tugsOf,
  Cond.code yX3_tugsOf cX3_tugsOf 1 (some .int),
  Cond.methodLink RX9 216 yX3_hasSkirt,
  Cond.static yX3_hasSkirt,
  Cond.code yX3_hasSkirt cX3_hasSkirt 1 (some .boolean),
  Cond.methodLink RX9 210 yX3_bestEntry,
  Cond.instanceMethod yX3_bestEntry,
  Cond.selects RX3 yX3_bestEntry yX3_bestEntry,
  Cond.code yX3_bestEntry cX3_bestEntry 4 (some .int),
  Cond.instanceMethod yX9_season,
  Cond.selects RX9 yX9_season yX9_season,
  Cond.code yX9_season cX9_season 4 (some .int),
  Cond.methodLink RX9 223 yX3_deal,
  Cond.instanceMethod yX3_deal,
  Cond.selects RX3 yX3_deal yX3_deal,
  Cond.code yX3_deal cX3_deal 4 none,
  Cond.methodLink RX3 26 yX3_mostFrom,
  Cond.instanceMethod yX3_mostFrom,
  Cond.code yX3_mostFrom cX3_mostFrom 5 (some .int),
  Cond.methodLink RX3 30 yX3_gainBy,
  Cond.instanceMethod yX3_gainBy,
  Cond.code yX3_gainBy cX3_gainBy 3 (some .int),
  Cond.methodLink RX3 33 Lib.Math.max.name,
  Cond.methodLink RX9 229 yX3_tugsFor,
  Cond.instanceMethod yX3_tugsFor,
  Cond.selects RX3 yX3_tugsFor yX3_tugsFor,
  Cond.code yX3_tugsFor cX3_tugsFor 5 (some .int),
  Cond.methodLink RX3 38 yX3_fewestFor,
  Cond.instanceMethod yX3_fewestFor,
  Cond.code yX3_fewestFor cX3_fewestFor 4 (some .int),
  Cond.code yX9_more cX9_more 2 (some .int),
  Cond.methodLink RX9 232 yX9_season,
  Cond.code yX9_drawn cX9_drawn 6 (some .int),
  Cond.methodLink RX9 235 yX8_towAgain,
  Cond.instanceMethod yX8_towAgain,
  Cond.selects RX8 yX8_towAgain yX8_towAgain]
theorem uw_8_in : ∀ w ∈ uw_8, w ∈ AL := AL_of _ [630, 632, 633, 634, 635, 636, 637, 638, 639, 640, 641, 642, 643, 645, 646, 647, 648, 649, 650, 651, 652, 654, 655, 656, 658, 659, 660, 661, 662, 663, 664, 665, 667, 668, 672, 673, 677, 678, 679, 680] (by decide +kernel) (by decide +kernel)
theorem aw_630 : Cond.methodLink RX9 207 yX9_weigh ∈ AL := uw_8_in _ (List.mem_of_getElem? (i := 0) rfl)
theorem aw_632 : Cond.instanceMethod yX9_weigh ∈ AL := uw_8_in _ (List.mem_of_getElem? (i := 1) rfl)
theorem aw_633 : Cond.code yX9_weigh cX9_weigh 3 none ∈ AL := uw_8_in _ (List.mem_of_getElem? (i := 2) rfl)
theorem aw_634 : Cond.methodLink RX9 213 yX3_tugsOf ∈ AL := uw_8_in _ (List.mem_of_getElem? (i := 3) rfl)
theorem aw_635 : Cond.static yX3_tugsOf ∈ AL := uw_8_in _ (List.mem_of_getElem? (i := 4) rfl)
theorem aw_636 : Cond.code yX3_tugsOf cX3_tugsOf 1 (some .int) ∈ AL := uw_8_in _ (List.mem_of_getElem? (i := 5) rfl)
theorem aw_637 : Cond.methodLink RX9 216 yX3_hasSkirt ∈ AL := uw_8_in _ (List.mem_of_getElem? (i := 6) rfl)
theorem aw_638 : Cond.static yX3_hasSkirt ∈ AL := uw_8_in _ (List.mem_of_getElem? (i := 7) rfl)
theorem aw_639 : Cond.code yX3_hasSkirt cX3_hasSkirt 1 (some .boolean) ∈ AL := uw_8_in _ (List.mem_of_getElem? (i := 8) rfl)
theorem aw_640 : Cond.methodLink RX9 210 yX3_bestEntry ∈ AL := uw_8_in _ (List.mem_of_getElem? (i := 9) rfl)
theorem aw_641 : Cond.instanceMethod yX3_bestEntry ∈ AL := uw_8_in _ (List.mem_of_getElem? (i := 10) rfl)
theorem aw_642 : Cond.selects RX3 yX3_bestEntry yX3_bestEntry ∈ AL := uw_8_in _ (List.mem_of_getElem? (i := 11) rfl)
theorem aw_643 : Cond.code yX3_bestEntry cX3_bestEntry 4 (some .int) ∈ AL := uw_8_in _ (List.mem_of_getElem? (i := 12) rfl)
theorem aw_645 : Cond.instanceMethod yX9_season ∈ AL := uw_8_in _ (List.mem_of_getElem? (i := 13) rfl)
theorem aw_646 : Cond.selects RX9 yX9_season yX9_season ∈ AL := uw_8_in _ (List.mem_of_getElem? (i := 14) rfl)
theorem aw_647 : Cond.code yX9_season cX9_season 4 (some .int) ∈ AL := uw_8_in _ (List.mem_of_getElem? (i := 15) rfl)
theorem aw_648 : Cond.methodLink RX9 223 yX3_deal ∈ AL := uw_8_in _ (List.mem_of_getElem? (i := 16) rfl)
theorem aw_649 : Cond.instanceMethod yX3_deal ∈ AL := uw_8_in _ (List.mem_of_getElem? (i := 17) rfl)
theorem aw_650 : Cond.selects RX3 yX3_deal yX3_deal ∈ AL := uw_8_in _ (List.mem_of_getElem? (i := 18) rfl)
theorem aw_651 : Cond.code yX3_deal cX3_deal 4 none ∈ AL := uw_8_in _ (List.mem_of_getElem? (i := 19) rfl)
theorem aw_652 : Cond.methodLink RX3 26 yX3_mostFrom ∈ AL := uw_8_in _ (List.mem_of_getElem? (i := 20) rfl)
theorem aw_654 : Cond.instanceMethod yX3_mostFrom ∈ AL := uw_8_in _ (List.mem_of_getElem? (i := 21) rfl)
theorem aw_655 : Cond.code yX3_mostFrom cX3_mostFrom 5 (some .int) ∈ AL := uw_8_in _ (List.mem_of_getElem? (i := 22) rfl)
theorem aw_656 : Cond.methodLink RX3 30 yX3_gainBy ∈ AL := uw_8_in _ (List.mem_of_getElem? (i := 23) rfl)
theorem aw_658 : Cond.instanceMethod yX3_gainBy ∈ AL := uw_8_in _ (List.mem_of_getElem? (i := 24) rfl)
theorem aw_659 : Cond.code yX3_gainBy cX3_gainBy 3 (some .int) ∈ AL := uw_8_in _ (List.mem_of_getElem? (i := 25) rfl)
theorem aw_660 : Cond.methodLink RX3 33 Lib.Math.max.name ∈ AL := uw_8_in _ (List.mem_of_getElem? (i := 26) rfl)
theorem aw_661 : Cond.methodLink RX9 229 yX3_tugsFor ∈ AL := uw_8_in _ (List.mem_of_getElem? (i := 27) rfl)
theorem aw_662 : Cond.instanceMethod yX3_tugsFor ∈ AL := uw_8_in _ (List.mem_of_getElem? (i := 28) rfl)
theorem aw_663 : Cond.selects RX3 yX3_tugsFor yX3_tugsFor ∈ AL := uw_8_in _ (List.mem_of_getElem? (i := 29) rfl)
theorem aw_664 : Cond.code yX3_tugsFor cX3_tugsFor 5 (some .int) ∈ AL := uw_8_in _ (List.mem_of_getElem? (i := 30) rfl)
theorem aw_665 : Cond.methodLink RX3 38 yX3_fewestFor ∈ AL := uw_8_in _ (List.mem_of_getElem? (i := 31) rfl)
theorem aw_667 : Cond.instanceMethod yX3_fewestFor ∈ AL := uw_8_in _ (List.mem_of_getElem? (i := 32) rfl)
theorem aw_668 : Cond.code yX3_fewestFor cX3_fewestFor 4 (some .int) ∈ AL := uw_8_in _ (List.mem_of_getElem? (i := 33) rfl)
theorem aw_672 : Cond.code yX9_more cX9_more 2 (some .int) ∈ AL := uw_8_in _ (List.mem_of_getElem? (i := 34) rfl)
theorem aw_673 : Cond.methodLink RX9 232 yX9_season ∈ AL := uw_8_in _ (List.mem_of_getElem? (i := 35) rfl)
theorem aw_677 : Cond.code yX9_drawn cX9_drawn 6 (some .int) ∈ AL := uw_8_in _ (List.mem_of_getElem? (i := 36) rfl)
theorem aw_678 : Cond.methodLink RX9 235 yX8_towAgain ∈ AL := uw_8_in _ (List.mem_of_getElem? (i := 37) rfl)
theorem aw_679 : Cond.instanceMethod yX8_towAgain ∈ AL := uw_8_in _ (List.mem_of_getElem? (i := 38) rfl)
theorem aw_680 : Cond.selects RX8 yX8_towAgain yX8_towAgain ∈ AL := uw_8_in _ (List.mem_of_getElem? (i := 39) rfl)
def uw_9 : List Cond := [Cond.code yX8_towAgain cX8_towAgain 4 none,
  Cond.code yX9_came cX9_came 10 (some .int),
  Cond.code yX9_letOff cX9_letOff 8 (some .long),
  Cond.constantLong RX9 245 (-102),
  Cond.methodLink RX9 247 yX5_reckon,
  Cond.instanceMethod yX5_reckon,
  Cond.selects RX5 yX5_reckon yX5_reckon,
  Cond.code yX5_reckon cX5_reckon 9 none,
  Cond.methodLink RX5 19 yX5_letOffNow,
  Cond.instanceMethod yX5_letOffNow,
  Cond.code yX5_letOffNow cX5_letOffNow 3 (some .long),
  Cond.constantLong RX5 33 (10),
  Cond.methodLink RX5 45 Lib.Math.max.name,
  Cond.methodLink RX5 23 yX5_heldNow,
  Cond.instanceMethod yX5_heldNow,
  Cond.code yX5_heldNow cX5_heldNow 5 (some .long),
  Cond.methodLink RX5 27 Lib.MathLoose.max_long.x,
  Cond.static Lib.MathLoose.max_long.x,
  Cond.code Lib.MathLoose.max_long.x Lib.MathLoose.max_long.code 4 (some .long),
  Cond.static yX9_commonDivisor,
  Cond.code yX9_commonDivisor cX9_commonDivisor 7 (some .long),
  Cond.code yX9_line cX9_line 4 (some .int),
  Cond.methodLink RX9 261 yX9_isHouse,
  Cond.static yX9_isHouse,
  Cond.code yX9_isHouse cX9_isHouse 1 (some .boolean),
  Cond.methodLink RX9 264 yX4_add,
  Cond.instanceMethod yX4_add,
  Cond.selects RX4 yX4_add yX4_add,
  Cond.code yX4_add cX4_add 4 (some .boolean),
  Cond.code yX9_claims cX9_claims 11 (some .int),
  Cond.methodLink RX9 271 yX4_allIfFirst,
  Cond.instanceMethod yX4_allIfFirst,
  Cond.selects RX4 yX4_allIfFirst yX4_allIfFirst,
  Cond.code yX4_allIfFirst cX4_allIfFirst 6 (some .int),
  Cond.methodLink RX4 34 yX4_counts,
  Cond.instanceMethod yX4_counts,
  Cond.code yX4_counts cX4_counts 4 (some .boolean),
  Cond.methodLink RX9 275 yX4_sharesOf,
  Cond.instanceMethod yX4_sharesOf,
  Cond.selects RX4 yX4_sharesOf yX4_sharesOf]
theorem uw_9_in : ∀ w ∈ uw_9, w ∈ AL := AL_of _ [681, 685, 689, 690, 691, 692, 693, 694, 695, 697, 698, 699, 700, 701, 703, 704, 705, 706, 707, 709, 710, 714, 715, 716, 717, 718, 719, 720, 721, 725, 726, 727, 728, 729, 730, 732, 733, 734, 735, 736] (by decide +kernel) (by decide +kernel)
theorem aw_681 : Cond.code yX8_towAgain cX8_towAgain 4 none ∈ AL := uw_9_in _ (List.mem_of_getElem? (i := 0) rfl)
theorem aw_685 : Cond.code yX9_came cX9_came 10 (some .int) ∈ AL := uw_9_in _ (List.mem_of_getElem? (i := 1) rfl)
theorem aw_689 : Cond.code yX9_letOff cX9_letOff 8 (some .long) ∈ AL := uw_9_in _ (List.mem_of_getElem? (i := 2) rfl)
theorem aw_690 : Cond.constantLong RX9 245 (-102) ∈ AL := uw_9_in _ (List.mem_of_getElem? (i := 3) rfl)
theorem aw_691 : Cond.methodLink RX9 247 yX5_reckon ∈ AL := uw_9_in _ (List.mem_of_getElem? (i := 4) rfl)
theorem aw_692 : Cond.instanceMethod yX5_reckon ∈ AL := uw_9_in _ (List.mem_of_getElem? (i := 5) rfl)
theorem aw_693 : Cond.selects RX5 yX5_reckon yX5_reckon ∈ AL := uw_9_in _ (List.mem_of_getElem? (i := 6) rfl)
theorem aw_694 : Cond.code yX5_reckon cX5_reckon 9 none ∈ AL := uw_9_in _ (List.mem_of_getElem? (i := 7) rfl)
theorem aw_695 : Cond.methodLink RX5 19 yX5_letOffNow ∈ AL := uw_9_in _ (List.mem_of_getElem? (i := 8) rfl)
theorem aw_697 : Cond.instanceMethod yX5_letOffNow ∈ AL := uw_9_in _ (List.mem_of_getElem? (i := 9) rfl)
theorem aw_698 : Cond.code yX5_letOffNow cX5_letOffNow 3 (some .long) ∈ AL := uw_9_in _ (List.mem_of_getElem? (i := 10) rfl)
theorem aw_699 : Cond.constantLong RX5 33 (10) ∈ AL := uw_9_in _ (List.mem_of_getElem? (i := 11) rfl)
theorem aw_700 : Cond.methodLink RX5 45 Lib.Math.max.name ∈ AL := uw_9_in _ (List.mem_of_getElem? (i := 12) rfl)
theorem aw_701 : Cond.methodLink RX5 23 yX5_heldNow ∈ AL := uw_9_in _ (List.mem_of_getElem? (i := 13) rfl)
theorem aw_703 : Cond.instanceMethod yX5_heldNow ∈ AL := uw_9_in _ (List.mem_of_getElem? (i := 14) rfl)
theorem aw_704 : Cond.code yX5_heldNow cX5_heldNow 5 (some .long) ∈ AL := uw_9_in _ (List.mem_of_getElem? (i := 15) rfl)
theorem aw_705 : Cond.methodLink RX5 27 Lib.MathLoose.max_long.x ∈ AL := uw_9_in _ (List.mem_of_getElem? (i := 16) rfl)
theorem aw_706 : Cond.static Lib.MathLoose.max_long.x ∈ AL := uw_9_in _ (List.mem_of_getElem? (i := 17) rfl)
theorem aw_707 : Cond.code Lib.MathLoose.max_long.x Lib.MathLoose.max_long.code 4 (some .long) ∈ AL := uw_9_in _ (List.mem_of_getElem? (i := 18) rfl)
theorem aw_709 : Cond.static yX9_commonDivisor ∈ AL := uw_9_in _ (List.mem_of_getElem? (i := 19) rfl)
theorem aw_710 : Cond.code yX9_commonDivisor cX9_commonDivisor 7 (some .long) ∈ AL := uw_9_in _ (List.mem_of_getElem? (i := 20) rfl)
theorem aw_714 : Cond.code yX9_line cX9_line 4 (some .int) ∈ AL := uw_9_in _ (List.mem_of_getElem? (i := 21) rfl)
theorem aw_715 : Cond.methodLink RX9 261 yX9_isHouse ∈ AL := uw_9_in _ (List.mem_of_getElem? (i := 22) rfl)
theorem aw_716 : Cond.static yX9_isHouse ∈ AL := uw_9_in _ (List.mem_of_getElem? (i := 23) rfl)
theorem aw_717 : Cond.code yX9_isHouse cX9_isHouse 1 (some .boolean) ∈ AL := uw_9_in _ (List.mem_of_getElem? (i := 24) rfl)
theorem aw_718 : Cond.methodLink RX9 264 yX4_add ∈ AL := uw_9_in _ (List.mem_of_getElem? (i := 25) rfl)
theorem aw_719 : Cond.instanceMethod yX4_add ∈ AL := uw_9_in _ (List.mem_of_getElem? (i := 26) rfl)
theorem aw_720 : Cond.selects RX4 yX4_add yX4_add ∈ AL := uw_9_in _ (List.mem_of_getElem? (i := 27) rfl)
theorem aw_721 : Cond.code yX4_add cX4_add 4 (some .boolean) ∈ AL := uw_9_in _ (List.mem_of_getElem? (i := 28) rfl)
theorem aw_725 : Cond.code yX9_claims cX9_claims 11 (some .int) ∈ AL := uw_9_in _ (List.mem_of_getElem? (i := 29) rfl)
theorem aw_726 : Cond.methodLink RX9 271 yX4_allIfFirst ∈ AL := uw_9_in _ (List.mem_of_getElem? (i := 30) rfl)
theorem aw_727 : Cond.instanceMethod yX4_allIfFirst ∈ AL := uw_9_in _ (List.mem_of_getElem? (i := 31) rfl)
theorem aw_728 : Cond.selects RX4 yX4_allIfFirst yX4_allIfFirst ∈ AL := uw_9_in _ (List.mem_of_getElem? (i := 32) rfl)
theorem aw_729 : Cond.code yX4_allIfFirst cX4_allIfFirst 6 (some .int) ∈ AL := uw_9_in _ (List.mem_of_getElem? (i := 33) rfl)
theorem aw_730 : Cond.methodLink RX4 34 yX4_counts ∈ AL := uw_9_in _ (List.mem_of_getElem? (i := 34) rfl)
theorem aw_732 : Cond.instanceMethod yX4_counts ∈ AL := uw_9_in _ (List.mem_of_getElem? (i := 35) rfl)
theorem aw_733 : Cond.code yX4_counts cX4_counts 4 (some .boolean) ∈ AL := uw_9_in _ (List.mem_of_getElem? (i := 36) rfl)
theorem aw_734 : Cond.methodLink RX9 275 yX4_sharesOf ∈ AL := uw_9_in _ (List.mem_of_getElem? (i := 37) rfl)
theorem aw_735 : Cond.instanceMethod yX4_sharesOf ∈ AL := uw_9_in _ (List.mem_of_getElem? (i := 38) rfl)
theorem aw_736 : Cond.selects RX4 yX4_sharesOf yX4_sharesOf ∈ AL := uw_9_in _ (List.mem_of_getElem? (i := 39) rfl)
def uw_10 : List Cond := [Cond.code yX4_sharesOf cX4_sharesOf 7 (some .int),
  Cond.methodLink RX9 279 yX4_sharesOfAll,
  Cond.instanceMethod yX4_sharesOfAll,
  Cond.selects RX4 yX4_sharesOfAll yX4_sharesOfAll,
  Cond.code yX4_sharesOfAll cX4_sharesOfAll 6 (some .int),
  Cond.methodLink RX4 38 yX4_sharesOf,
  Cond.methodLink RX9 283 yX9_commonDivisor,
  Cond.code yX9_image cX9_image 1 (some .int),
  Cond.methodLink RX9 287 yX2_keep,
  Cond.instanceMethod yX2_keep,
  Cond.selects RX2 yX2_keep yX2_keep,
  Cond.code yX2_keep cX2_keep 5 none,
  Cond.methodLink RX2 25 Lib.Math.min.name,
  Cond.methodLink RX2 43 yX1_copy,
  Cond.instanceMethod yX1_copy,
  Cond.selects RX1 yX1_copy yX1_copy,
  Cond.code yX1_copy cX1_copy 2 none,
  Cond.methodLink RX1 19 arraycopyName,
  Cond.code yX9_restore cX9_restore 1 (some .int),
  Cond.methodLink RX9 297 yX2_giveBack,
  Cond.instanceMethod yX2_giveBack,
  Cond.selects RX2 yX2_giveBack yX2_giveBack,
  Cond.code yX2_giveBack cX2_giveBack 4 none,
  Cond.instanceMethod yX9_count,
  Cond.selects RX9 yX9_count yX9_count,
  Cond.code yX9_count cX9_count 2 (some .int),
  Cond.code yX9_digest cX9_digest 5 (some .long),
  Cond.constantLong RX9 306 (569),
  Cond.constantLong RX9 308 (31),
  Cond.methodLink RX9 310 yX9_square,
  Cond.methodLink RX9 312 yX9_about,
  Cond.methodLink RX9 315 yX9_ways,
  Cond.methodLink RX9 318 yX9_tow,
  Cond.methodLink RX9 322 yX9_best,
  Cond.methodLink RX9 334 yX6_codeAt,
  Cond.methodLink RX9 337 yX9_count,
  Cond.fieldLink RX10 7 "IceForCoastModel" "page" "[I",
  Cond.fieldLink RX10 74 "IceForCoastModel" "pageMany" "I",
  Cond.fieldLink RX10 92 "IceForCoastModel" "readRows" "I",
  Cond.fieldLink RX10 95 "IceForCoastModel" "readWide" "I"]
theorem uw_10_in : ∀ w ∈ uw_10, w ∈ AL := AL_of _ [737, 738, 739, 740, 741, 742, 743, 747, 748, 749, 750, 751, 752, 753, 754, 755, 756, 757, 761, 762, 763, 764, 765, 767, 768, 769, 773, 774, 775, 776, 777, 778, 779, 780, 781, 782, 789, 790, 791, 792] (by decide +kernel) (by decide +kernel)
theorem aw_737 : Cond.code yX4_sharesOf cX4_sharesOf 7 (some .int) ∈ AL := uw_10_in _ (List.mem_of_getElem? (i := 0) rfl)
theorem aw_738 : Cond.methodLink RX9 279 yX4_sharesOfAll ∈ AL := uw_10_in _ (List.mem_of_getElem? (i := 1) rfl)
theorem aw_739 : Cond.instanceMethod yX4_sharesOfAll ∈ AL := uw_10_in _ (List.mem_of_getElem? (i := 2) rfl)
theorem aw_740 : Cond.selects RX4 yX4_sharesOfAll yX4_sharesOfAll ∈ AL := uw_10_in _ (List.mem_of_getElem? (i := 3) rfl)
theorem aw_741 : Cond.code yX4_sharesOfAll cX4_sharesOfAll 6 (some .int) ∈ AL := uw_10_in _ (List.mem_of_getElem? (i := 4) rfl)
theorem aw_742 : Cond.methodLink RX4 38 yX4_sharesOf ∈ AL := uw_10_in _ (List.mem_of_getElem? (i := 5) rfl)
theorem aw_743 : Cond.methodLink RX9 283 yX9_commonDivisor ∈ AL := uw_10_in _ (List.mem_of_getElem? (i := 6) rfl)
theorem aw_747 : Cond.code yX9_image cX9_image 1 (some .int) ∈ AL := uw_10_in _ (List.mem_of_getElem? (i := 7) rfl)
theorem aw_748 : Cond.methodLink RX9 287 yX2_keep ∈ AL := uw_10_in _ (List.mem_of_getElem? (i := 8) rfl)
theorem aw_749 : Cond.instanceMethod yX2_keep ∈ AL := uw_10_in _ (List.mem_of_getElem? (i := 9) rfl)
theorem aw_750 : Cond.selects RX2 yX2_keep yX2_keep ∈ AL := uw_10_in _ (List.mem_of_getElem? (i := 10) rfl)
theorem aw_751 : Cond.code yX2_keep cX2_keep 5 none ∈ AL := uw_10_in _ (List.mem_of_getElem? (i := 11) rfl)
theorem aw_752 : Cond.methodLink RX2 25 Lib.Math.min.name ∈ AL := uw_10_in _ (List.mem_of_getElem? (i := 12) rfl)
theorem aw_753 : Cond.methodLink RX2 43 yX1_copy ∈ AL := uw_10_in _ (List.mem_of_getElem? (i := 13) rfl)
theorem aw_754 : Cond.instanceMethod yX1_copy ∈ AL := uw_10_in _ (List.mem_of_getElem? (i := 14) rfl)
theorem aw_755 : Cond.selects RX1 yX1_copy yX1_copy ∈ AL := uw_10_in _ (List.mem_of_getElem? (i := 15) rfl)
theorem aw_756 : Cond.code yX1_copy cX1_copy 2 none ∈ AL := uw_10_in _ (List.mem_of_getElem? (i := 16) rfl)
theorem aw_757 : Cond.methodLink RX1 19 arraycopyName ∈ AL := uw_10_in _ (List.mem_of_getElem? (i := 17) rfl)
theorem aw_761 : Cond.code yX9_restore cX9_restore 1 (some .int) ∈ AL := uw_10_in _ (List.mem_of_getElem? (i := 18) rfl)
theorem aw_762 : Cond.methodLink RX9 297 yX2_giveBack ∈ AL := uw_10_in _ (List.mem_of_getElem? (i := 19) rfl)
theorem aw_763 : Cond.instanceMethod yX2_giveBack ∈ AL := uw_10_in _ (List.mem_of_getElem? (i := 20) rfl)
theorem aw_764 : Cond.selects RX2 yX2_giveBack yX2_giveBack ∈ AL := uw_10_in _ (List.mem_of_getElem? (i := 21) rfl)
theorem aw_765 : Cond.code yX2_giveBack cX2_giveBack 4 none ∈ AL := uw_10_in _ (List.mem_of_getElem? (i := 22) rfl)
theorem aw_767 : Cond.instanceMethod yX9_count ∈ AL := uw_10_in _ (List.mem_of_getElem? (i := 23) rfl)
theorem aw_768 : Cond.selects RX9 yX9_count yX9_count ∈ AL := uw_10_in _ (List.mem_of_getElem? (i := 24) rfl)
theorem aw_769 : Cond.code yX9_count cX9_count 2 (some .int) ∈ AL := uw_10_in _ (List.mem_of_getElem? (i := 25) rfl)
theorem aw_773 : Cond.code yX9_digest cX9_digest 5 (some .long) ∈ AL := uw_10_in _ (List.mem_of_getElem? (i := 26) rfl)
theorem aw_774 : Cond.constantLong RX9 306 (569) ∈ AL := uw_10_in _ (List.mem_of_getElem? (i := 27) rfl)
theorem aw_775 : Cond.constantLong RX9 308 (31) ∈ AL := uw_10_in _ (List.mem_of_getElem? (i := 28) rfl)
theorem aw_776 : Cond.methodLink RX9 310 yX9_square ∈ AL := uw_10_in _ (List.mem_of_getElem? (i := 29) rfl)
theorem aw_777 : Cond.methodLink RX9 312 yX9_about ∈ AL := uw_10_in _ (List.mem_of_getElem? (i := 30) rfl)
theorem aw_778 : Cond.methodLink RX9 315 yX9_ways ∈ AL := uw_10_in _ (List.mem_of_getElem? (i := 31) rfl)
theorem aw_779 : Cond.methodLink RX9 318 yX9_tow ∈ AL := uw_10_in _ (List.mem_of_getElem? (i := 32) rfl)
theorem aw_780 : Cond.methodLink RX9 322 yX9_best ∈ AL := uw_10_in _ (List.mem_of_getElem? (i := 33) rfl)
theorem aw_781 : Cond.methodLink RX9 334 yX6_codeAt ∈ AL := uw_10_in _ (List.mem_of_getElem? (i := 34) rfl)
theorem aw_782 : Cond.methodLink RX9 337 yX9_count ∈ AL := uw_10_in _ (List.mem_of_getElem? (i := 35) rfl)
theorem aw_789 : Cond.fieldLink RX10 7 "IceForCoastModel" "page" "[I" ∈ AL := uw_10_in _ (List.mem_of_getElem? (i := 36) rfl)
theorem aw_790 : Cond.fieldLink RX10 74 "IceForCoastModel" "pageMany" "I" ∈ AL := uw_10_in _ (List.mem_of_getElem? (i := 37) rfl)
theorem aw_791 : Cond.fieldLink RX10 92 "IceForCoastModel" "readRows" "I" ∈ AL := uw_10_in _ (List.mem_of_getElem? (i := 38) rfl)
theorem aw_792 : Cond.fieldLink RX10 95 "IceForCoastModel" "readWide" "I" ∈ AL := uw_10_in _ (List.mem_of_getElem? (i := 39) rfl)
def uw_11 : List Cond := [Cond.fieldLink RX10 89 "IceForCoastModel" "readMany" "I",
  Cond.fieldLink RX10 106 "IceForCoastModel" "readHarbour" "I",
  Cond.fieldLink RX10 77 "IceForCoastModel" "mayFlow" "Z",
  Cond.fieldLink RX10 13 "IceForCoastModel" "readWarm" "[I",
  Cond.fieldLink RX10 16 "IceForCoastModel" "readFlow" "[I",
  Cond.fieldLink RX10 116 "IceForCoastModel" "rows" "I",
  Cond.fieldLink RX10 119 "IceForCoastModel" "wide" "I",
  Cond.fieldLink RX10 122 "IceForCoastModel" "harbour" "I",
  Cond.fieldLink RX10 131 "IceForCoastModel" "seasRead" "I",
  Cond.fieldLink RX10 19 "IceForCoastModel" "warm" "[I",
  Cond.fieldLink RX10 22 "IceForCoastModel" "flow" "[I",
  Cond.fieldLink RX10 125 "IceForCoastModel" "bergs" "I",
  Cond.fieldLink RX10 25 "IceForCoastModel" "bergRows" "[I",
  Cond.fieldLink RX10 63 "IceForCoastModel" "price" "I",
  Cond.fieldLink RX10 66 "IceForCoastModel" "wage" "I",
  Cond.fieldLink RX10 69 "IceForCoastModel" "cloth" "I",
  Cond.fieldLink RX10 128 "IceForCoastModel" "lines" "I",
  Cond.fieldLink RX10 28 "IceForCoastModel" "lineRows" "[I",
  Cond.fieldLink RX10 177 "IceForCoastModel" "kindNow" "I",
  Cond.fieldLink RX10 180 "IceForCoastModel" "sizeNow" "I",
  Cond.fieldLink RX10 186 "IceForCoastModel" "footNow" "I",
  Cond.fieldLink RX10 192 "IceForCoastModel" "everyNow" "I",
  Cond.fieldLink RX10 189 "IceForCoastModel" "daysNow" "I",
  Cond.fieldLink RX10 183 "IceForCoastModel" "hasSkirt" "Z",
  Cond.fieldLink RX10 195 "IceForCoastModel" "tugsNow" "I",
  Cond.fieldLink RX10 166 "IceForCoastModel" "seedNow" "I",
  Cond.fieldLink RX10 31 "IceForCoastModel" "way" "[I",
  Cond.fieldLink RX10 34 "IceForCoastModel" "places" "[I",
  Cond.fieldLink RX10 37 "IceForCoastModel" "bestWay" "[I",
  Cond.fieldLink RX10 225 "IceForCoastModel" "bestSteps" "I",
  Cond.fieldLink RX10 222 "IceForCoastModel" "bestWater" "I",
  Cond.fieldLink RX10 219 "IceForCoastModel" "bestDays" "I",
  Cond.fieldLink RX10 216 "IceForCoastModel" "bestGain" "I",
  Cond.fieldLink RX10 206 "IceForCoastModel" "wayMany" "I",
  Cond.fieldLink RX10 40 "IceForCoastModel" "gains" "[I",
  Cond.fieldLink RX10 43 "IceForCoastModel" "most" "[I",
  Cond.fieldLink RX10 271 "IceForCoastModel" "done" "I",
  Cond.fieldLink RX10 46 "IceForCoastModel" "waterNow" "[J",
  Cond.fieldLink RX10 50 "IceForCoastModel" "waterNext" "[J",
  Cond.fieldLink RX10 59 "IceForCoastModel" "kept" "I"]
theorem uw_11_in : ∀ w ∈ uw_11, w ∈ AL := AL_of _ [793, 794, 795, 796, 797, 798, 799, 800, 801, 802, 803, 804, 805, 806, 807, 808, 809, 810, 811, 812, 813, 814, 815, 816, 817, 818, 819, 820, 821, 822, 823, 824, 825, 826, 827, 828, 829, 830, 831, 832] (by decide +kernel) (by decide +kernel)
theorem aw_793 : Cond.fieldLink RX10 89 "IceForCoastModel" "readMany" "I" ∈ AL := uw_11_in _ (List.mem_of_getElem? (i := 0) rfl)
theorem aw_794 : Cond.fieldLink RX10 106 "IceForCoastModel" "readHarbour" "I" ∈ AL := uw_11_in _ (List.mem_of_getElem? (i := 1) rfl)
theorem aw_795 : Cond.fieldLink RX10 77 "IceForCoastModel" "mayFlow" "Z" ∈ AL := uw_11_in _ (List.mem_of_getElem? (i := 2) rfl)
theorem aw_796 : Cond.fieldLink RX10 13 "IceForCoastModel" "readWarm" "[I" ∈ AL := uw_11_in _ (List.mem_of_getElem? (i := 3) rfl)
theorem aw_797 : Cond.fieldLink RX10 16 "IceForCoastModel" "readFlow" "[I" ∈ AL := uw_11_in _ (List.mem_of_getElem? (i := 4) rfl)
theorem aw_798 : Cond.fieldLink RX10 116 "IceForCoastModel" "rows" "I" ∈ AL := uw_11_in _ (List.mem_of_getElem? (i := 5) rfl)
theorem aw_799 : Cond.fieldLink RX10 119 "IceForCoastModel" "wide" "I" ∈ AL := uw_11_in _ (List.mem_of_getElem? (i := 6) rfl)
theorem aw_800 : Cond.fieldLink RX10 122 "IceForCoastModel" "harbour" "I" ∈ AL := uw_11_in _ (List.mem_of_getElem? (i := 7) rfl)
theorem aw_801 : Cond.fieldLink RX10 131 "IceForCoastModel" "seasRead" "I" ∈ AL := uw_11_in _ (List.mem_of_getElem? (i := 8) rfl)
theorem aw_802 : Cond.fieldLink RX10 19 "IceForCoastModel" "warm" "[I" ∈ AL := uw_11_in _ (List.mem_of_getElem? (i := 9) rfl)
theorem aw_803 : Cond.fieldLink RX10 22 "IceForCoastModel" "flow" "[I" ∈ AL := uw_11_in _ (List.mem_of_getElem? (i := 10) rfl)
theorem aw_804 : Cond.fieldLink RX10 125 "IceForCoastModel" "bergs" "I" ∈ AL := uw_11_in _ (List.mem_of_getElem? (i := 11) rfl)
theorem aw_805 : Cond.fieldLink RX10 25 "IceForCoastModel" "bergRows" "[I" ∈ AL := uw_11_in _ (List.mem_of_getElem? (i := 12) rfl)
theorem aw_806 : Cond.fieldLink RX10 63 "IceForCoastModel" "price" "I" ∈ AL := uw_11_in _ (List.mem_of_getElem? (i := 13) rfl)
theorem aw_807 : Cond.fieldLink RX10 66 "IceForCoastModel" "wage" "I" ∈ AL := uw_11_in _ (List.mem_of_getElem? (i := 14) rfl)
theorem aw_808 : Cond.fieldLink RX10 69 "IceForCoastModel" "cloth" "I" ∈ AL := uw_11_in _ (List.mem_of_getElem? (i := 15) rfl)
theorem aw_809 : Cond.fieldLink RX10 128 "IceForCoastModel" "lines" "I" ∈ AL := uw_11_in _ (List.mem_of_getElem? (i := 16) rfl)
theorem aw_810 : Cond.fieldLink RX10 28 "IceForCoastModel" "lineRows" "[I" ∈ AL := uw_11_in _ (List.mem_of_getElem? (i := 17) rfl)
theorem aw_811 : Cond.fieldLink RX10 177 "IceForCoastModel" "kindNow" "I" ∈ AL := uw_11_in _ (List.mem_of_getElem? (i := 18) rfl)
theorem aw_812 : Cond.fieldLink RX10 180 "IceForCoastModel" "sizeNow" "I" ∈ AL := uw_11_in _ (List.mem_of_getElem? (i := 19) rfl)
theorem aw_813 : Cond.fieldLink RX10 186 "IceForCoastModel" "footNow" "I" ∈ AL := uw_11_in _ (List.mem_of_getElem? (i := 20) rfl)
theorem aw_814 : Cond.fieldLink RX10 192 "IceForCoastModel" "everyNow" "I" ∈ AL := uw_11_in _ (List.mem_of_getElem? (i := 21) rfl)
theorem aw_815 : Cond.fieldLink RX10 189 "IceForCoastModel" "daysNow" "I" ∈ AL := uw_11_in _ (List.mem_of_getElem? (i := 22) rfl)
theorem aw_816 : Cond.fieldLink RX10 183 "IceForCoastModel" "hasSkirt" "Z" ∈ AL := uw_11_in _ (List.mem_of_getElem? (i := 23) rfl)
theorem aw_817 : Cond.fieldLink RX10 195 "IceForCoastModel" "tugsNow" "I" ∈ AL := uw_11_in _ (List.mem_of_getElem? (i := 24) rfl)
theorem aw_818 : Cond.fieldLink RX10 166 "IceForCoastModel" "seedNow" "I" ∈ AL := uw_11_in _ (List.mem_of_getElem? (i := 25) rfl)
theorem aw_819 : Cond.fieldLink RX10 31 "IceForCoastModel" "way" "[I" ∈ AL := uw_11_in _ (List.mem_of_getElem? (i := 26) rfl)
theorem aw_820 : Cond.fieldLink RX10 34 "IceForCoastModel" "places" "[I" ∈ AL := uw_11_in _ (List.mem_of_getElem? (i := 27) rfl)
theorem aw_821 : Cond.fieldLink RX10 37 "IceForCoastModel" "bestWay" "[I" ∈ AL := uw_11_in _ (List.mem_of_getElem? (i := 28) rfl)
theorem aw_822 : Cond.fieldLink RX10 225 "IceForCoastModel" "bestSteps" "I" ∈ AL := uw_11_in _ (List.mem_of_getElem? (i := 29) rfl)
theorem aw_823 : Cond.fieldLink RX10 222 "IceForCoastModel" "bestWater" "I" ∈ AL := uw_11_in _ (List.mem_of_getElem? (i := 30) rfl)
theorem aw_824 : Cond.fieldLink RX10 219 "IceForCoastModel" "bestDays" "I" ∈ AL := uw_11_in _ (List.mem_of_getElem? (i := 31) rfl)
theorem aw_825 : Cond.fieldLink RX10 216 "IceForCoastModel" "bestGain" "I" ∈ AL := uw_11_in _ (List.mem_of_getElem? (i := 32) rfl)
theorem aw_826 : Cond.fieldLink RX10 206 "IceForCoastModel" "wayMany" "I" ∈ AL := uw_11_in _ (List.mem_of_getElem? (i := 33) rfl)
theorem aw_827 : Cond.fieldLink RX10 40 "IceForCoastModel" "gains" "[I" ∈ AL := uw_11_in _ (List.mem_of_getElem? (i := 34) rfl)
theorem aw_828 : Cond.fieldLink RX10 43 "IceForCoastModel" "most" "[I" ∈ AL := uw_11_in _ (List.mem_of_getElem? (i := 35) rfl)
theorem aw_829 : Cond.fieldLink RX10 271 "IceForCoastModel" "done" "I" ∈ AL := uw_11_in _ (List.mem_of_getElem? (i := 36) rfl)
theorem aw_830 : Cond.fieldLink RX10 46 "IceForCoastModel" "waterNow" "[J" ∈ AL := uw_11_in _ (List.mem_of_getElem? (i := 37) rfl)
theorem aw_831 : Cond.fieldLink RX10 50 "IceForCoastModel" "waterNext" "[J" ∈ AL := uw_11_in _ (List.mem_of_getElem? (i := 38) rfl)
theorem aw_832 : Cond.fieldLink RX10 59 "IceForCoastModel" "kept" "I" ∈ AL := uw_11_in _ (List.mem_of_getElem? (i := 39) rfl)
def uw_12 : List Cond := [Cond.fieldLink RX10 295 "IceForCoastModel" "keptSea" "I",
  Cond.fieldLink RX10 283 "IceForCoastModel" "keptPrice" "I",
  Cond.fieldLink RX10 286 "IceForCoastModel" "keptWage" "I",
  Cond.fieldLink RX10 289 "IceForCoastModel" "keptCloth" "I",
  Cond.fieldLink RX10 292 "IceForCoastModel" "keptLines" "I",
  Cond.fieldLink RX10 53 "IceForCoastModel" "keptBergs" "[I",
  Cond.fieldLink RX10 56 "IceForCoastModel" "keptRows" "[I",
  Cond.fieldLink RX10 303 "IceForCoastModel" "hash" "J",
  Cond.code yX10_letters cX10_letters 9 (some .int),
  Cond.constantLong RX10 72 (255),
  Cond.code yX10_blank cX10_blank 2 (some .int),
  Cond.code yX10_fault cX10_fault 1 (some .int),
  Cond.methodLink RX10 113 yX10_faultOf,
  Cond.instanceMethod yX10_faultOf,
  Cond.code yX10_faultOf cX10_faultOf 2 (some .int),
  Cond.methodLink RX10 109 yX10_go,
  Cond.instanceMethod yX10_go,
  Cond.code yX10_go cX10_go 4 (some .boolean),
  Cond.methodLink RX10 81 yX10_flowOf,
  Cond.static yX10_flowOf,
  Cond.code yX10_flowOf cX10_flowOf 1 (some .int),
  Cond.methodLink RX10 85 yX10_readAt,
  Cond.instanceMethod yX10_readAt,
  Cond.code yX10_readAt cX10_readAt 1 (some .int),
  Cond.constantLong RX10 98 (48),
  Cond.constantLong RX10 100 (57),
  Cond.methodLink RX10 102 yX10_in,
  Cond.static yX10_in,
  Cond.code yX10_in cX10_in 6 (some .boolean),
  Cond.code yX10_sea cX10_sea 2 (some .int),
  Cond.code yX10_square cX10_square 3 (some .int),
  Cond.methodLink RX10 140 yX10_isSquare,
  Cond.instanceMethod yX10_isSquare,
  Cond.code yX10_isSquare cX10_isSquare 2 (some .boolean),
  Cond.methodLink RX10 143 yX10_tellSquare,
  Cond.instanceMethod yX10_tellSquare,
  Cond.code yX10_tellSquare cX10_tellSquare 3 (some .int),
  Cond.methodLink RX10 137 yX10_farOf,
  Cond.instanceMethod yX10_farOf,
  Cond.code yX10_farOf cX10_farOf 2 (some .int)]
theorem uw_12_in : ∀ w ∈ uw_12, w ∈ AL := AL_of _ [833, 834, 835, 836, 837, 838, 839, 840, 949, 950, 954, 958, 959, 961, 962, 963, 965, 966, 967, 968, 969, 970, 972, 973, 974, 975, 976, 977, 978, 982, 986, 987, 989, 990, 991, 993, 994, 995, 997, 998] (by decide +kernel) (by decide +kernel)
theorem aw_833 : Cond.fieldLink RX10 295 "IceForCoastModel" "keptSea" "I" ∈ AL := uw_12_in _ (List.mem_of_getElem? (i := 0) rfl)
theorem aw_834 : Cond.fieldLink RX10 283 "IceForCoastModel" "keptPrice" "I" ∈ AL := uw_12_in _ (List.mem_of_getElem? (i := 1) rfl)
theorem aw_835 : Cond.fieldLink RX10 286 "IceForCoastModel" "keptWage" "I" ∈ AL := uw_12_in _ (List.mem_of_getElem? (i := 2) rfl)
theorem aw_836 : Cond.fieldLink RX10 289 "IceForCoastModel" "keptCloth" "I" ∈ AL := uw_12_in _ (List.mem_of_getElem? (i := 3) rfl)
theorem aw_837 : Cond.fieldLink RX10 292 "IceForCoastModel" "keptLines" "I" ∈ AL := uw_12_in _ (List.mem_of_getElem? (i := 4) rfl)
theorem aw_838 : Cond.fieldLink RX10 53 "IceForCoastModel" "keptBergs" "[I" ∈ AL := uw_12_in _ (List.mem_of_getElem? (i := 5) rfl)
theorem aw_839 : Cond.fieldLink RX10 56 "IceForCoastModel" "keptRows" "[I" ∈ AL := uw_12_in _ (List.mem_of_getElem? (i := 6) rfl)
theorem aw_840 : Cond.fieldLink RX10 303 "IceForCoastModel" "hash" "J" ∈ AL := uw_12_in _ (List.mem_of_getElem? (i := 7) rfl)
theorem aw_949 : Cond.code yX10_letters cX10_letters 9 (some .int) ∈ AL := uw_12_in _ (List.mem_of_getElem? (i := 8) rfl)
theorem aw_950 : Cond.constantLong RX10 72 (255) ∈ AL := uw_12_in _ (List.mem_of_getElem? (i := 9) rfl)
theorem aw_954 : Cond.code yX10_blank cX10_blank 2 (some .int) ∈ AL := uw_12_in _ (List.mem_of_getElem? (i := 10) rfl)
theorem aw_958 : Cond.code yX10_fault cX10_fault 1 (some .int) ∈ AL := uw_12_in _ (List.mem_of_getElem? (i := 11) rfl)
theorem aw_959 : Cond.methodLink RX10 113 yX10_faultOf ∈ AL := uw_12_in _ (List.mem_of_getElem? (i := 12) rfl)
theorem aw_961 : Cond.instanceMethod yX10_faultOf ∈ AL := uw_12_in _ (List.mem_of_getElem? (i := 13) rfl)
theorem aw_962 : Cond.code yX10_faultOf cX10_faultOf 2 (some .int) ∈ AL := uw_12_in _ (List.mem_of_getElem? (i := 14) rfl)
theorem aw_963 : Cond.methodLink RX10 109 yX10_go ∈ AL := uw_12_in _ (List.mem_of_getElem? (i := 15) rfl)
theorem aw_965 : Cond.instanceMethod yX10_go ∈ AL := uw_12_in _ (List.mem_of_getElem? (i := 16) rfl)
theorem aw_966 : Cond.code yX10_go cX10_go 4 (some .boolean) ∈ AL := uw_12_in _ (List.mem_of_getElem? (i := 17) rfl)
theorem aw_967 : Cond.methodLink RX10 81 yX10_flowOf ∈ AL := uw_12_in _ (List.mem_of_getElem? (i := 18) rfl)
theorem aw_968 : Cond.static yX10_flowOf ∈ AL := uw_12_in _ (List.mem_of_getElem? (i := 19) rfl)
theorem aw_969 : Cond.code yX10_flowOf cX10_flowOf 1 (some .int) ∈ AL := uw_12_in _ (List.mem_of_getElem? (i := 20) rfl)
theorem aw_970 : Cond.methodLink RX10 85 yX10_readAt ∈ AL := uw_12_in _ (List.mem_of_getElem? (i := 21) rfl)
theorem aw_972 : Cond.instanceMethod yX10_readAt ∈ AL := uw_12_in _ (List.mem_of_getElem? (i := 22) rfl)
theorem aw_973 : Cond.code yX10_readAt cX10_readAt 1 (some .int) ∈ AL := uw_12_in _ (List.mem_of_getElem? (i := 23) rfl)
theorem aw_974 : Cond.constantLong RX10 98 (48) ∈ AL := uw_12_in _ (List.mem_of_getElem? (i := 24) rfl)
theorem aw_975 : Cond.constantLong RX10 100 (57) ∈ AL := uw_12_in _ (List.mem_of_getElem? (i := 25) rfl)
theorem aw_976 : Cond.methodLink RX10 102 yX10_in ∈ AL := uw_12_in _ (List.mem_of_getElem? (i := 26) rfl)
theorem aw_977 : Cond.static yX10_in ∈ AL := uw_12_in _ (List.mem_of_getElem? (i := 27) rfl)
theorem aw_978 : Cond.code yX10_in cX10_in 6 (some .boolean) ∈ AL := uw_12_in _ (List.mem_of_getElem? (i := 28) rfl)
theorem aw_982 : Cond.code yX10_sea cX10_sea 2 (some .int) ∈ AL := uw_12_in _ (List.mem_of_getElem? (i := 29) rfl)
theorem aw_986 : Cond.code yX10_square cX10_square 3 (some .int) ∈ AL := uw_12_in _ (List.mem_of_getElem? (i := 30) rfl)
theorem aw_987 : Cond.methodLink RX10 140 yX10_isSquare ∈ AL := uw_12_in _ (List.mem_of_getElem? (i := 31) rfl)
theorem aw_989 : Cond.instanceMethod yX10_isSquare ∈ AL := uw_12_in _ (List.mem_of_getElem? (i := 32) rfl)
theorem aw_990 : Cond.code yX10_isSquare cX10_isSquare 2 (some .boolean) ∈ AL := uw_12_in _ (List.mem_of_getElem? (i := 33) rfl)
theorem aw_991 : Cond.methodLink RX10 143 yX10_tellSquare ∈ AL := uw_12_in _ (List.mem_of_getElem? (i := 34) rfl)
theorem aw_993 : Cond.instanceMethod yX10_tellSquare ∈ AL := uw_12_in _ (List.mem_of_getElem? (i := 35) rfl)
theorem aw_994 : Cond.code yX10_tellSquare cX10_tellSquare 3 (some .int) ∈ AL := uw_12_in _ (List.mem_of_getElem? (i := 36) rfl)
theorem aw_995 : Cond.methodLink RX10 137 yX10_farOf ∈ AL := uw_12_in _ (List.mem_of_getElem? (i := 37) rfl)
theorem aw_997 : Cond.instanceMethod yX10_farOf ∈ AL := uw_12_in _ (List.mem_of_getElem? (i := 38) rfl)
theorem aw_998 : Cond.code yX10_farOf cX10_farOf 2 (some .int) ∈ AL := uw_12_in _ (List.mem_of_getElem? (i := 39) rfl)
def uw_13 : List Cond := [Cond.methodLink RX10 134 yX10_size,
  Cond.static yX10_size,
  Cond.code yX10_size cX10_size 1 (some .int),
  Cond.code yX10_berg cX10_berg 6 (some .int),
  Cond.constantLong RX10 147 (4),
  Cond.constantLong RX10 149 (10),
  Cond.constantLong RX10 151 (999),
  Cond.constantLong RX10 153 (99),
  Cond.constantLong RX10 155 (2),
  Cond.constantLong RX10 157 (9),
  Cond.code yX10_as cX10_as 5 (some .int),
  Cond.methodLink RX10 159 yX10_isBerg,
  Cond.instanceMethod yX10_isBerg,
  Cond.code yX10_isBerg cX10_isBerg 2 (some .boolean),
  Cond.code yX10_about cX10_about 3 (some .int),
  Cond.code yX10_change cX10_change 5 (some .int),
  Cond.constantLong RX10 162 (3),
  Cond.code yX10_coin cX10_coin 4 (some .int),
  Cond.code yX10_tow cX10_tow 5 (some .int),
  Cond.constant RX10 244 (-100101),
  Cond.methodLink RX10 245 yX10_areTugs,
  Cond.static yX10_areTugs,
  Cond.code yX10_areTugs cX10_areTugs 1 (some .boolean),
  Cond.constantLong RX10 242 (11),
  Cond.constantLong RX10 248 (18),
  Cond.methodLink RX10 250 yX10_tellTow,
  Cond.instanceMethod yX10_tellTow,
  Cond.code yX10_tellTow cX10_tellTow 5 (some .int),
  Cond.methodLink RX10 235 yX10_ownSize,
  Cond.instanceMethod yX10_ownSize,
  Cond.code yX10_ownSize cX10_ownSize 2 (some .int),
  Cond.methodLink RX10 238 yX10_layWays,
  Cond.instanceMethod yX10_layWays,
  Cond.code yX10_layWays cX10_layWays 7 none,
  Cond.methodLink RX10 228 yX10_to,
  Cond.instanceMethod yX10_to,
  Cond.code yX10_to cX10_to 6 (some .int),
  Cond.methodLink RX10 231 yX10_tryWay,
  Cond.instanceMethod yX10_tryWay,
  Cond.code yX10_tryWay cX10_tryWay 8 none]
theorem uw_13_in : ∀ w ∈ uw_13, w ∈ AL := AL_of _ [999, 1000, 1001, 1005, 1006, 1007, 1008, 1009, 1010, 1011, 1015, 1016, 1018, 1019, 1023, 1027, 1028, 1032, 1036, 1037, 1038, 1039, 1040, 1041, 1042, 1043, 1045, 1046, 1047, 1049, 1050, 1051, 1053, 1054, 1055, 1057, 1058, 1059, 1061, 1062] (by decide +kernel) (by decide +kernel)
theorem aw_999 : Cond.methodLink RX10 134 yX10_size ∈ AL := uw_13_in _ (List.mem_of_getElem? (i := 0) rfl)
theorem aw_1000 : Cond.static yX10_size ∈ AL := uw_13_in _ (List.mem_of_getElem? (i := 1) rfl)
theorem aw_1001 : Cond.code yX10_size cX10_size 1 (some .int) ∈ AL := uw_13_in _ (List.mem_of_getElem? (i := 2) rfl)
theorem aw_1005 : Cond.code yX10_berg cX10_berg 6 (some .int) ∈ AL := uw_13_in _ (List.mem_of_getElem? (i := 3) rfl)
theorem aw_1006 : Cond.constantLong RX10 147 (4) ∈ AL := uw_13_in _ (List.mem_of_getElem? (i := 4) rfl)
theorem aw_1007 : Cond.constantLong RX10 149 (10) ∈ AL := uw_13_in _ (List.mem_of_getElem? (i := 5) rfl)
theorem aw_1008 : Cond.constantLong RX10 151 (999) ∈ AL := uw_13_in _ (List.mem_of_getElem? (i := 6) rfl)
theorem aw_1009 : Cond.constantLong RX10 153 (99) ∈ AL := uw_13_in _ (List.mem_of_getElem? (i := 7) rfl)
theorem aw_1010 : Cond.constantLong RX10 155 (2) ∈ AL := uw_13_in _ (List.mem_of_getElem? (i := 8) rfl)
theorem aw_1011 : Cond.constantLong RX10 157 (9) ∈ AL := uw_13_in _ (List.mem_of_getElem? (i := 9) rfl)
theorem aw_1015 : Cond.code yX10_as cX10_as 5 (some .int) ∈ AL := uw_13_in _ (List.mem_of_getElem? (i := 10) rfl)
theorem aw_1016 : Cond.methodLink RX10 159 yX10_isBerg ∈ AL := uw_13_in _ (List.mem_of_getElem? (i := 11) rfl)
theorem aw_1018 : Cond.instanceMethod yX10_isBerg ∈ AL := uw_13_in _ (List.mem_of_getElem? (i := 12) rfl)
theorem aw_1019 : Cond.code yX10_isBerg cX10_isBerg 2 (some .boolean) ∈ AL := uw_13_in _ (List.mem_of_getElem? (i := 13) rfl)
theorem aw_1023 : Cond.code yX10_about cX10_about 3 (some .int) ∈ AL := uw_13_in _ (List.mem_of_getElem? (i := 14) rfl)
theorem aw_1027 : Cond.code yX10_change cX10_change 5 (some .int) ∈ AL := uw_13_in _ (List.mem_of_getElem? (i := 15) rfl)
theorem aw_1028 : Cond.constantLong RX10 162 (3) ∈ AL := uw_13_in _ (List.mem_of_getElem? (i := 16) rfl)
theorem aw_1032 : Cond.code yX10_coin cX10_coin 4 (some .int) ∈ AL := uw_13_in _ (List.mem_of_getElem? (i := 17) rfl)
theorem aw_1036 : Cond.code yX10_tow cX10_tow 5 (some .int) ∈ AL := uw_13_in _ (List.mem_of_getElem? (i := 18) rfl)
theorem aw_1037 : Cond.constant RX10 244 (-100101) ∈ AL := uw_13_in _ (List.mem_of_getElem? (i := 19) rfl)
theorem aw_1038 : Cond.methodLink RX10 245 yX10_areTugs ∈ AL := uw_13_in _ (List.mem_of_getElem? (i := 20) rfl)
theorem aw_1039 : Cond.static yX10_areTugs ∈ AL := uw_13_in _ (List.mem_of_getElem? (i := 21) rfl)
theorem aw_1040 : Cond.code yX10_areTugs cX10_areTugs 1 (some .boolean) ∈ AL := uw_13_in _ (List.mem_of_getElem? (i := 22) rfl)
theorem aw_1041 : Cond.constantLong RX10 242 (11) ∈ AL := uw_13_in _ (List.mem_of_getElem? (i := 23) rfl)
theorem aw_1042 : Cond.constantLong RX10 248 (18) ∈ AL := uw_13_in _ (List.mem_of_getElem? (i := 24) rfl)
theorem aw_1043 : Cond.methodLink RX10 250 yX10_tellTow ∈ AL := uw_13_in _ (List.mem_of_getElem? (i := 25) rfl)
theorem aw_1045 : Cond.instanceMethod yX10_tellTow ∈ AL := uw_13_in _ (List.mem_of_getElem? (i := 26) rfl)
theorem aw_1046 : Cond.code yX10_tellTow cX10_tellTow 5 (some .int) ∈ AL := uw_13_in _ (List.mem_of_getElem? (i := 27) rfl)
theorem aw_1047 : Cond.methodLink RX10 235 yX10_ownSize ∈ AL := uw_13_in _ (List.mem_of_getElem? (i := 28) rfl)
theorem aw_1049 : Cond.instanceMethod yX10_ownSize ∈ AL := uw_13_in _ (List.mem_of_getElem? (i := 29) rfl)
theorem aw_1050 : Cond.code yX10_ownSize cX10_ownSize 2 (some .int) ∈ AL := uw_13_in _ (List.mem_of_getElem? (i := 30) rfl)
theorem aw_1051 : Cond.methodLink RX10 238 yX10_layWays ∈ AL := uw_13_in _ (List.mem_of_getElem? (i := 31) rfl)
theorem aw_1053 : Cond.instanceMethod yX10_layWays ∈ AL := uw_13_in _ (List.mem_of_getElem? (i := 32) rfl)
theorem aw_1054 : Cond.code yX10_layWays cX10_layWays 7 none ∈ AL := uw_13_in _ (List.mem_of_getElem? (i := 33) rfl)
theorem aw_1055 : Cond.methodLink RX10 228 yX10_to ∈ AL := uw_13_in _ (List.mem_of_getElem? (i := 34) rfl)
theorem aw_1057 : Cond.instanceMethod yX10_to ∈ AL := uw_13_in _ (List.mem_of_getElem? (i := 35) rfl)
theorem aw_1058 : Cond.code yX10_to cX10_to 6 (some .int) ∈ AL := uw_13_in _ (List.mem_of_getElem? (i := 36) rfl)
theorem aw_1059 : Cond.methodLink RX10 231 yX10_tryWay ∈ AL := uw_13_in _ (List.mem_of_getElem? (i := 37) rfl)
theorem aw_1061 : Cond.instanceMethod yX10_tryWay ∈ AL := uw_13_in _ (List.mem_of_getElem? (i := 38) rfl)
theorem aw_1062 : Cond.code yX10_tryWay cX10_tryWay 8 none ∈ AL := uw_13_in _ (List.mem_of_getElem? (i := 39) rfl)
def uw_14 : List Cond := [Cond.methodLink RX10 209 yX10_begin,
  Cond.instanceMethod yX10_begin,
  Cond.code yX10_begin cX10_begin 5 none,
  Cond.methodLink RX10 213 yX10_towAll,
  Cond.instanceMethod yX10_towAll,
  Cond.code yX10_towAll cX10_towAll 3 none,
  Cond.methodLink RX10 202 yX10_step,
  Cond.instanceMethod yX10_step,
  Cond.code yX10_step cX10_step 5 none,
  Cond.methodLink RX10 198 yX10_day,
  Cond.instanceMethod yX10_day,
  Cond.code yX10_day cX10_day 4 none,
  Cond.methodLink RX10 174 yX10_draw,
  Cond.instanceMethod yX10_draw,
  Cond.code yX10_draw cX10_draw 2 (some .int),
  Cond.constantLong RX10 164 (1103515245),
  Cond.constantLong RX10 169 (12345),
  Cond.constantLong RX10 171 (2147483647),
  Cond.constant RX10 173 (65536),
  Cond.constant RX10 241 (-100001),
  Cond.constant RX10 254 (-100102),
  Cond.code yX10_ways cX10_ways 2 (some .int),
  Cond.methodLink RX10 255 yX10_waysOf,
  Cond.instanceMethod yX10_waysOf,
  Cond.code yX10_waysOf cX10_waysOf 2 (some .int),
  Cond.code yX10_best cX10_best 3 (some .int),
  Cond.methodLink RX10 259 yX10_tellBest,
  Cond.instanceMethod yX10_tellBest,
  Cond.code yX10_tellBest cX10_tellBest 7 (some .int),
  Cond.constant RX10 258 (-100000000),
  Cond.code yX10_season cX10_season 3 (some .int),
  Cond.methodLink RX10 262 yX10_lacks,
  Cond.instanceMethod yX10_lacks,
  Cond.code yX10_lacks cX10_lacks 1 (some .boolean),
  Cond.constantLong RX10 266 (5),
  Cond.methodLink RX10 268 yX10_seasonOf,
  Cond.instanceMethod yX10_seasonOf,
  Cond.code yX10_seasonOf cX10_seasonOf 8 (some .int),
  Cond.code yX10_more cX10_more 2 (some .int),
  Cond.code yX10_drawn cX10_drawn 8 (some .int)]
theorem uw_14_in : ∀ w ∈ uw_14, w ∈ AL := AL_of _ [1063, 1065, 1066, 1067, 1069, 1070, 1071, 1073, 1074, 1075, 1077, 1078, 1079, 1081, 1082, 1083, 1084, 1085, 1086, 1087, 1088, 1092, 1093, 1095, 1096, 1100, 1101, 1103, 1104, 1105, 1109, 1110, 1112, 1113, 1114, 1115, 1117, 1118, 1122, 1126] (by decide +kernel) (by decide +kernel)
theorem aw_1063 : Cond.methodLink RX10 209 yX10_begin ∈ AL := uw_14_in _ (List.mem_of_getElem? (i := 0) rfl)
theorem aw_1065 : Cond.instanceMethod yX10_begin ∈ AL := uw_14_in _ (List.mem_of_getElem? (i := 1) rfl)
theorem aw_1066 : Cond.code yX10_begin cX10_begin 5 none ∈ AL := uw_14_in _ (List.mem_of_getElem? (i := 2) rfl)
theorem aw_1067 : Cond.methodLink RX10 213 yX10_towAll ∈ AL := uw_14_in _ (List.mem_of_getElem? (i := 3) rfl)
theorem aw_1069 : Cond.instanceMethod yX10_towAll ∈ AL := uw_14_in _ (List.mem_of_getElem? (i := 4) rfl)
theorem aw_1070 : Cond.code yX10_towAll cX10_towAll 3 none ∈ AL := uw_14_in _ (List.mem_of_getElem? (i := 5) rfl)
theorem aw_1071 : Cond.methodLink RX10 202 yX10_step ∈ AL := uw_14_in _ (List.mem_of_getElem? (i := 6) rfl)
theorem aw_1073 : Cond.instanceMethod yX10_step ∈ AL := uw_14_in _ (List.mem_of_getElem? (i := 7) rfl)
theorem aw_1074 : Cond.code yX10_step cX10_step 5 none ∈ AL := uw_14_in _ (List.mem_of_getElem? (i := 8) rfl)
theorem aw_1075 : Cond.methodLink RX10 198 yX10_day ∈ AL := uw_14_in _ (List.mem_of_getElem? (i := 9) rfl)
theorem aw_1077 : Cond.instanceMethod yX10_day ∈ AL := uw_14_in _ (List.mem_of_getElem? (i := 10) rfl)
theorem aw_1078 : Cond.code yX10_day cX10_day 4 none ∈ AL := uw_14_in _ (List.mem_of_getElem? (i := 11) rfl)
theorem aw_1079 : Cond.methodLink RX10 174 yX10_draw ∈ AL := uw_14_in _ (List.mem_of_getElem? (i := 12) rfl)
theorem aw_1081 : Cond.instanceMethod yX10_draw ∈ AL := uw_14_in _ (List.mem_of_getElem? (i := 13) rfl)
theorem aw_1082 : Cond.code yX10_draw cX10_draw 2 (some .int) ∈ AL := uw_14_in _ (List.mem_of_getElem? (i := 14) rfl)
theorem aw_1083 : Cond.constantLong RX10 164 (1103515245) ∈ AL := uw_14_in _ (List.mem_of_getElem? (i := 15) rfl)
theorem aw_1084 : Cond.constantLong RX10 169 (12345) ∈ AL := uw_14_in _ (List.mem_of_getElem? (i := 16) rfl)
theorem aw_1085 : Cond.constantLong RX10 171 (2147483647) ∈ AL := uw_14_in _ (List.mem_of_getElem? (i := 17) rfl)
theorem aw_1086 : Cond.constant RX10 173 (65536) ∈ AL := uw_14_in _ (List.mem_of_getElem? (i := 18) rfl)
theorem aw_1087 : Cond.constant RX10 241 (-100001) ∈ AL := uw_14_in _ (List.mem_of_getElem? (i := 19) rfl)
theorem aw_1088 : Cond.constant RX10 254 (-100102) ∈ AL := uw_14_in _ (List.mem_of_getElem? (i := 20) rfl)
theorem aw_1092 : Cond.code yX10_ways cX10_ways 2 (some .int) ∈ AL := uw_14_in _ (List.mem_of_getElem? (i := 21) rfl)
theorem aw_1093 : Cond.methodLink RX10 255 yX10_waysOf ∈ AL := uw_14_in _ (List.mem_of_getElem? (i := 22) rfl)
theorem aw_1095 : Cond.instanceMethod yX10_waysOf ∈ AL := uw_14_in _ (List.mem_of_getElem? (i := 23) rfl)
theorem aw_1096 : Cond.code yX10_waysOf cX10_waysOf 2 (some .int) ∈ AL := uw_14_in _ (List.mem_of_getElem? (i := 24) rfl)
theorem aw_1100 : Cond.code yX10_best cX10_best 3 (some .int) ∈ AL := uw_14_in _ (List.mem_of_getElem? (i := 25) rfl)
theorem aw_1101 : Cond.methodLink RX10 259 yX10_tellBest ∈ AL := uw_14_in _ (List.mem_of_getElem? (i := 26) rfl)
theorem aw_1103 : Cond.instanceMethod yX10_tellBest ∈ AL := uw_14_in _ (List.mem_of_getElem? (i := 27) rfl)
theorem aw_1104 : Cond.code yX10_tellBest cX10_tellBest 7 (some .int) ∈ AL := uw_14_in _ (List.mem_of_getElem? (i := 28) rfl)
theorem aw_1105 : Cond.constant RX10 258 (-100000000) ∈ AL := uw_14_in _ (List.mem_of_getElem? (i := 29) rfl)
theorem aw_1109 : Cond.code yX10_season cX10_season 3 (some .int) ∈ AL := uw_14_in _ (List.mem_of_getElem? (i := 30) rfl)
theorem aw_1110 : Cond.methodLink RX10 262 yX10_lacks ∈ AL := uw_14_in _ (List.mem_of_getElem? (i := 31) rfl)
theorem aw_1112 : Cond.instanceMethod yX10_lacks ∈ AL := uw_14_in _ (List.mem_of_getElem? (i := 32) rfl)
theorem aw_1113 : Cond.code yX10_lacks cX10_lacks 1 (some .boolean) ∈ AL := uw_14_in _ (List.mem_of_getElem? (i := 33) rfl)
theorem aw_1114 : Cond.constantLong RX10 266 (5) ∈ AL := uw_14_in _ (List.mem_of_getElem? (i := 34) rfl)
theorem aw_1115 : Cond.methodLink RX10 268 yX10_seasonOf ∈ AL := uw_14_in _ (List.mem_of_getElem? (i := 35) rfl)
theorem aw_1117 : Cond.instanceMethod yX10_seasonOf ∈ AL := uw_14_in _ (List.mem_of_getElem? (i := 36) rfl)
theorem aw_1118 : Cond.code yX10_seasonOf cX10_seasonOf 8 (some .int) ∈ AL := uw_14_in _ (List.mem_of_getElem? (i := 37) rfl)
theorem aw_1122 : Cond.code yX10_more cX10_more 2 (some .int) ∈ AL := uw_14_in _ (List.mem_of_getElem? (i := 38) rfl)
theorem aw_1126 : Cond.code yX10_drawn cX10_drawn 8 (some .int) ∈ AL := uw_14_in _ (List.mem_of_getElem? (i := 39) rfl)
def uw_15 : List Cond := [Cond.code yX10_came cX10_came 10 (some .int),
  Cond.code yX10_letOff cX10_letOff 17 (some .long),
  Cond.constantLong RX10 274 (-102),
  Cond.methodLink RX10 276 yX10_melted,
  Cond.static yX10_melted,
  Cond.code yX10_melted cX10_melted 2 (some .int),
  Cond.methodLink RX10 279 yX10_common,
  Cond.static yX10_common,
  Cond.code yX10_common cX10_common 10 (some .long),
  Cond.code yX10_line cX10_line 4 (some .int),
  Cond.code yX10_claims cX10_claims 12 (some .int),
  Cond.code yX10_image cX10_image 2 (some .int),
  Cond.code yX10_restore cX10_restore 2 (some .int),
  Cond.code yX10_count cX10_count 2 (some .int),
  Cond.methodLink RX10 298 yX10_countOf,
  Cond.instanceMethod yX10_countOf,
  Cond.code yX10_countOf cX10_countOf 2 (some .int),
  Cond.code yX10_digest cX10_digest 3 (some .long),
  Cond.constantLong RX10 311 (569),
  Cond.methodLink RX10 307 yX10_say,
  Cond.instanceMethod yX10_say,
  Cond.code yX10_say cX10_say 3 none,
  Cond.constantLong RX10 301 (31),
  Cond.methodLink RX10 313 yX10_sayBerg,
  Cond.instanceMethod yX10_sayBerg,
  Cond.code yX10_sayBerg cX10_sayBerg 3 none]
theorem uw_15_in : ∀ w ∈ uw_15, w ∈ AL := AL_of _ [1130, 1134, 1135, 1136, 1137, 1138, 1139, 1140, 1141, 1145, 1149, 1153, 1157, 1161, 1162, 1164, 1165, 1169, 1170, 1171, 1173, 1174, 1175, 1176, 1178, 1179] (by decide +kernel) (by decide +kernel)
theorem aw_1130 : Cond.code yX10_came cX10_came 10 (some .int) ∈ AL := uw_15_in _ (List.mem_of_getElem? (i := 0) rfl)
theorem aw_1134 : Cond.code yX10_letOff cX10_letOff 17 (some .long) ∈ AL := uw_15_in _ (List.mem_of_getElem? (i := 1) rfl)
theorem aw_1135 : Cond.constantLong RX10 274 (-102) ∈ AL := uw_15_in _ (List.mem_of_getElem? (i := 2) rfl)
theorem aw_1136 : Cond.methodLink RX10 276 yX10_melted ∈ AL := uw_15_in _ (List.mem_of_getElem? (i := 3) rfl)
theorem aw_1137 : Cond.static yX10_melted ∈ AL := uw_15_in _ (List.mem_of_getElem? (i := 4) rfl)
theorem aw_1138 : Cond.code yX10_melted cX10_melted 2 (some .int) ∈ AL := uw_15_in _ (List.mem_of_getElem? (i := 5) rfl)
theorem aw_1139 : Cond.methodLink RX10 279 yX10_common ∈ AL := uw_15_in _ (List.mem_of_getElem? (i := 6) rfl)
theorem aw_1140 : Cond.static yX10_common ∈ AL := uw_15_in _ (List.mem_of_getElem? (i := 7) rfl)
theorem aw_1141 : Cond.code yX10_common cX10_common 10 (some .long) ∈ AL := uw_15_in _ (List.mem_of_getElem? (i := 8) rfl)
theorem aw_1145 : Cond.code yX10_line cX10_line 4 (some .int) ∈ AL := uw_15_in _ (List.mem_of_getElem? (i := 9) rfl)
theorem aw_1149 : Cond.code yX10_claims cX10_claims 12 (some .int) ∈ AL := uw_15_in _ (List.mem_of_getElem? (i := 10) rfl)
theorem aw_1153 : Cond.code yX10_image cX10_image 2 (some .int) ∈ AL := uw_15_in _ (List.mem_of_getElem? (i := 11) rfl)
theorem aw_1157 : Cond.code yX10_restore cX10_restore 2 (some .int) ∈ AL := uw_15_in _ (List.mem_of_getElem? (i := 12) rfl)
theorem aw_1161 : Cond.code yX10_count cX10_count 2 (some .int) ∈ AL := uw_15_in _ (List.mem_of_getElem? (i := 13) rfl)
theorem aw_1162 : Cond.methodLink RX10 298 yX10_countOf ∈ AL := uw_15_in _ (List.mem_of_getElem? (i := 14) rfl)
theorem aw_1164 : Cond.instanceMethod yX10_countOf ∈ AL := uw_15_in _ (List.mem_of_getElem? (i := 15) rfl)
theorem aw_1165 : Cond.code yX10_countOf cX10_countOf 2 (some .int) ∈ AL := uw_15_in _ (List.mem_of_getElem? (i := 16) rfl)
theorem aw_1169 : Cond.code yX10_digest cX10_digest 3 (some .long) ∈ AL := uw_15_in _ (List.mem_of_getElem? (i := 17) rfl)
theorem aw_1170 : Cond.constantLong RX10 311 (569) ∈ AL := uw_15_in _ (List.mem_of_getElem? (i := 18) rfl)
theorem aw_1171 : Cond.methodLink RX10 307 yX10_say ∈ AL := uw_15_in _ (List.mem_of_getElem? (i := 19) rfl)
theorem aw_1173 : Cond.instanceMethod yX10_say ∈ AL := uw_15_in _ (List.mem_of_getElem? (i := 20) rfl)
theorem aw_1174 : Cond.code yX10_say cX10_say 3 none ∈ AL := uw_15_in _ (List.mem_of_getElem? (i := 21) rfl)
theorem aw_1175 : Cond.constantLong RX10 301 (31) ∈ AL := uw_15_in _ (List.mem_of_getElem? (i := 22) rfl)
theorem aw_1176 : Cond.methodLink RX10 313 yX10_sayBerg ∈ AL := uw_15_in _ (List.mem_of_getElem? (i := 23) rfl)
theorem aw_1178 : Cond.instanceMethod yX10_sayBerg ∈ AL := uw_15_in _ (List.mem_of_getElem? (i := 24) rfl)
theorem aw_1179 : Cond.code yX10_sayBerg cX10_sayBerg 3 none ∈ AL := uw_15_in _ (List.mem_of_getElem? (i := 25) rfl)
def un_0 : List Cond := [Cond.fieldLinkNest RX7 40 "IceForCoast$Page" "length" "I" "IceForCoast",
  Cond.fieldLinkNest RX9 302 "IceForCoast$Page" "length" "I" "IceForCoast",
  Cond.fieldLinkNest RX9 109 "IceForCoast$Sea" "warmth" "[I" "IceForCoast",
  Cond.fieldLinkNest RX8 127 "IceForCoast$Sea" "warmth" "[I" "IceForCoast",
  Cond.fieldLinkNest RX9 113 "IceForCoast$Sea" "current" "[I" "IceForCoast",
  Cond.fieldLinkNest RX8 143 "IceForCoast$Sea" "current" "[I" "IceForCoast",
  Cond.fieldLinkNest RX9 116 "IceForCoast$Sea" "far" "[I" "IceForCoast",
  Cond.fieldLinkNest RX9 204 "IceForCoast$Sea" "waysFrom" "[I" "IceForCoast",
  Cond.fieldLinkNest RX8 89 "IceForCoast$Sea" "next" "[[I" "IceForCoast",
  Cond.fieldLinkNest RX9 102 "IceForCoast$Sea" "squares" "I" "IceForCoast",
  Cond.fieldLinkNest RX8 103 "IceForCoast$Sea" "harbour" "I" "IceForCoast",
  Cond.fieldLinkNest RX9 303 "IceForCoast$Coins" "value" "[I" "IceForCoast",
  Cond.fieldLinkNest RX8 137 "IceForCoast$Berg" "kind" "I" "IceForCoast",
  Cond.fieldLinkNest RX9 148 "IceForCoast$Berg" "kind" "I" "IceForCoast",
  Cond.fieldLinkNest RX8 71 "IceForCoast$Berg" "square" "I" "IceForCoast",
  Cond.fieldLinkNest RX9 151 "IceForCoast$Berg" "square" "I" "IceForCoast",
  Cond.fieldLinkNest RX2 35 "IceForCoast$Berg" "size" "I" "IceForCoast",
  Cond.fieldLinkNest RX9 154 "IceForCoast$Berg" "size" "I" "IceForCoast",
  Cond.fieldLinkNest RX8 68 "IceForCoast$Berg" "foot" "I" "IceForCoast",
  Cond.fieldLinkNest RX2 40 "IceForCoast$Berg" "foot" "I" "IceForCoast",
  Cond.fieldLinkNest RX9 157 "IceForCoast$Berg" "foot" "I" "IceForCoast",
  Cond.fieldLinkNest RX9 160 "IceForCoast$Berg" "n" "I" "IceForCoast",
  Cond.fieldLinkNest RX9 188 "IceForCoast$Tow" "water" "I" "IceForCoast",
  Cond.fieldLinkNest RX9 191 "IceForCoast$Tow" "days" "I" "IceForCoast",
  Cond.fieldLinkNest RX9 194 "IceForCoast$Tow" "gain" "I" "IceForCoast",
  Cond.fieldLinkNest RX9 197 "IceForCoast$Tow" "steps" "I" "IceForCoast",
  Cond.fieldLinkNest RX9 238 "IceForCoast$Tow" "seed" "J" "IceForCoast",
  Cond.fieldLinkNest RX9 325 "IceForCoast$Lines" "house" "[I" "IceForCoast",
  Cond.fieldLinkNest RX9 328 "IceForCoast$Lines" "berg" "[I" "IceForCoast",
  Cond.fieldLinkNest RX9 331 "IceForCoast$Lines" "day" "[I" "IceForCoast",
  Cond.fieldLinkNest RX9 268 "IceForCoast$Lines" "length" "I" "IceForCoast",
  Cond.fieldLinkNest RX9 301 "IceForCoast$Image" "bergCount" "I" "IceForCoast",
  Cond.fieldLinkNest RX9 291 "IceForCoast$Image" "lineCount" "I" "IceForCoast",
  Cond.fieldLinkNest RX9 294 "IceForCoast$Image" "seaNumber" "I" "IceForCoast",
  Cond.fieldLinkNest RX9 219 "IceForCoast$Ledger" "gains" "[[I" "IceForCoast",
  Cond.fieldLinkNest RX9 340 "IceForCoast$Ledger" "known" "[Z" "IceForCoast",
  Cond.fieldLinkNest RX9 344 "IceForCoast$Ledger" "towable" "[Z" "IceForCoast",
  Cond.fieldLinkNest RX9 226 "IceForCoast$Ledger" "most" "[[I" "IceForCoast",
  Cond.fieldLinkNest RX9 251 "IceForCoast$Odds" "above" "J" "IceForCoast",
  Cond.fieldLinkNest RX9 254 "IceForCoast$Odds" "below" "J" "IceForCoast"]
theorem un_0_in : ∀ w ∈ un_0, w ∈ NW := NW_of _ [75, 76, 113, 114, 116, 117, 119, 121, 123, 125, 127, 153, 164, 165, 166, 168, 169, 171, 172, 173, 175, 177, 206, 208, 210, 212, 215, 260, 262, 264, 266, 288, 289, 290, 312, 314, 316, 318, 337, 339] (by decide +kernel) (by decide +kernel)
theorem aw_75 : Cond.fieldLinkNest RX7 40 "IceForCoast$Page" "length" "I" "IceForCoast" ∈ NW := un_0_in _ (List.mem_of_getElem? (i := 0) rfl)
theorem aw_76 : Cond.fieldLinkNest RX9 302 "IceForCoast$Page" "length" "I" "IceForCoast" ∈ NW := un_0_in _ (List.mem_of_getElem? (i := 1) rfl)
theorem aw_113 : Cond.fieldLinkNest RX9 109 "IceForCoast$Sea" "warmth" "[I" "IceForCoast" ∈ NW := un_0_in _ (List.mem_of_getElem? (i := 2) rfl)
theorem aw_114 : Cond.fieldLinkNest RX8 127 "IceForCoast$Sea" "warmth" "[I" "IceForCoast" ∈ NW := un_0_in _ (List.mem_of_getElem? (i := 3) rfl)
theorem aw_116 : Cond.fieldLinkNest RX9 113 "IceForCoast$Sea" "current" "[I" "IceForCoast" ∈ NW := un_0_in _ (List.mem_of_getElem? (i := 4) rfl)
theorem aw_117 : Cond.fieldLinkNest RX8 143 "IceForCoast$Sea" "current" "[I" "IceForCoast" ∈ NW := un_0_in _ (List.mem_of_getElem? (i := 5) rfl)
theorem aw_119 : Cond.fieldLinkNest RX9 116 "IceForCoast$Sea" "far" "[I" "IceForCoast" ∈ NW := un_0_in _ (List.mem_of_getElem? (i := 6) rfl)
theorem aw_121 : Cond.fieldLinkNest RX9 204 "IceForCoast$Sea" "waysFrom" "[I" "IceForCoast" ∈ NW := un_0_in _ (List.mem_of_getElem? (i := 7) rfl)
theorem aw_123 : Cond.fieldLinkNest RX8 89 "IceForCoast$Sea" "next" "[[I" "IceForCoast" ∈ NW := un_0_in _ (List.mem_of_getElem? (i := 8) rfl)
theorem aw_125 : Cond.fieldLinkNest RX9 102 "IceForCoast$Sea" "squares" "I" "IceForCoast" ∈ NW := un_0_in _ (List.mem_of_getElem? (i := 9) rfl)
theorem aw_127 : Cond.fieldLinkNest RX8 103 "IceForCoast$Sea" "harbour" "I" "IceForCoast" ∈ NW := un_0_in _ (List.mem_of_getElem? (i := 10) rfl)
theorem aw_153 : Cond.fieldLinkNest RX9 303 "IceForCoast$Coins" "value" "[I" "IceForCoast" ∈ NW := un_0_in _ (List.mem_of_getElem? (i := 11) rfl)
theorem aw_164 : Cond.fieldLinkNest RX8 137 "IceForCoast$Berg" "kind" "I" "IceForCoast" ∈ NW := un_0_in _ (List.mem_of_getElem? (i := 12) rfl)
theorem aw_165 : Cond.fieldLinkNest RX9 148 "IceForCoast$Berg" "kind" "I" "IceForCoast" ∈ NW := un_0_in _ (List.mem_of_getElem? (i := 13) rfl)
theorem aw_166 : Cond.fieldLinkNest RX8 71 "IceForCoast$Berg" "square" "I" "IceForCoast" ∈ NW := un_0_in _ (List.mem_of_getElem? (i := 14) rfl)
theorem aw_168 : Cond.fieldLinkNest RX9 151 "IceForCoast$Berg" "square" "I" "IceForCoast" ∈ NW := un_0_in _ (List.mem_of_getElem? (i := 15) rfl)
theorem aw_169 : Cond.fieldLinkNest RX2 35 "IceForCoast$Berg" "size" "I" "IceForCoast" ∈ NW := un_0_in _ (List.mem_of_getElem? (i := 16) rfl)
theorem aw_171 : Cond.fieldLinkNest RX9 154 "IceForCoast$Berg" "size" "I" "IceForCoast" ∈ NW := un_0_in _ (List.mem_of_getElem? (i := 17) rfl)
theorem aw_172 : Cond.fieldLinkNest RX8 68 "IceForCoast$Berg" "foot" "I" "IceForCoast" ∈ NW := un_0_in _ (List.mem_of_getElem? (i := 18) rfl)
theorem aw_173 : Cond.fieldLinkNest RX2 40 "IceForCoast$Berg" "foot" "I" "IceForCoast" ∈ NW := un_0_in _ (List.mem_of_getElem? (i := 19) rfl)
theorem aw_175 : Cond.fieldLinkNest RX9 157 "IceForCoast$Berg" "foot" "I" "IceForCoast" ∈ NW := un_0_in _ (List.mem_of_getElem? (i := 20) rfl)
theorem aw_177 : Cond.fieldLinkNest RX9 160 "IceForCoast$Berg" "n" "I" "IceForCoast" ∈ NW := un_0_in _ (List.mem_of_getElem? (i := 21) rfl)
theorem aw_206 : Cond.fieldLinkNest RX9 188 "IceForCoast$Tow" "water" "I" "IceForCoast" ∈ NW := un_0_in _ (List.mem_of_getElem? (i := 22) rfl)
theorem aw_208 : Cond.fieldLinkNest RX9 191 "IceForCoast$Tow" "days" "I" "IceForCoast" ∈ NW := un_0_in _ (List.mem_of_getElem? (i := 23) rfl)
theorem aw_210 : Cond.fieldLinkNest RX9 194 "IceForCoast$Tow" "gain" "I" "IceForCoast" ∈ NW := un_0_in _ (List.mem_of_getElem? (i := 24) rfl)
theorem aw_212 : Cond.fieldLinkNest RX9 197 "IceForCoast$Tow" "steps" "I" "IceForCoast" ∈ NW := un_0_in _ (List.mem_of_getElem? (i := 25) rfl)
theorem aw_215 : Cond.fieldLinkNest RX9 238 "IceForCoast$Tow" "seed" "J" "IceForCoast" ∈ NW := un_0_in _ (List.mem_of_getElem? (i := 26) rfl)
theorem aw_260 : Cond.fieldLinkNest RX9 325 "IceForCoast$Lines" "house" "[I" "IceForCoast" ∈ NW := un_0_in _ (List.mem_of_getElem? (i := 27) rfl)
theorem aw_262 : Cond.fieldLinkNest RX9 328 "IceForCoast$Lines" "berg" "[I" "IceForCoast" ∈ NW := un_0_in _ (List.mem_of_getElem? (i := 28) rfl)
theorem aw_264 : Cond.fieldLinkNest RX9 331 "IceForCoast$Lines" "day" "[I" "IceForCoast" ∈ NW := un_0_in _ (List.mem_of_getElem? (i := 29) rfl)
theorem aw_266 : Cond.fieldLinkNest RX9 268 "IceForCoast$Lines" "length" "I" "IceForCoast" ∈ NW := un_0_in _ (List.mem_of_getElem? (i := 30) rfl)
theorem aw_288 : Cond.fieldLinkNest RX9 301 "IceForCoast$Image" "bergCount" "I" "IceForCoast" ∈ NW := un_0_in _ (List.mem_of_getElem? (i := 31) rfl)
theorem aw_289 : Cond.fieldLinkNest RX9 291 "IceForCoast$Image" "lineCount" "I" "IceForCoast" ∈ NW := un_0_in _ (List.mem_of_getElem? (i := 32) rfl)
theorem aw_290 : Cond.fieldLinkNest RX9 294 "IceForCoast$Image" "seaNumber" "I" "IceForCoast" ∈ NW := un_0_in _ (List.mem_of_getElem? (i := 33) rfl)
theorem aw_312 : Cond.fieldLinkNest RX9 219 "IceForCoast$Ledger" "gains" "[[I" "IceForCoast" ∈ NW := un_0_in _ (List.mem_of_getElem? (i := 34) rfl)
theorem aw_314 : Cond.fieldLinkNest RX9 340 "IceForCoast$Ledger" "known" "[Z" "IceForCoast" ∈ NW := un_0_in _ (List.mem_of_getElem? (i := 35) rfl)
theorem aw_316 : Cond.fieldLinkNest RX9 344 "IceForCoast$Ledger" "towable" "[Z" "IceForCoast" ∈ NW := un_0_in _ (List.mem_of_getElem? (i := 36) rfl)
theorem aw_318 : Cond.fieldLinkNest RX9 226 "IceForCoast$Ledger" "most" "[[I" "IceForCoast" ∈ NW := un_0_in _ (List.mem_of_getElem? (i := 37) rfl)
theorem aw_337 : Cond.fieldLinkNest RX9 251 "IceForCoast$Odds" "above" "J" "IceForCoast" ∈ NW := un_0_in _ (List.mem_of_getElem? (i := 38) rfl)
theorem aw_339 : Cond.fieldLinkNest RX9 254 "IceForCoast$Odds" "below" "J" "IceForCoast" ∈ NW := un_0_in _ (List.mem_of_getElem? (i := 39) rfl)
def un_1 : List Cond := [Cond.fieldLinkNest RX9 257 "IceForCoast$Odds" "letsOff" "Z" "IceForCoast",
  Cond.methodLinkNest RX5 35 yX9_commonDivisor "IceForCoast"]
theorem un_1_in : ∀ w ∈ un_1, w ∈ NW := NW_of _ [341, 708] (by decide +kernel) (by decide +kernel)
theorem aw_341 : Cond.fieldLinkNest RX9 257 "IceForCoast$Odds" "letsOff" "Z" "IceForCoast" ∈ NW := un_1_in _ (List.mem_of_getElem? (i := 0) rfl)
theorem aw_708 : Cond.methodLinkNest RX5 35 yX9_commonDivisor "IceForCoast" ∈ NW := un_1_in _ (List.mem_of_getElem? (i := 1) rfl)
