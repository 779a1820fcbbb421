theorem inK6 : ∀ w ∈ u_ws RX6 TX6 9, Kw w := fun w h => ⟨(by decide +kernel : ∀ w ∈ u_ws RX6 TX6 9, w ∈ lw_tbl) w h, (by decide +kernel : ∀ w ∈ u_ws RX6 TX6 9, goodWord w = true) w h⟩
theorem inK3 : ∀ w ∈ u_ws RX3 TX3 2, Kw w := fun w h => ⟨(by decide +kernel : ∀ w ∈ u_ws RX3 TX3 2, w ∈ lw_tbl) w h, (by decide +kernel : ∀ w ∈ u_ws RX3 TX3 2, goodWord w = true) w h⟩
theorem inK0 : ∀ w ∈ u_ws RX0 TX0 10, Kw w := fun w h => ⟨(by decide +kernel : ∀ w ∈ u_ws RX0 TX0 10, w ∈ lw_tbl) w h, (by decide +kernel : ∀ w ∈ u_ws RX0 TX0 10, goodWord w = true) w h⟩
theorem inK1 : ∀ w ∈ u_ws RX1 TX1 1, Kw w := fun w h => ⟨(by decide +kernel : ∀ w ∈ u_ws RX1 TX1 1, w ∈ lw_tbl) w h, (by decide +kernel : ∀ w ∈ u_ws RX1 TX1 1, goodWord w = true) w h⟩
theorem inK4 : ∀ w ∈ u_ws RX4 TX4 11, Kw w := fun w h => ⟨(by decide +kernel : ∀ w ∈ u_ws RX4 TX4 11, w ∈ lw_tbl) w h, (by decide +kernel : ∀ w ∈ u_ws RX4 TX4 11, goodWord w = true) w h⟩
theorem inK5 : ∀ w ∈ u_ws RX5 TX5 2, Kw w := fun w h => ⟨(by decide +kernel : ∀ w ∈ u_ws RX5 TX5 2, w ∈ lw_tbl) w h, (by decide +kernel : ∀ w ∈ u_ws RX5 TX5 2, goodWord w = true) w h⟩
theorem inK2 : ∀ w ∈ u_ws RX2 TX2 4, Kw w := fun w h => ⟨(by decide +kernel : ∀ w ∈ u_ws RX2 TX2 4, w ∈ lw_tbl) w h, (by decide +kernel : ∀ w ∈ u_ws RX2 TX2 4, goodWord w = true) w h⟩
theorem kC_RL_7 : Kw (.constant RL 7 (40503)) := ⟨List.mem_append_right _ (List.mem_of_getElem? (i := 529) (by decide +kernel)), by decide +kernel⟩
theorem kF_RX4_38 : Kw (.fieldLink RX4 38 "SteppedSamples$State" "blocks" "I") := ⟨List.mem_append_right _ (List.mem_of_getElem? (i := 42) (by decide +kernel)), by decide +kernel⟩
theorem kF_RX4_28 : Kw (.fieldLink RX4 28 "SteppedSamples$State" "lost" "[Z") := ⟨List.mem_append_right _ (List.mem_of_getElem? (i := 56) (by decide +kernel)), by decide +kernel⟩
theorem kF_RX4_19 : Kw (.fieldLink RX4 19 "SteppedSamples$State" "settings" "[I") := ⟨List.mem_append_right _ (List.mem_of_getElem? (i := 38) (by decide +kernel)), by decide +kernel⟩
theorem kF_RX4_9 : Kw (.fieldLink RX4 9 "SteppedSamples$State" "many" "I") := ⟨List.mem_append_right _ (List.mem_of_getElem? (i := 30) (by decide +kernel)), by decide +kernel⟩
theorem kI_RX4 : Kw (.initialized RX4) := ⟨List.mem_append_right _ (List.mem_of_getElem? (i := 2) (by decide +kernel)), by decide +kernel⟩
theorem kc_X4_startOf : Kw (.code yX4_startOf cX4_startOf 2 (some .int)) := ⟨List.mem_append_right _ (List.mem_of_getElem? (i := 378) (by decide +kernel)), by decide +kernel⟩
theorem ki_X4_startOf : Kw (.instanceMethod yX4_startOf) := ⟨List.mem_append_right _ (List.mem_of_getElem? (i := 376) (by decide +kernel)), by decide +kernel⟩
theorem kz_X4_startOf : Kw (.selects yX4_startOf.cls yX4_startOf yX4_startOf) := ⟨List.mem_append_right _ (List.mem_of_getElem? (i := 377) (by decide +kernel)), by decide +kernel⟩
theorem kb_X4_startOf : VB yX4_startOf cX4_startOf 2 (some .int) 1 := ⟨⟨kI_RX4, kc_X4_startOf, ⟨by decide +kernel, by decide +kernel⟩, by decide +kernel⟩, ki_X4_startOf, kz_X4_startOf⟩
theorem kM_RX4_62 : Kw (.methodLink RX4 62 yX4_startOf) := ⟨List.mem_append_right _ (List.mem_of_getElem? (i := 383) (by decide +kernel)), by decide +kernel⟩
theorem kMs_min : Kw (.static Lib.Math.min.name) := ⟨List.mem_append_right _ (List.mem_of_getElem? (i := 331) (by decide +kernel)), by decide +kernel⟩
theorem kMi : Kw (.initialized "java/lang/Math") := ⟨List.mem_append_right _ (List.mem_of_getElem? (i := 12) (by decide +kernel)), by decide +kernel⟩
theorem kMc_min : Kw (.code Lib.Math.min.name Lib.Math.min.code 2 (some .int)) := ⟨List.mem_append_right _ (List.mem_of_getElem? (i := 332) (by decide +kernel)), by decide +kernel⟩
theorem kM_RX4_66 : Kw (.methodLink RX4 66 Lib.Math.min.name) := ⟨List.mem_append_right _ (List.mem_of_getElem? (i := 384) (by decide +kernel)), by decide +kernel⟩
theorem kF_RX2_80 : Kw (.fieldLink RX2 80 "SteppedSamples$State" "settings" "[I") := ⟨List.mem_append_right _ (List.mem_of_getElem? (i := 40) (by decide +kernel)), by decide +kernel⟩
theorem kF_RX2_9 : Kw (.fieldLink RX2 9 "SteppedSamples$Decoder" "made" "[I") := ⟨List.mem_append_right _ (List.mem_of_getElem? (i := 193) (by decide +kernel)), by decide +kernel⟩
theorem kM_RX2_46 : Kw (.methodLink RX2 46 yX4_startOf) := ⟨List.mem_append_right _ (List.mem_of_getElem? (i := 485) (by decide +kernel)), by decide +kernel⟩
theorem kc_X4_endOf : Kw (.code yX4_endOf cX4_endOf 2 (some .int)) := ⟨List.mem_append_right _ (List.mem_of_getElem? (i := 382) (by decide +kernel)), by decide +kernel⟩
theorem ki_X4_endOf : Kw (.instanceMethod yX4_endOf) := ⟨List.mem_append_right _ (List.mem_of_getElem? (i := 380) (by decide +kernel)), by decide +kernel⟩
theorem kz_X4_endOf : Kw (.selects yX4_endOf.cls yX4_endOf yX4_endOf) := ⟨List.mem_append_right _ (List.mem_of_getElem? (i := 381) (by decide +kernel)), by decide +kernel⟩
theorem kb_X4_endOf : VB yX4_endOf cX4_endOf 2 (some .int) 1 := ⟨⟨kI_RX4, kc_X4_endOf, ⟨by decide +kernel, by decide +kernel⟩, by decide +kernel⟩, ki_X4_endOf, kz_X4_endOf⟩
theorem kM_RX2_60 : Kw (.methodLink RX2 60 yX4_endOf) := ⟨List.mem_append_right _ (List.mem_of_getElem? (i := 486) (by decide +kernel)), by decide +kernel⟩
theorem kI_RX2 : Kw (.initialized RX2) := ⟨List.mem_append_right _ (List.mem_of_getElem? (i := 7) (by decide +kernel)), by decide +kernel⟩
theorem kc_X2_fillingOf : Kw (.code yX2_fillingOf cX2_fillingOf 5 (some .int)) := ⟨List.mem_append_right _ (List.mem_of_getElem? (i := 490) (by decide +kernel)), by decide +kernel⟩
theorem ki_X2_fillingOf : Kw (.instanceMethod yX2_fillingOf) := ⟨List.mem_append_right _ (List.mem_of_getElem? (i := 489) (by decide +kernel)), by decide +kernel⟩
theorem kz_X2_fillingOf : Kw (.selects yX2_fillingOf.cls yX2_fillingOf yX2_fillingOf) := ⟨List.mem_append_left _ (List.mem_of_getElem? (i := 7) (by decide +kernel)), by decide +kernel⟩
theorem kb_X2_fillingOf : VB yX2_fillingOf cX2_fillingOf 5 (some .int) 3 := ⟨⟨kI_RX2, kc_X2_fillingOf, ⟨by decide +kernel, by decide +kernel⟩, by decide +kernel⟩, ki_X2_fillingOf, kz_X2_fillingOf⟩
theorem kM_RX2_76 : Kw (.methodLink RX2 76 yX2_fillingOf) := ⟨List.mem_append_right _ (List.mem_of_getElem? (i := 487) (by decide +kernel)), by decide +kernel⟩
theorem kF_RX2_15 : Kw (.fieldLink RX2 15 "SteppedSamples$Decoder" "numbers" "[I") := ⟨List.mem_append_right _ (List.mem_of_getElem? (i := 195) (by decide +kernel)), by decide +kernel⟩
theorem kF_RX5_15 : Kw (.fieldLink RX5 15 "SteppedSamples$Walk" "guess" "I") := ⟨List.mem_append_right _ (List.mem_of_getElem? (i := 169) (by decide +kernel)), by decide +kernel⟩
theorem kF_RX5_19 : Kw (.fieldLink RX5 19 "SteppedSamples$Walk" "number" "I") := ⟨List.mem_append_right _ (List.mem_of_getElem? (i := 173) (by decide +kernel)), by decide +kernel⟩
theorem kF_RX5_9 : Kw (.fieldLink RX5 9 "SteppedSamples$Walk" "STEPS" "[I") := ⟨List.mem_append_right _ (List.mem_of_getElem? (i := 404) (by decide +kernel)), by decide +kernel⟩
theorem kM_RX6_373 : Kw (.methodLink RX6 373 Lib.Math.min.name) := ⟨List.mem_append_right _ (List.mem_of_getElem? (i := 330) (by decide +kernel)), by decide +kernel⟩
theorem kMs_max : Kw (.static Lib.Math.max.name) := ⟨List.mem_append_right _ (List.mem_of_getElem? (i := 361) (by decide +kernel)), by decide +kernel⟩
theorem kMc_max : Kw (.code Lib.Math.max.name Lib.Math.max.code 2 (some .int)) := ⟨List.mem_append_right _ (List.mem_of_getElem? (i := 362) (by decide +kernel)), by decide +kernel⟩
theorem kM_RX6_379 : Kw (.methodLink RX6 379 Lib.Math.max.name) := ⟨List.mem_append_right _ (List.mem_of_getElem? (i := 360) (by decide +kernel)), by decide +kernel⟩
theorem kM_RX5_38 : Kw (.methodLink RX5 38 Lib.Math.min.name) := ⟨List.mem_append_right _ (List.mem_of_getElem? (i := 415) (by decide +kernel)), by decide +kernel⟩
theorem kM_RX5_41 : Kw (.methodLink RX5 41 Lib.Math.max.name) := ⟨List.mem_append_right _ (List.mem_of_getElem? (i := 416) (by decide +kernel)), by decide +kernel⟩
theorem kI_RX6 : Kw (.initialized RX6) := ⟨List.mem_append_right _ (List.mem_of_getElem? (i := 1) (by decide +kernel)), by decide +kernel⟩
theorem kc_X6_clip : Kw (.code yX6_clip cX6_clip 1 (some .int)) := ⟨List.mem_append_right _ (List.mem_of_getElem? (i := 359) (by decide +kernel)), by decide +kernel⟩
theorem ks_X6_clip : Kw (.static yX6_clip) := ⟨List.mem_append_right _ (List.mem_of_getElem? (i := 358) (by decide +kernel)), by decide +kernel⟩
theorem kb_X6_clip : SB yX6_clip cX6_clip 1 (some .int) 1 := ⟨⟨kI_RX6, kc_X6_clip, ⟨by decide +kernel, by decide +kernel⟩, by decide +kernel⟩, ks_X6_clip⟩
theorem kI_RX5 : Kw (.initialized RX5) := ⟨List.mem_append_right _ (List.mem_of_getElem? (i := 6) (by decide +kernel)), by decide +kernel⟩
theorem kc_X5_stepOf : Kw (.code yX5_stepOf cX5_stepOf 1 (some .int)) := ⟨List.mem_append_right _ (List.mem_of_getElem? (i := 403) (by decide +kernel)), by decide +kernel⟩
theorem ks_X5_stepOf : Kw (.static yX5_stepOf) := ⟨List.mem_append_right _ (List.mem_of_getElem? (i := 402) (by decide +kernel)), by decide +kernel⟩
theorem kb_X5_stepOf : SB yX5_stepOf cX5_stepOf 1 (some .int) 1 := ⟨⟨kI_RX5, kc_X5_stepOf, ⟨by decide +kernel, by decide +kernel⟩, by decide +kernel⟩, ks_X5_stepOf⟩
theorem kM_RX5_22 : Kw (.methodLink RX5 22 yX5_stepOf) := ⟨List.mem_append_right _ (List.mem_of_getElem? (i := 401) (by decide +kernel)), by decide +kernel⟩
theorem kc_X5_changeBy : Kw (.code yX5_changeBy cX5_changeBy 3 (some .int)) := ⟨List.mem_append_right _ (List.mem_of_getElem? (i := 413) (by decide +kernel)), by decide +kernel⟩
theorem ks_X5_changeBy : Kw (.static yX5_changeBy) := ⟨List.mem_append_right _ (List.mem_of_getElem? (i := 412) (by decide +kernel)), by decide +kernel⟩
theorem kb_X5_changeBy : SB yX5_changeBy cX5_changeBy 3 (some .int) 2 := ⟨⟨kI_RX5, kc_X5_changeBy, ⟨by decide +kernel, by decide +kernel⟩, by decide +kernel⟩, ks_X5_changeBy⟩
theorem kM_RX5_31 : Kw (.methodLink RX5 31 yX5_changeBy) := ⟨List.mem_append_right _ (List.mem_of_getElem? (i := 411) (by decide +kernel)), by decide +kernel⟩
theorem kF_RX2_21 : Kw (.fieldLink RX2 21 "SteppedSamples$Decoder" "walk" "LSteppedSamples$Walk;") := ⟨List.mem_append_right _ (List.mem_of_getElem? (i := 197) (by decide +kernel)), by decide +kernel⟩
theorem kF_RX2_70 : Kw (.fieldLink RX2 70 "SteppedSamples$Walk" "guess" "I") := ⟨List.mem_append_right _ (List.mem_of_getElem? (i := 170) (by decide +kernel)), by decide +kernel⟩
theorem kF_RX2_73 : Kw (.fieldLink RX2 73 "SteppedSamples$Walk" "number" "I") := ⟨List.mem_append_right _ (List.mem_of_getElem? (i := 174) (by decide +kernel)), by decide +kernel⟩
theorem kF_RX2_63 : Kw (.fieldLink RX2 63 "SteppedSamples$State" "codes" "[I") := ⟨List.mem_append_right _ (List.mem_of_getElem? (i := 62) (by decide +kernel)), by decide +kernel⟩
theorem kc_X5_follow : Kw (.code yX5_follow cX5_follow 5 none) := ⟨List.mem_append_right _ (List.mem_of_getElem? (i := 410) (by decide +kernel)), by decide +kernel⟩
theorem ki_X5_follow : Kw (.instanceMethod yX5_follow) := ⟨List.mem_append_right _ (List.mem_of_getElem? (i := 408) (by decide +kernel)), by decide +kernel⟩
theorem kz_X5_follow : Kw (.selects yX5_follow.cls yX5_follow yX5_follow) := ⟨List.mem_append_right _ (List.mem_of_getElem? (i := 409) (by decide +kernel)), by decide +kernel⟩
theorem kb_X5_follow : VB yX5_follow cX5_follow 5 none 1 := ⟨⟨kI_RX5, kc_X5_follow, ⟨by decide +kernel, by decide +kernel⟩, by decide +kernel⟩, ki_X5_follow, kz_X5_follow⟩
theorem kM_RX2_66 : Kw (.methodLink RX2 66 yX5_follow) := ⟨List.mem_append_right _ (List.mem_of_getElem? (i := 496) (by decide +kernel)), by decide +kernel⟩
theorem kF_RX2_50 : Kw (.fieldLink RX2 50 "SteppedSamples$State" "firsts" "[I") := ⟨List.mem_append_right _ (List.mem_of_getElem? (i := 47) (by decide +kernel)), by decide +kernel⟩
theorem kF_RX2_53 : Kw (.fieldLink RX2 53 "SteppedSamples$State" "starts" "[I") := ⟨List.mem_append_right _ (List.mem_of_getElem? (i := 52) (by decide +kernel)), by decide +kernel⟩
theorem kc_X5_begin : Kw (.code yX5_begin cX5_begin 3 none) := ⟨List.mem_append_right _ (List.mem_of_getElem? (i := 396) (by decide +kernel)), by decide +kernel⟩
theorem ki_X5_begin : Kw (.instanceMethod yX5_begin) := ⟨List.mem_append_right _ (List.mem_of_getElem? (i := 394) (by decide +kernel)), by decide +kernel⟩
theorem kz_X5_begin : Kw (.selects yX5_begin.cls yX5_begin yX5_begin) := ⟨List.mem_append_right _ (List.mem_of_getElem? (i := 395) (by decide +kernel)), by decide +kernel⟩
theorem kb_X5_begin : VB yX5_begin cX5_begin 3 none 2 := ⟨⟨kI_RX5, kc_X5_begin, ⟨by decide +kernel, by decide +kernel⟩, by decide +kernel⟩, ki_X5_begin, kz_X5_begin⟩
theorem kM_RX2_56 : Kw (.methodLink RX2 56 yX5_begin) := ⟨List.mem_append_right _ (List.mem_of_getElem? (i := 495) (by decide +kernel)), by decide +kernel⟩
theorem kF_RX2_29 : Kw (.fieldLink RX2 29 "SteppedSamples$State" "blocks" "I") := ⟨List.mem_append_right _ (List.mem_of_getElem? (i := 43) (by decide +kernel)), by decide +kernel⟩
theorem kF_RX2_25 : Kw (.fieldLink RX2 25 "SteppedSamples$Decoder" "upToDate" "Z") := ⟨List.mem_append_right _ (List.mem_of_getElem? (i := 198) (by decide +kernel)), by decide +kernel⟩
theorem kF_RX2_35 : Kw (.fieldLink RX2 35 "SteppedSamples$State" "lost" "[Z") := ⟨List.mem_append_right _ (List.mem_of_getElem? (i := 57) (by decide +kernel)), by decide +kernel⟩
theorem kc_X2_decodeBlock : Kw (.code yX2_decodeBlock cX2_decodeBlock 5 none) := ⟨List.mem_append_right _ (List.mem_of_getElem? (i := 494) (by decide +kernel)), by decide +kernel⟩
theorem ki_X2_decodeBlock : Kw (.instanceMethod yX2_decodeBlock) := ⟨List.mem_append_right _ (List.mem_of_getElem? (i := 493) (by decide +kernel)), by decide +kernel⟩
theorem kz_X2_decodeBlock : Kw (.selects yX2_decodeBlock.cls yX2_decodeBlock yX2_decodeBlock) := ⟨List.mem_append_left _ (List.mem_of_getElem? (i := 8) (by decide +kernel)), by decide +kernel⟩
theorem kb_X2_decodeBlock : VB yX2_decodeBlock cX2_decodeBlock 5 none 2 := ⟨⟨kI_RX2, kc_X2_decodeBlock, ⟨by decide +kernel, by decide +kernel⟩, by decide +kernel⟩, ki_X2_decodeBlock, kz_X2_decodeBlock⟩
theorem kM_RX2_43 : Kw (.methodLink RX2 43 yX2_decodeBlock) := ⟨List.mem_append_right _ (List.mem_of_getElem? (i := 491) (by decide +kernel)), by decide +kernel⟩
theorem kc_X2_fillBlock : Kw (.code yX2_fillBlock cX2_fillBlock 4 none) := ⟨List.mem_append_right _ (List.mem_of_getElem? (i := 484) (by decide +kernel)), by decide +kernel⟩
theorem ki_X2_fillBlock : Kw (.instanceMethod yX2_fillBlock) := ⟨List.mem_append_right _ (List.mem_of_getElem? (i := 483) (by decide +kernel)), by decide +kernel⟩
theorem kz_X2_fillBlock : Kw (.selects yX2_fillBlock.cls yX2_fillBlock yX2_fillBlock) := ⟨List.mem_append_left _ (List.mem_of_getElem? (i := 6) (by decide +kernel)), by decide +kernel⟩
theorem kb_X2_fillBlock : VB yX2_fillBlock cX2_fillBlock 4 none 2 := ⟨⟨kI_RX2, kc_X2_fillBlock, ⟨by decide +kernel, by decide +kernel⟩, by decide +kernel⟩, ki_X2_fillBlock, kz_X2_fillBlock⟩
theorem kM_RX2_39 : Kw (.methodLink RX2 39 yX2_fillBlock) := ⟨List.mem_append_right _ (List.mem_of_getElem? (i := 481) (by decide +kernel)), by decide +kernel⟩
theorem kF_RX2_83 : Kw (.fieldLink RX2 83 "SteppedSamples$State" "values" "[I") := ⟨List.mem_append_right _ (List.mem_of_getElem? (i := 37) (by decide +kernel)), by decide +kernel⟩
theorem kF_RX6_12 : Kw (.fieldLink RX6 12 "SteppedSamples" "now" "LSteppedSamples$State;") := ⟨List.mem_append_right _ (List.mem_of_getElem? (i := 211) (by decide +kernel)), by decide +kernel⟩
theorem kF_RX6_158 : Kw (.fieldLink RX6 158 "SteppedSamples$State" "blocks" "I") := ⟨List.mem_append_right _ (List.mem_of_getElem? (i := 45) (by decide +kernel)), by decide +kernel⟩
theorem kF_RX6_48 : Kw (.fieldLink RX6 48 "SteppedSamples" "decoder" "LSteppedSamples$Decoder;") := ⟨List.mem_append_right _ (List.mem_of_getElem? (i := 217) (by decide +kernel)), by decide +kernel⟩
theorem kM_RX6_260 : Kw (.methodLink RX6 260 yX4_startOf) := ⟨List.mem_append_right _ (List.mem_of_getElem? (i := 505) (by decide +kernel)), by decide +kernel⟩
theorem kM_RX6_257 : Kw (.methodLink RX6 257 yX4_endOf) := ⟨List.mem_append_right _ (List.mem_of_getElem? (i := 506) (by decide +kernel)), by decide +kernel⟩
theorem kc_X2_errorOf : Kw (.code yX2_errorOf cX2_errorOf 7 (some .int)) := ⟨List.mem_append_right _ (List.mem_of_getElem? (i := 500) (by decide +kernel)), by decide +kernel⟩
theorem ki_X2_errorOf : Kw (.instanceMethod yX2_errorOf) := ⟨List.mem_append_right _ (List.mem_of_getElem? (i := 498) (by decide +kernel)), by decide +kernel⟩
theorem kz_X2_errorOf : Kw (.selects yX2_errorOf.cls yX2_errorOf yX2_errorOf) := ⟨List.mem_append_right _ (List.mem_of_getElem? (i := 499) (by decide +kernel)), by decide +kernel⟩
theorem kb_X2_errorOf : VB yX2_errorOf cX2_errorOf 7 (some .int) 3 := ⟨⟨kI_RX2, kc_X2_errorOf, ⟨by decide +kernel, by decide +kernel⟩, by decide +kernel⟩, ki_X2_errorOf, kz_X2_errorOf⟩
theorem kM_RX6_269 : Kw (.methodLink RX6 269 yX2_errorOf) := ⟨List.mem_append_right _ (List.mem_of_getElem? (i := 497) (by decide +kernel)), by decide +kernel⟩
theorem kF_RX2_86 : Kw (.fieldLink RX2 86 "SteppedSamples$State" "many" "I") := ⟨List.mem_append_right _ (List.mem_of_getElem? (i := 33) (by decide +kernel)), by decide +kernel⟩
theorem kMs_abs : Kw (.static Lib.Math.abs.name) := ⟨List.mem_append_right _ (List.mem_of_getElem? (i := 355) (by decide +kernel)), by decide +kernel⟩
theorem kMc_abs : Kw (.code Lib.Math.abs.name Lib.Math.abs.code 1 (some .int)) := ⟨List.mem_append_right _ (List.mem_of_getElem? (i := 356) (by decide +kernel)), by decide +kernel⟩
theorem kM_RX2_89 : Kw (.methodLink RX2 89 Lib.Math.abs.name) := ⟨List.mem_append_right _ (List.mem_of_getElem? (i := 511) (by decide +kernel)), by decide +kernel⟩
theorem kM_RX2_94 : Kw (.methodLink RX2 94 Lib.Math.max.name) := ⟨List.mem_append_right _ (List.mem_of_getElem? (i := 512) (by decide +kernel)), by decide +kernel⟩
theorem kc_X2_decode : Kw (.code yX2_decode cX2_decode 3 none) := ⟨List.mem_append_right _ (List.mem_of_getElem? (i := 480) (by decide +kernel)), by decide +kernel⟩
theorem ki_X2_decode : Kw (.instanceMethod yX2_decode) := ⟨List.mem_append_right _ (List.mem_of_getElem? (i := 478) (by decide +kernel)), by decide +kernel⟩
theorem kz_X2_decode : Kw (.selects yX2_decode.cls yX2_decode yX2_decode) := ⟨List.mem_append_right _ (List.mem_of_getElem? (i := 479) (by decide +kernel)), by decide +kernel⟩
theorem kb_X2_decode : VB yX2_decode cX2_decode 3 none 1 := ⟨⟨kI_RX2, kc_X2_decode, ⟨by decide +kernel, by decide +kernel⟩, by decide +kernel⟩, ki_X2_decode, kz_X2_decode⟩
theorem kM_RX6_124 : Kw (.methodLink RX6 124 yX2_decode) := ⟨List.mem_append_right _ (List.mem_of_getElem? (i := 477) (by decide +kernel)), by decide +kernel⟩
theorem kF_RX6_72 : Kw (.fieldLink RX6 72 "SteppedSamples$State" "many" "I") := ⟨List.mem_append_right _ (List.mem_of_getElem? (i := 32) (by decide +kernel)), by decide +kernel⟩
theorem kc_X6_errorByBlocks : Kw (.code yX6_errorByBlocks cX6_errorByBlocks 3 (some .int)) := ⟨List.mem_append_right _ (List.mem_of_getElem? (i := 504) (by decide +kernel)), by decide +kernel⟩
theorem ki_X6_errorByBlocks : Kw (.instanceMethod yX6_errorByBlocks) := ⟨List.mem_append_right _ (List.mem_of_getElem? (i := 503) (by decide +kernel)), by decide +kernel⟩
theorem kz_X6_errorByBlocks : Kw (.selects yX6_errorByBlocks.cls yX6_errorByBlocks yX6_errorByBlocks) := ⟨List.mem_append_left _ (List.mem_of_getElem? (i := 9) (by decide +kernel)), by decide +kernel⟩
theorem kb_X6_errorByBlocks : VB yX6_errorByBlocks cX6_errorByBlocks 3 (some .int) 0 := ⟨⟨kI_RX6, kc_X6_errorByBlocks, ⟨by decide +kernel, by decide +kernel⟩, by decide +kernel⟩, ki_X6_errorByBlocks, kz_X6_errorByBlocks⟩
theorem kM_RX6_391 : Kw (.methodLink RX6 391 yX6_errorByBlocks) := ⟨List.mem_append_right _ (List.mem_of_getElem? (i := 501) (by decide +kernel)), by decide +kernel⟩
theorem kc_X2_greatestDifference : Kw (.code yX2_greatestDifference cX2_greatestDifference 4 (some .int)) := ⟨List.mem_append_right _ (List.mem_of_getElem? (i := 510) (by decide +kernel)), by decide +kernel⟩
theorem ki_X2_greatestDifference : Kw (.instanceMethod yX2_greatestDifference) := ⟨List.mem_append_right _ (List.mem_of_getElem? (i := 508) (by decide +kernel)), by decide +kernel⟩
theorem kz_X2_greatestDifference : Kw (.selects yX2_greatestDifference.cls yX2_greatestDifference yX2_greatestDifference) := ⟨List.mem_append_right _ (List.mem_of_getElem? (i := 509) (by decide +kernel)), by decide +kernel⟩
theorem kb_X2_greatestDifference : VB yX2_greatestDifference cX2_greatestDifference 4 (some .int) 1 := ⟨⟨kI_RX2, kc_X2_greatestDifference, ⟨by decide +kernel, by decide +kernel⟩, by decide +kernel⟩, ki_X2_greatestDifference, kz_X2_greatestDifference⟩
theorem kM_RX6_394 : Kw (.methodLink RX6 394 yX2_greatestDifference) := ⟨List.mem_append_right _ (List.mem_of_getElem? (i := 507) (by decide +kernel)), by decide +kernel⟩
theorem kc_X2_justAsTheyAre : Kw (.code yX2_justAsTheyAre cX2_justAsTheyAre 4 (some .int)) := ⟨List.mem_append_right _ (List.mem_of_getElem? (i := 516) (by decide +kernel)), by decide +kernel⟩
theorem ki_X2_justAsTheyAre : Kw (.instanceMethod yX2_justAsTheyAre) := ⟨List.mem_append_right _ (List.mem_of_getElem? (i := 514) (by decide +kernel)), by decide +kernel⟩
theorem kz_X2_justAsTheyAre : Kw (.selects yX2_justAsTheyAre.cls yX2_justAsTheyAre yX2_justAsTheyAre) := ⟨List.mem_append_right _ (List.mem_of_getElem? (i := 515) (by decide +kernel)), by decide +kernel⟩
theorem kb_X2_justAsTheyAre : VB yX2_justAsTheyAre cX2_justAsTheyAre 4 (some .int) 1 := ⟨⟨kI_RX2, kc_X2_justAsTheyAre, ⟨by decide +kernel, by decide +kernel⟩, by decide +kernel⟩, ki_X2_justAsTheyAre, kz_X2_justAsTheyAre⟩
theorem kM_RX6_128 : Kw (.methodLink RX6 128 yX2_justAsTheyAre) := ⟨List.mem_append_right _ (List.mem_of_getElem? (i := 513) (by decide +kernel)), by decide +kernel⟩
theorem kL_RX6_62 : Kw (.classLink RX6 62 (exN 0)) := ⟨List.mem_append_right _ (List.mem_of_getElem? (i := 243) (by decide +kernel)), by decide +kernel⟩
theorem kI_E0 : Kw (.initialized (exN 0)) := ⟨List.mem_append_right _ (List.mem_of_getElem? (i := 11) (by decide +kernel)), by decide +kernel⟩
theorem kT_0_66 : ThB 0 66 := ⟨by decide +kernel, by decide +kernel, by decide +kernel, by decide +kernel, kI_E0⟩
theorem kc_X4_isCoded : Kw (.code yX4_isCoded cX4_isCoded 1 (some .boolean)) := ⟨List.mem_append_right _ (List.mem_of_getElem? (i := 468) (by decide +kernel)), by decide +kernel⟩
theorem ki_X4_isCoded : Kw (.instanceMethod yX4_isCoded) := ⟨List.mem_append_right _ (List.mem_of_getElem? (i := 466) (by decide +kernel)), by decide +kernel⟩
theorem kz_X4_isCoded : Kw (.selects yX4_isCoded.cls yX4_isCoded yX4_isCoded) := ⟨List.mem_append_right _ (List.mem_of_getElem? (i := 467) (by decide +kernel)), by decide +kernel⟩
theorem kb_X4_isCoded : VB yX4_isCoded cX4_isCoded 1 (some .boolean) 0 := ⟨⟨kI_RX4, kc_X4_isCoded, ⟨by decide +kernel, by decide +kernel⟩, by decide +kernel⟩, ki_X4_isCoded, kz_X4_isCoded⟩
theorem kM_RX6_115 : Kw (.methodLink RX6 115 yX4_isCoded) := ⟨List.mem_append_right _ (List.mem_of_getElem? (i := 465) (by decide +kernel)), by decide +kernel⟩
theorem kc_X4_lostBlocks : Kw (.code yX4_lostBlocks cX4_lostBlocks 3 (some .int)) := ⟨List.mem_append_right _ (List.mem_of_getElem? (i := 472) (by decide +kernel)), by decide +kernel⟩
theorem ki_X4_lostBlocks : Kw (.instanceMethod yX4_lostBlocks) := ⟨List.mem_append_right _ (List.mem_of_getElem? (i := 470) (by decide +kernel)), by decide +kernel⟩
theorem kz_X4_lostBlocks : Kw (.selects yX4_lostBlocks.cls yX4_lostBlocks yX4_lostBlocks) := ⟨List.mem_append_right _ (List.mem_of_getElem? (i := 471) (by decide +kernel)), by decide +kernel⟩
theorem kb_X4_lostBlocks : VB yX4_lostBlocks cX4_lostBlocks 3 (some .int) 0 := ⟨⟨kI_RX4, kc_X4_lostBlocks, ⟨by decide +kernel, by decide +kernel⟩, by decide +kernel⟩, ki_X4_lostBlocks, kz_X4_lostBlocks⟩
theorem kM_RX6_167 : Kw (.methodLink RX6 167 yX4_lostBlocks) := ⟨List.mem_append_right _ (List.mem_of_getElem? (i := 469) (by decide +kernel)), by decide +kernel⟩
theorem kF_RX6_278 : Kw (.fieldLink RX6 278 "SteppedSamples$State" "codings" "I") := ⟨List.mem_append_right _ (List.mem_of_getElem? (i := 70) (by decide +kernel)), by decide +kernel⟩
theorem kF_RX6_178 : Kw (.fieldLink RX6 178 "SteppedSamples$State" "turned" "I") := ⟨List.mem_append_right _ (List.mem_of_getElem? (i := 72) (by decide +kernel)), by decide +kernel⟩
theorem kF_RX6_19 : Kw (.fieldLink RX6 19 "SteppedSamples" "history" "LSteppedSamples$History;") := ⟨List.mem_append_right _ (List.mem_of_getElem? (i := 212) (by decide +kernel)), by decide +kernel⟩
theorem kF_RX6_235 : Kw (.fieldLink RX6 235 "SteppedSamples$History" "many" "I") := ⟨List.mem_append_right _ (List.mem_of_getElem? (i := 109) (by decide +kernel)), by decide +kernel⟩
theorem kc_X6_codedCount : Kw (.code yX6_codedCount cX6_codedCount 2 (some .int)) := ⟨List.mem_append_right _ (List.mem_of_getElem? (i := 476) (by decide +kernel)), by decide +kernel⟩
theorem ki_X6_codedCount : Kw (.instanceMethod yX6_codedCount) := ⟨List.mem_append_right _ (List.mem_of_getElem? (i := 475) (by decide +kernel)), by decide +kernel⟩
theorem kz_X6_codedCount : Kw (.selects yX6_codedCount.cls yX6_codedCount yX6_codedCount) := ⟨List.mem_append_left _ (List.mem_of_getElem? (i := 5) (by decide +kernel)), by decide +kernel⟩
theorem kb_X6_codedCount : VB yX6_codedCount cX6_codedCount 2 (some .int) 1 := ⟨⟨kI_RX6, kc_X6_codedCount, ⟨by decide +kernel, by decide +kernel⟩, by decide +kernel⟩, ki_X6_codedCount, kz_X6_codedCount⟩
theorem kM_RX6_281 : Kw (.methodLink RX6 281 yX6_codedCount) := ⟨List.mem_append_right _ (List.mem_of_getElem? (i := 473) (by decide +kernel)), by decide +kernel⟩
theorem kC_RL_8 : Kw (.constant RL 8 (2147483647)) := ⟨List.mem_append_right _ (List.mem_of_getElem? (i := 536) (by decide +kernel)), by decide +kernel⟩
theorem kF_RX3_12 : Kw (.fieldLink RX3 12 "SteppedSamples$History" "saved" "[LSteppedSamples$State;") := ⟨List.mem_append_right _ (List.mem_of_getElem? (i := 107) (by decide +kernel)), by decide +kernel⟩
theorem kF_RX3_18 : Kw (.fieldLink RX3 18 "SteppedSamples$History" "many" "I") := ⟨List.mem_append_right _ (List.mem_of_getElem? (i := 108) (by decide +kernel)), by decide +kernel⟩
theorem kF_RX4_41 : Kw (.fieldLink RX4 41 "SteppedSamples$State" "codings" "I") := ⟨List.mem_append_right _ (List.mem_of_getElem? (i := 68) (by decide +kernel)), by decide +kernel⟩
theorem kF_RX4_44 : Kw (.fieldLink RX4 44 "SteppedSamples$State" "turned" "I") := ⟨List.mem_append_right _ (List.mem_of_getElem? (i := 71) (by decide +kernel)), by decide +kernel⟩
theorem kF_RX4_15 : Kw (.fieldLink RX4 15 "SteppedSamples$State" "values" "[I") := ⟨List.mem_append_right _ (List.mem_of_getElem? (i := 34) (by decide +kernel)), by decide +kernel⟩
theorem kc_X6_copyRow : Kw (.code yX6_copyRow cX6_copyRow 2 none) := ⟨List.mem_append_right _ (List.mem_of_getElem? (i := 329) (by decide +kernel)), by decide +kernel⟩
theorem ks_X6_copyRow : Kw (.static yX6_copyRow) := ⟨List.mem_append_right _ (List.mem_of_getElem? (i := 328) (by decide +kernel)), by decide +kernel⟩
theorem kb_X6_copyRow : SB yX6_copyRow cX6_copyRow 2 none 2 := ⟨⟨kI_RX6, kc_X6_copyRow, ⟨by decide +kernel, by decide +kernel⟩, by decide +kernel⟩, ks_X6_copyRow⟩
theorem kF_RX4_22 : Kw (.fieldLink RX4 22 "SteppedSamples$State" "firsts" "[I") := ⟨List.mem_append_right _ (List.mem_of_getElem? (i := 46) (by decide +kernel)), by decide +kernel⟩
theorem kF_RX4_25 : Kw (.fieldLink RX4 25 "SteppedSamples$State" "starts" "[I") := ⟨List.mem_append_right _ (List.mem_of_getElem? (i := 51) (by decide +kernel)), by decide +kernel⟩
theorem kF_RX4_32 : Kw (.fieldLink RX4 32 "SteppedSamples$State" "codes" "[I") := ⟨List.mem_append_right _ (List.mem_of_getElem? (i := 60) (by decide +kernel)), by decide +kernel⟩
theorem kF_RX4_35 : Kw (.fieldLink RX4 35 "SteppedSamples$State" "guesses" "[I") := ⟨List.mem_append_right _ (List.mem_of_getElem? (i := 65) (by decide +kernel)), by decide +kernel⟩
theorem kc_X4_copyFrom : Kw (.code yX4_copyFrom cX4_copyFrom 3 none) := ⟨List.mem_append_right _ (List.mem_of_getElem? (i := 326) (by decide +kernel)), by decide +kernel⟩
theorem ki_X4_copyFrom : Kw (.instanceMethod yX4_copyFrom) := ⟨List.mem_append_right _ (List.mem_of_getElem? (i := 324) (by decide +kernel)), by decide +kernel⟩
theorem kz_X4_copyFrom : Kw (.selects yX4_copyFrom.cls yX4_copyFrom yX4_copyFrom) := ⟨List.mem_append_right _ (List.mem_of_getElem? (i := 325) (by decide +kernel)), by decide +kernel⟩
theorem kb_X4_copyFrom : VB yX4_copyFrom cX4_copyFrom 3 none 1 := ⟨⟨kI_RX4, kc_X4_copyFrom, ⟨by decide +kernel, by decide +kernel⟩, by decide +kernel⟩, ki_X4_copyFrom, kz_X4_copyFrom⟩
theorem kM_RX3_25 : Kw (.methodLink RX3 25 yX4_copyFrom) := ⟨List.mem_append_right _ (List.mem_of_getElem? (i := 323) (by decide +kernel)), by decide +kernel⟩
theorem kI_RX3 : Kw (.initialized RX3) := ⟨List.mem_append_right _ (List.mem_of_getElem? (i := 3) (by decide +kernel)), by decide +kernel⟩
theorem kc_X3_dropOldest : Kw (.code yX3_dropOldest cX3_dropOldest 3 none) := ⟨List.mem_append_right _ (List.mem_of_getElem? (i := 322) (by decide +kernel)), by decide +kernel⟩
theorem ki_X3_dropOldest : Kw (.instanceMethod yX3_dropOldest) := ⟨List.mem_append_right _ (List.mem_of_getElem? (i := 321) (by decide +kernel)), by decide +kernel⟩
theorem kz_X3_dropOldest : Kw (.selects yX3_dropOldest.cls yX3_dropOldest yX3_dropOldest) := ⟨List.mem_append_left _ (List.mem_of_getElem? (i := 2) (by decide +kernel)), by decide +kernel⟩
theorem kb_X3_dropOldest : VB yX3_dropOldest cX3_dropOldest 3 none 0 := ⟨⟨kI_RX3, kc_X3_dropOldest, ⟨by decide +kernel, by decide +kernel⟩, by decide +kernel⟩, ki_X3_dropOldest, kz_X3_dropOldest⟩
theorem kM_RX3_22 : Kw (.methodLink RX3 22 yX3_dropOldest) := ⟨List.mem_append_right _ (List.mem_of_getElem? (i := 319) (by decide +kernel)), by decide +kernel⟩
theorem kc_X3_save : Kw (.code yX3_save cX3_save 2 none) := ⟨List.mem_append_right _ (List.mem_of_getElem? (i := 318) (by decide +kernel)), by decide +kernel⟩
theorem ki_X3_save : Kw (.instanceMethod yX3_save) := ⟨List.mem_append_right _ (List.mem_of_getElem? (i := 316) (by decide +kernel)), by decide +kernel⟩
theorem kz_X3_save : Kw (.selects yX3_save.cls yX3_save yX3_save) := ⟨List.mem_append_right _ (List.mem_of_getElem? (i := 317) (by decide +kernel)), by decide +kernel⟩
theorem kb_X3_save : VB yX3_save cX3_save 2 none 1 := ⟨⟨kI_RX3, kc_X3_save, ⟨by decide +kernel, by decide +kernel⟩, by decide +kernel⟩, ki_X3_save, kz_X3_save⟩
theorem kM_RX6_354 : Kw (.methodLink RX6 354 yX3_save) := ⟨List.mem_append_right _ (List.mem_of_getElem? (i := 315) (by decide +kernel)), by decide +kernel⟩
theorem kF_RX6_215 : Kw (.fieldLink RX6 215 "SteppedSamples$Decoder" "upToDate" "Z") := ⟨List.mem_append_right _ (List.mem_of_getElem? (i := 199) (by decide +kernel)), by decide +kernel⟩
theorem kc_X4_forgetBlocks : Kw (.code yX4_forgetBlocks cX4_forgetBlocks 1 none) := ⟨List.mem_append_right _ (List.mem_of_getElem? (i := 343) (by decide +kernel)), by decide +kernel⟩
theorem ki_X4_forgetBlocks : Kw (.instanceMethod yX4_forgetBlocks) := ⟨List.mem_append_right _ (List.mem_of_getElem? (i := 341) (by decide +kernel)), by decide +kernel⟩
theorem kz_X4_forgetBlocks : Kw (.selects yX4_forgetBlocks.cls yX4_forgetBlocks yX4_forgetBlocks) := ⟨List.mem_append_right _ (List.mem_of_getElem? (i := 342) (by decide +kernel)), by decide +kernel⟩
theorem kb_X4_forgetBlocks : VB yX4_forgetBlocks cX4_forgetBlocks 1 none 0 := ⟨⟨kI_RX4, kc_X4_forgetBlocks, ⟨by decide +kernel, by decide +kernel⟩, by decide +kernel⟩, ki_X4_forgetBlocks, kz_X4_forgetBlocks⟩
theorem kM_RX4_51 : Kw (.methodLink RX4 51 yX4_forgetBlocks) := ⟨List.mem_append_right _ (List.mem_of_getElem? (i := 340) (by decide +kernel)), by decide +kernel⟩
theorem kc_X6_beginChange : Kw (.code yX6_beginChange cX6_beginChange 1 none) := ⟨List.mem_append_right _ (List.mem_of_getElem? (i := 314) (by decide +kernel)), by decide +kernel⟩
theorem ki_X6_beginChange : Kw (.instanceMethod yX6_beginChange) := ⟨List.mem_append_right _ (List.mem_of_getElem? (i := 313) (by decide +kernel)), by decide +kernel⟩
theorem kz_X6_beginChange : Kw (.selects yX6_beginChange.cls yX6_beginChange yX6_beginChange) := ⟨List.mem_append_left _ (List.mem_of_getElem? (i := 1) (by decide +kernel)), by decide +kernel⟩
theorem kb_X6_beginChange : VB yX6_beginChange cX6_beginChange 1 none 0 := ⟨⟨kI_RX6, kc_X6_beginChange, ⟨by decide +kernel, by decide +kernel⟩, by decide +kernel⟩, ki_X6_beginChange, kz_X6_beginChange⟩
theorem kM_RX6_69 : Kw (.methodLink RX6 69 yX6_beginChange) := ⟨List.mem_append_right _ (List.mem_of_getElem? (i := 311) (by decide +kernel)), by decide +kernel⟩
theorem kc_X4_becomeSilence : Kw (.code yX4_becomeSilence cX4_becomeSilence 3 none) := ⟨List.mem_append_right _ (List.mem_of_getElem? (i := 339) (by decide +kernel)), by decide +kernel⟩
theorem ki_X4_becomeSilence : Kw (.instanceMethod yX4_becomeSilence) := ⟨List.mem_append_right _ (List.mem_of_getElem? (i := 337) (by decide +kernel)), by decide +kernel⟩
theorem kz_X4_becomeSilence : Kw (.selects yX4_becomeSilence.cls yX4_becomeSilence yX4_becomeSilence) := ⟨List.mem_append_right _ (List.mem_of_getElem? (i := 338) (by decide +kernel)), by decide +kernel⟩
theorem kb_X4_becomeSilence : VB yX4_becomeSilence cX4_becomeSilence 3 none 1 := ⟨⟨kI_RX4, kc_X4_becomeSilence, ⟨by decide +kernel, by decide +kernel⟩, by decide +kernel⟩, ki_X4_becomeSilence, kz_X4_becomeSilence⟩
theorem kM_RX6_76 : Kw (.methodLink RX6 76 yX4_becomeSilence) := ⟨List.mem_append_right _ (List.mem_of_getElem? (i := 336) (by decide +kernel)), by decide +kernel⟩
theorem kc_X4_hasSample : Kw (.code yX4_hasSample cX4_hasSample 2 (some .boolean)) := ⟨List.mem_append_right _ (List.mem_of_getElem? (i := 544) (by decide +kernel)), by decide +kernel⟩
theorem ki_X4_hasSample : Kw (.instanceMethod yX4_hasSample) := ⟨List.mem_append_right _ (List.mem_of_getElem? (i := 542) (by decide +kernel)), by decide +kernel⟩
theorem kz_X4_hasSample : Kw (.selects yX4_hasSample.cls yX4_hasSample yX4_hasSample) := ⟨List.mem_append_right _ (List.mem_of_getElem? (i := 543) (by decide +kernel)), by decide +kernel⟩
theorem kb_X4_hasSample : VB yX4_hasSample cX4_hasSample 2 (some .boolean) 1 := ⟨⟨kI_RX4, kc_X4_hasSample, ⟨by decide +kernel, by decide +kernel⟩, by decide +kernel⟩, ki_X4_hasSample, kz_X4_hasSample⟩
theorem kM_RX6_80 : Kw (.methodLink RX6 80 yX4_hasSample) := ⟨List.mem_append_right _ (List.mem_of_getElem? (i := 541) (by decide +kernel)), by decide +kernel⟩
theorem kF_RX6_132 : Kw (.fieldLink RX6 132 "SteppedSamples$Decoder" "made" "[I") := ⟨List.mem_append_right _ (List.mem_of_getElem? (i := 194) (by decide +kernel)), by decide +kernel⟩
theorem kF_RX6_251 : Kw (.fieldLink RX6 251 "SteppedSamples$State" "guesses" "[I") := ⟨List.mem_append_right _ (List.mem_of_getElem? (i := 67) (by decide +kernel)), by decide +kernel⟩
theorem kF_RX6_181 : Kw (.fieldLink RX6 181 "SteppedSamples$State" "codes" "[I") := ⟨List.mem_append_right _ (List.mem_of_getElem? (i := 64) (by decide +kernel)), by decide +kernel⟩
theorem kF_RX6_254 : Kw (.fieldLink RX6 254 "SteppedSamples$Decoder" "numbers" "[I") := ⟨List.mem_append_right _ (List.mem_of_getElem? (i := 196) (by decide +kernel)), by decide +kernel⟩
theorem kF_RX6_94 : Kw (.fieldLink RX6 94 "SteppedSamples$State" "values" "[I") := ⟨List.mem_append_right _ (List.mem_of_getElem? (i := 36) (by decide +kernel)), by decide +kernel⟩
theorem kL_RX6_84 : Kw (.classLink RX6 84 (exN 1)) := ⟨List.mem_append_right _ (List.mem_of_getElem? (i := 545) (by decide +kernel)), by decide +kernel⟩
theorem kI_E1 : Kw (.initialized (exN 1)) := ⟨List.mem_append_right _ (List.mem_of_getElem? (i := 13) (by decide +kernel)), by decide +kernel⟩
theorem kT_1_88 : ThB 1 88 := ⟨by decide +kernel, by decide +kernel, by decide +kernel, by decide +kernel, kI_E1⟩
theorem kc_X6_isValue : Kw (.code yX6_isValue cX6_isValue 1 (some .boolean)) := ⟨List.mem_append_right _ (List.mem_of_getElem? (i := 365) (by decide +kernel)), by decide +kernel⟩
theorem ks_X6_isValue : Kw (.static yX6_isValue) := ⟨List.mem_append_right _ (List.mem_of_getElem? (i := 364) (by decide +kernel)), by decide +kernel⟩
theorem kb_X6_isValue : SB yX6_isValue cX6_isValue 1 (some .boolean) 1 := ⟨⟨kI_RX6, kc_X6_isValue, ⟨by decide +kernel, by decide +kernel⟩, by decide +kernel⟩, ks_X6_isValue⟩
theorem kM_RX6_89 : Kw (.methodLink RX6 89 yX6_isValue) := ⟨List.mem_append_right _ (List.mem_of_getElem? (i := 363) (by decide +kernel)), by decide +kernel⟩
theorem kM_RX6_98 : Kw (.methodLink RX6 98 yX4_forgetBlocks) := ⟨List.mem_append_right _ (List.mem_of_getElem? (i := 366) (by decide +kernel)), by decide +kernel⟩
theorem kM_RX6_382 : Kw (.methodLink RX6 382 Lib.Math.abs.name) := ⟨List.mem_append_right _ (List.mem_of_getElem? (i := 354) (by decide +kernel)), by decide +kernel⟩
theorem kc_X6_shape : Kw (.code yX6_shape cX6_shape 4 (some .int)) := ⟨List.mem_append_right _ (List.mem_of_getElem? (i := 353) (by decide +kernel)), by decide +kernel⟩
theorem ks_X6_shape : Kw (.static yX6_shape) := ⟨List.mem_append_right _ (List.mem_of_getElem? (i := 352) (by decide +kernel)), by decide +kernel⟩
theorem kb_X6_shape : SB yX6_shape cX6_shape 4 (some .int) 4 := ⟨⟨kI_RX6, kc_X6_shape, ⟨by decide +kernel, by decide +kernel⟩, by decide +kernel⟩, ks_X6_shape⟩
theorem kM_RX6_107 : Kw (.methodLink RX6 107 yX6_shape) := ⟨List.mem_append_right _ (List.mem_of_getElem? (i := 351) (by decide +kernel)), by decide +kernel⟩
theorem kM_RX6_111 : Kw (.methodLink RX6 111 yX6_clip) := ⟨List.mem_append_right _ (List.mem_of_getElem? (i := 357) (by decide +kernel)), by decide +kernel⟩
theorem kc_X6_isSetting : Kw (.code yX6_isSetting cX6_isSetting 1 (some .boolean)) := ⟨List.mem_append_right _ (List.mem_of_getElem? (i := 573) (by decide +kernel)), by decide +kernel⟩
theorem ks_X6_isSetting : Kw (.static yX6_isSetting) := ⟨List.mem_append_right _ (List.mem_of_getElem? (i := 572) (by decide +kernel)), by decide +kernel⟩
theorem kb_X6_isSetting : SB yX6_isSetting cX6_isSetting 1 (some .boolean) 1 := ⟨⟨kI_RX6, kc_X6_isSetting, ⟨by decide +kernel, by decide +kernel⟩, by decide +kernel⟩, ks_X6_isSetting⟩
theorem kM_RX6_139 : Kw (.methodLink RX6 139 yX6_isSetting) := ⟨List.mem_append_right _ (List.mem_of_getElem? (i := 571) (by decide +kernel)), by decide +kernel⟩
theorem kF_RX6_152 : Kw (.fieldLink RX6 152 "SteppedSamples$State" "settings" "[I") := ⟨List.mem_append_right _ (List.mem_of_getElem? (i := 41) (by decide +kernel)), by decide +kernel⟩
theorem kc_X6_leastOfSetting : Kw (.code yX6_leastOfSetting cX6_leastOfSetting 1 (some .int)) := ⟨List.mem_append_right _ (List.mem_of_getElem? (i := 581) (by decide +kernel)), by decide +kernel⟩
theorem ks_X6_leastOfSetting : Kw (.static yX6_leastOfSetting) := ⟨List.mem_append_right _ (List.mem_of_getElem? (i := 580) (by decide +kernel)), by decide +kernel⟩
theorem kb_X6_leastOfSetting : SB yX6_leastOfSetting cX6_leastOfSetting 1 (some .int) 1 := ⟨⟨kI_RX6, kc_X6_leastOfSetting, ⟨by decide +kernel, by decide +kernel⟩, by decide +kernel⟩, ks_X6_leastOfSetting⟩
theorem kM_RX6_144 : Kw (.methodLink RX6 144 yX6_leastOfSetting) := ⟨List.mem_append_right _ (List.mem_of_getElem? (i := 579) (by decide +kernel)), by decide +kernel⟩
theorem kc_X6_mostOfSetting : Kw (.code yX6_mostOfSetting cX6_mostOfSetting 1 (some .int)) := ⟨List.mem_append_right _ (List.mem_of_getElem? (i := 584) (by decide +kernel)), by decide +kernel⟩
theorem ks_X6_mostOfSetting : Kw (.static yX6_mostOfSetting) := ⟨List.mem_append_right _ (List.mem_of_getElem? (i := 583) (by decide +kernel)), by decide +kernel⟩
theorem kb_X6_mostOfSetting : SB yX6_mostOfSetting cX6_mostOfSetting 1 (some .int) 1 := ⟨⟨kI_RX6, kc_X6_mostOfSetting, ⟨by decide +kernel, by decide +kernel⟩, by decide +kernel⟩, ks_X6_mostOfSetting⟩
theorem kM_RX6_147 : Kw (.methodLink RX6 147 yX6_mostOfSetting) := ⟨List.mem_append_right _ (List.mem_of_getElem? (i := 582) (by decide +kernel)), by decide +kernel⟩
theorem kc_X4_hasBlock : Kw (.code yX4_hasBlock cX4_hasBlock 2 (some .boolean)) := ⟨List.mem_append_right _ (List.mem_of_getElem? (i := 597) (by decide +kernel)), by decide +kernel⟩
theorem ki_X4_hasBlock : Kw (.instanceMethod yX4_hasBlock) := ⟨List.mem_append_right _ (List.mem_of_getElem? (i := 595) (by decide +kernel)), by decide +kernel⟩
theorem kz_X4_hasBlock : Kw (.selects yX4_hasBlock.cls yX4_hasBlock yX4_hasBlock) := ⟨List.mem_append_right _ (List.mem_of_getElem? (i := 596) (by decide +kernel)), by decide +kernel⟩
theorem kb_X4_hasBlock : VB yX4_hasBlock cX4_hasBlock 2 (some .boolean) 1 := ⟨⟨kI_RX4, kc_X4_hasBlock, ⟨by decide +kernel, by decide +kernel⟩, by decide +kernel⟩, ki_X4_hasBlock, kz_X4_hasBlock⟩
theorem kM_RX6_357 : Kw (.methodLink RX6 357 yX4_hasBlock) := ⟨List.mem_append_right _ (List.mem_of_getElem? (i := 594) (by decide +kernel)), by decide +kernel⟩
theorem kc_X6_refuseUnlessBlock : Kw (.code yX6_refuseUnlessBlock cX6_refuseUnlessBlock 2 none) := ⟨List.mem_append_right _ (List.mem_of_getElem? (i := 593) (by decide +kernel)), by decide +kernel⟩
theorem ki_X6_refuseUnlessBlock : Kw (.instanceMethod yX6_refuseUnlessBlock) := ⟨List.mem_append_right _ (List.mem_of_getElem? (i := 592) (by decide +kernel)), by decide +kernel⟩
theorem kz_X6_refuseUnlessBlock : Kw (.selects yX6_refuseUnlessBlock.cls yX6_refuseUnlessBlock yX6_refuseUnlessBlock) := ⟨List.mem_append_left _ (List.mem_of_getElem? (i := 11) (by decide +kernel)), by decide +kernel⟩
theorem kb_X6_refuseUnlessBlock : VB yX6_refuseUnlessBlock cX6_refuseUnlessBlock 2 none 1 := ⟨⟨kI_RX6, kc_X6_refuseUnlessBlock, ⟨by decide +kernel, by decide +kernel⟩, by decide +kernel⟩, ki_X6_refuseUnlessBlock, kz_X6_refuseUnlessBlock⟩
theorem kM_RX6_161 : Kw (.methodLink RX6 161 yX6_refuseUnlessBlock) := ⟨List.mem_append_right _ (List.mem_of_getElem? (i := 590) (by decide +kernel)), by decide +kernel⟩
theorem kF_RX6_164 : Kw (.fieldLink RX6 164 "SteppedSamples$State" "lost" "[Z") := ⟨List.mem_append_right _ (List.mem_of_getElem? (i := 59) (by decide +kernel)), by decide +kernel⟩
theorem kM_RX4_54 : Kw (.methodLink RX4 54 yX4_isCoded) := ⟨List.mem_append_right _ (List.mem_of_getElem? (i := 614) (by decide +kernel)), by decide +kernel⟩
theorem kM_RX4_58 : Kw (.methodLink RX4 58 yX4_hasSample) := ⟨List.mem_append_right _ (List.mem_of_getElem? (i := 615) (by decide +kernel)), by decide +kernel⟩
theorem kc_X4_hasCode : Kw (.code yX4_hasCode cX4_hasCode 2 (some .boolean)) := ⟨List.mem_append_right _ (List.mem_of_getElem? (i := 613) (by decide +kernel)), by decide +kernel⟩
theorem ki_X4_hasCode : Kw (.instanceMethod yX4_hasCode) := ⟨List.mem_append_right _ (List.mem_of_getElem? (i := 611) (by decide +kernel)), by decide +kernel⟩
theorem kz_X4_hasCode : Kw (.selects yX4_hasCode.cls yX4_hasCode yX4_hasCode) := ⟨List.mem_append_right _ (List.mem_of_getElem? (i := 612) (by decide +kernel)), by decide +kernel⟩
theorem kb_X4_hasCode : VB yX4_hasCode cX4_hasCode 2 (some .boolean) 1 := ⟨⟨kI_RX4, kc_X4_hasCode, ⟨by decide +kernel, by decide +kernel⟩, by decide +kernel⟩, ki_X4_hasCode, kz_X4_hasCode⟩
theorem kM_RX6_362 : Kw (.methodLink RX6 362 yX4_hasCode) := ⟨List.mem_append_right _ (List.mem_of_getElem? (i := 610) (by decide +kernel)), by decide +kernel⟩
theorem kc_X6_refuseUnlessCodeBit : Kw (.code yX6_refuseUnlessCodeBit cX6_refuseUnlessCodeBit 3 none) := ⟨List.mem_append_right _ (List.mem_of_getElem? (i := 609) (by decide +kernel)), by decide +kernel⟩
theorem ki_X6_refuseUnlessCodeBit : Kw (.instanceMethod yX6_refuseUnlessCodeBit) := ⟨List.mem_append_right _ (List.mem_of_getElem? (i := 608) (by decide +kernel)), by decide +kernel⟩
theorem kz_X6_refuseUnlessCodeBit : Kw (.selects yX6_refuseUnlessCodeBit.cls yX6_refuseUnlessCodeBit yX6_refuseUnlessCodeBit) := ⟨List.mem_append_left _ (List.mem_of_getElem? (i := 12) (by decide +kernel)), by decide +kernel⟩
theorem kb_X6_refuseUnlessCodeBit : VB yX6_refuseUnlessCodeBit cX6_refuseUnlessCodeBit 3 none 2 := ⟨⟨kI_RX6, kc_X6_refuseUnlessCodeBit, ⟨by decide +kernel, by decide +kernel⟩, by decide +kernel⟩, ki_X6_refuseUnlessCodeBit, kz_X6_refuseUnlessCodeBit⟩
theorem kM_RX6_171 : Kw (.methodLink RX6 171 yX6_refuseUnlessCodeBit) := ⟨List.mem_append_right _ (List.mem_of_getElem? (i := 606) (by decide +kernel)), by decide +kernel⟩
theorem kc_X4_turnOver : Kw (.code yX4_turnOver cX4_turnOver 3 none) := ⟨List.mem_append_right _ (List.mem_of_getElem? (i := 621) (by decide +kernel)), by decide +kernel⟩
theorem ki_X4_turnOver : Kw (.instanceMethod yX4_turnOver) := ⟨List.mem_append_right _ (List.mem_of_getElem? (i := 619) (by decide +kernel)), by decide +kernel⟩
theorem kz_X4_turnOver : Kw (.selects yX4_turnOver.cls yX4_turnOver yX4_turnOver) := ⟨List.mem_append_right _ (List.mem_of_getElem? (i := 620) (by decide +kernel)), by decide +kernel⟩
theorem kb_X4_turnOver : VB yX4_turnOver cX4_turnOver 3 none 2 := ⟨⟨kI_RX4, kc_X4_turnOver, ⟨by decide +kernel, by decide +kernel⟩, by decide +kernel⟩, ki_X4_turnOver, kz_X4_turnOver⟩
theorem kM_RX6_175 : Kw (.methodLink RX6 175 yX4_turnOver) := ⟨List.mem_append_right _ (List.mem_of_getElem? (i := 618) (by decide +kernel)), by decide +kernel⟩
theorem kF_RX6_52 : Kw (.fieldLink RX6 52 "SteppedSamples" "decoderAfter" "LSteppedSamples$Decoder;") := ⟨List.mem_append_right _ (List.mem_of_getElem? (i := 218) (by decide +kernel)), by decide +kernel⟩
theorem kc_X2_othersThan : Kw (.code yX2_othersThan cX2_othersThan 5 (some .int)) := ⟨List.mem_append_right _ (List.mem_of_getElem? (i := 625) (by decide +kernel)), by decide +kernel⟩
theorem ki_X2_othersThan : Kw (.instanceMethod yX2_othersThan) := ⟨List.mem_append_right _ (List.mem_of_getElem? (i := 623) (by decide +kernel)), by decide +kernel⟩
theorem kz_X2_othersThan : Kw (.selects yX2_othersThan.cls yX2_othersThan yX2_othersThan) := ⟨List.mem_append_right _ (List.mem_of_getElem? (i := 624) (by decide +kernel)), by decide +kernel⟩
theorem kb_X2_othersThan : VB yX2_othersThan cX2_othersThan 5 (some .int) 2 := ⟨⟨kI_RX2, kc_X2_othersThan, ⟨by decide +kernel, by decide +kernel⟩, by decide +kernel⟩, ki_X2_othersThan, kz_X2_othersThan⟩
theorem kM_RX6_219 : Kw (.methodLink RX6 219 yX2_othersThan) := ⟨List.mem_append_right _ (List.mem_of_getElem? (i := 622) (by decide +kernel)), by decide +kernel⟩
theorem kc_X6_spoil : Kw (.code yX6_spoil cX6_spoil 3 (some .int)) := ⟨List.mem_append_right _ (List.mem_of_getElem? (i := 629) (by decide +kernel)), by decide +kernel⟩
theorem ki_X6_spoil : Kw (.instanceMethod yX6_spoil) := ⟨List.mem_append_right _ (List.mem_of_getElem? (i := 627) (by decide +kernel)), by decide +kernel⟩
theorem kz_X6_spoil : Kw (.selects yX6_spoil.cls yX6_spoil yX6_spoil) := ⟨List.mem_append_right _ (List.mem_of_getElem? (i := 628) (by decide +kernel)), by decide +kernel⟩
theorem kb_X6_spoil : VB yX6_spoil cX6_spoil 3 (some .int) 2 := ⟨⟨kI_RX6, kc_X6_spoil, ⟨by decide +kernel, by decide +kernel⟩, by decide +kernel⟩, ki_X6_spoil, kz_X6_spoil⟩
theorem kM_RL_61 : Kw (.methodLink RL 61 yX6_spoil) := ⟨List.mem_append_right _ (List.mem_of_getElem? (i := 626) (by decide +kernel)), by decide +kernel⟩
theorem kc_X6_sampleOf : Kw (.code yX6_sampleOf cX6_sampleOf 3 (some .int)) := ⟨List.mem_append_right _ (List.mem_of_getElem? (i := 540) (by decide +kernel)), by decide +kernel⟩
theorem ki_X6_sampleOf : Kw (.instanceMethod yX6_sampleOf) := ⟨List.mem_append_right _ (List.mem_of_getElem? (i := 538) (by decide +kernel)), by decide +kernel⟩
theorem kz_X6_sampleOf : Kw (.selects yX6_sampleOf.cls yX6_sampleOf yX6_sampleOf) := ⟨List.mem_append_right _ (List.mem_of_getElem? (i := 539) (by decide +kernel)), by decide +kernel⟩
theorem kb_X6_sampleOf : VB yX6_sampleOf cX6_sampleOf 3 (some .int) 2 := ⟨⟨kI_RX6, kc_X6_sampleOf, ⟨by decide +kernel, by decide +kernel⟩, by decide +kernel⟩, ki_X6_sampleOf, kz_X6_sampleOf⟩
theorem kM_RL_24 : Kw (.methodLink RL 24 yX6_sampleOf) := ⟨List.mem_append_right _ (List.mem_of_getElem? (i := 537) (by decide +kernel)), by decide +kernel⟩
theorem kc_X6_ifSpoiled : Kw (.code yX6_ifSpoiled cX6_ifSpoiled 3 (some .int)) := ⟨List.mem_append_right _ (List.mem_of_getElem? (i := 605) (by decide +kernel)), by decide +kernel⟩
theorem ki_X6_ifSpoiled : Kw (.instanceMethod yX6_ifSpoiled) := ⟨List.mem_append_right _ (List.mem_of_getElem? (i := 603) (by decide +kernel)), by decide +kernel⟩
theorem kz_X6_ifSpoiled : Kw (.selects yX6_ifSpoiled.cls yX6_ifSpoiled yX6_ifSpoiled) := ⟨List.mem_append_right _ (List.mem_of_getElem? (i := 604) (by decide +kernel)), by decide +kernel⟩
theorem kb_X6_ifSpoiled : VB yX6_ifSpoiled cX6_ifSpoiled 3 (some .int) 2 := ⟨⟨kI_RX6, kc_X6_ifSpoiled, ⟨by decide +kernel, by decide +kernel⟩, by decide +kernel⟩, ki_X6_ifSpoiled, kz_X6_ifSpoiled⟩
theorem kM_RL_58 : Kw (.methodLink RL 58 yX6_ifSpoiled) := ⟨List.mem_append_right _ (List.mem_of_getElem? (i := 602) (by decide +kernel)), by decide +kernel⟩
theorem kc_X6_count : Kw (.code yX6_count cX6_count 2 (some .int)) := ⟨List.mem_append_right _ (List.mem_of_getElem? (i := 463) (by decide +kernel)), by decide +kernel⟩
theorem ki_X6_count : Kw (.instanceMethod yX6_count) := ⟨List.mem_append_right _ (List.mem_of_getElem? (i := 461) (by decide +kernel)), by decide +kernel⟩
theorem kz_X6_count : Kw (.selects yX6_count.cls yX6_count yX6_count) := ⟨List.mem_append_right _ (List.mem_of_getElem? (i := 462) (by decide +kernel)), by decide +kernel⟩
theorem kb_X6_count : VB yX6_count cX6_count 2 (some .int) 1 := ⟨⟨kI_RX6, kc_X6_count, ⟨by decide +kernel, by decide +kernel⟩, by decide +kernel⟩, ki_X6_count, kz_X6_count⟩
theorem kM_RL_9 : Kw (.methodLink RL 9 yX6_count) := ⟨List.mem_append_right _ (List.mem_of_getElem? (i := 460) (by decide +kernel)), by decide +kernel⟩
theorem kAr_i : Kw (.arrayClass .int) := ⟨List.mem_append_right _ (List.mem_of_getElem? (i := 96) (by decide +kernel)), by decide +kernel⟩
theorem kF_RX6_58 : Kw (.fieldLink RX6 58 "SteppedSamples" "walk" "LSteppedSamples$Walk;") := ⟨List.mem_append_right _ (List.mem_of_getElem? (i := 219) (by decide +kernel)), by decide +kernel⟩
theorem kF_RX6_302 : Kw (.fieldLink RX6 302 "SteppedSamples$Walk" "number" "I") := ⟨List.mem_append_right _ (List.mem_of_getElem? (i := 175) (by decide +kernel)), by decide +kernel⟩
theorem kM_RX6_296 : Kw (.methodLink RX6 296 yX5_follow) := ⟨List.mem_append_right _ (List.mem_of_getElem? (i := 642) (by decide +kernel)), by decide +kernel⟩
theorem kF_RX6_263 : Kw (.fieldLink RX6 263 "SteppedSamples$State" "firsts" "[I") := ⟨List.mem_append_right _ (List.mem_of_getElem? (i := 50) (by decide +kernel)), by decide +kernel⟩
theorem kF_RX6_266 : Kw (.fieldLink RX6 266 "SteppedSamples$State" "starts" "[I") := ⟨List.mem_append_right _ (List.mem_of_getElem? (i := 55) (by decide +kernel)), by decide +kernel⟩
theorem kM_RX6_290 : Kw (.methodLink RX6 290 yX5_begin) := ⟨List.mem_append_right _ (List.mem_of_getElem? (i := 641) (by decide +kernel)), by decide +kernel⟩
theorem kc_X6_leadOf : Kw (.code yX6_leadOf cX6_leadOf 3 (some .int)) := ⟨List.mem_append_right _ (List.mem_of_getElem? (i := 640) (by decide +kernel)), by decide +kernel⟩
theorem ki_X6_leadOf : Kw (.instanceMethod yX6_leadOf) := ⟨List.mem_append_right _ (List.mem_of_getElem? (i := 639) (by decide +kernel)), by decide +kernel⟩
theorem kz_X6_leadOf : Kw (.selects yX6_leadOf.cls yX6_leadOf yX6_leadOf) := ⟨List.mem_append_left _ (List.mem_of_getElem? (i := 13) (by decide +kernel)), by decide +kernel⟩
theorem kb_X6_leadOf : VB yX6_leadOf cX6_leadOf 3 (some .int) 1 := ⟨⟨kI_RX6, kc_X6_leadOf, ⟨by decide +kernel, by decide +kernel⟩, by decide +kernel⟩, ki_X6_leadOf, kz_X6_leadOf⟩
theorem kM_RX6_273 : Kw (.methodLink RX6 273 yX6_leadOf) := ⟨List.mem_append_right _ (List.mem_of_getElem? (i := 637) (by decide +kernel)), by decide +kernel⟩
theorem kF_RX0_18 : Kw (.fieldLink RX0 18 "SteppedSamples$BlockText" "length" "I") := ⟨List.mem_append_right _ (List.mem_of_getElem? (i := 122) (by decide +kernel)), by decide +kernel⟩
theorem kI_RX0 : Kw (.initialized RX0) := ⟨List.mem_append_right _ (List.mem_of_getElem? (i := 4) (by decide +kernel)), by decide +kernel⟩
theorem kc_X0_isFull : Kw (.code yX0_isFull cX0_isFull 1 (some .boolean)) := ⟨List.mem_append_right _ (List.mem_of_getElem? (i := 662) (by decide +kernel)), by decide +kernel⟩
theorem ki_X0_isFull : Kw (.instanceMethod yX0_isFull) := ⟨List.mem_append_right _ (List.mem_of_getElem? (i := 660) (by decide +kernel)), by decide +kernel⟩
theorem kz_X0_isFull : Kw (.selects yX0_isFull.cls yX0_isFull yX0_isFull) := ⟨List.mem_append_right _ (List.mem_of_getElem? (i := 661) (by decide +kernel)), by decide +kernel⟩
theorem kb_X0_isFull : VB yX0_isFull cX0_isFull 1 (some .boolean) 0 := ⟨⟨kI_RX0, kc_X0_isFull, ⟨by decide +kernel, by decide +kernel⟩, by decide +kernel⟩, ki_X0_isFull, kz_X0_isFull⟩
theorem kM_RX0_22 : Kw (.methodLink RX0 22 yX0_isFull) := ⟨List.mem_append_right _ (List.mem_of_getElem? (i := 659) (by decide +kernel)), by decide +kernel⟩
theorem kF_RX0_9 : Kw (.fieldLink RX0 9 "SteppedSamples$BlockText" "signs" "[I") := ⟨List.mem_append_right _ (List.mem_of_getElem? (i := 121) (by decide +kernel)), by decide +kernel⟩
theorem kc_X0_put : Kw (.code yX0_put cX0_put 2 none) := ⟨List.mem_append_right _ (List.mem_of_getElem? (i := 658) (by decide +kernel)), by decide +kernel⟩
theorem ki_X0_put : Kw (.instanceMethod yX0_put) := ⟨List.mem_append_right _ (List.mem_of_getElem? (i := 656) (by decide +kernel)), by decide +kernel⟩
theorem kz_X0_put : Kw (.selects yX0_put.cls yX0_put yX0_put) := ⟨List.mem_append_right _ (List.mem_of_getElem? (i := 657) (by decide +kernel)), by decide +kernel⟩
theorem kb_X0_put : VB yX0_put cX0_put 2 none 1 := ⟨⟨kI_RX0, kc_X0_put, ⟨by decide +kernel, by decide +kernel⟩, by decide +kernel⟩, ki_X0_put, kz_X0_put⟩
theorem kM_RX0_35 : Kw (.methodLink RX0 35 yX0_put) := ⟨List.mem_append_right _ (List.mem_of_getElem? (i := 655) (by decide +kernel)), by decide +kernel⟩
theorem kM_RX0_49 : Kw (.methodLink RX0 49 Lib.Math.abs.name) := ⟨List.mem_append_right _ (List.mem_of_getElem? (i := 663) (by decide +kernel)), by decide +kernel⟩
theorem kM_RX0_45 : Kw (.methodLink RX0 45 yX4_endOf) := ⟨List.mem_append_right _ (List.mem_of_getElem? (i := 665) (by decide +kernel)), by decide +kernel⟩
theorem kF_RX0_48 : Kw (.fieldLink RX0 48 "SteppedSamples$State" "codes" "[I") := ⟨List.mem_append_right _ (List.mem_of_getElem? (i := 63) (by decide +kernel)), by decide +kernel⟩
theorem kF_RX0_26 : Kw (.fieldLink RX0 26 "SteppedSamples$State" "firsts" "[I") := ⟨List.mem_append_right _ (List.mem_of_getElem? (i := 49) (by decide +kernel)), by decide +kernel⟩
theorem kc_X0_putNumber : Kw (.code yX0_putNumber cX0_putNumber 4 none) := ⟨List.mem_append_right _ (List.mem_of_getElem? (i := 654) (by decide +kernel)), by decide +kernel⟩
theorem ki_X0_putNumber : Kw (.instanceMethod yX0_putNumber) := ⟨List.mem_append_right _ (List.mem_of_getElem? (i := 653) (by decide +kernel)), by decide +kernel⟩
theorem kz_X0_putNumber : Kw (.selects yX0_putNumber.cls yX0_putNumber yX0_putNumber) := ⟨List.mem_append_left _ (List.mem_of_getElem? (i := 14) (by decide +kernel)), by decide +kernel⟩
theorem kb_X0_putNumber : VB yX0_putNumber cX0_putNumber 4 none 1 := ⟨⟨kI_RX0, kc_X0_putNumber, ⟨by decide +kernel, by decide +kernel⟩, by decide +kernel⟩, ki_X0_putNumber, kz_X0_putNumber⟩
theorem kM_RX0_31 : Kw (.methodLink RX0 31 yX0_putNumber) := ⟨List.mem_append_right _ (List.mem_of_getElem? (i := 651) (by decide +kernel)), by decide +kernel⟩
theorem kF_RX0_38 : Kw (.fieldLink RX0 38 "SteppedSamples$State" "starts" "[I") := ⟨List.mem_append_right _ (List.mem_of_getElem? (i := 54) (by decide +kernel)), by decide +kernel⟩
theorem kM_RX0_41 : Kw (.methodLink RX0 41 yX4_startOf) := ⟨List.mem_append_right _ (List.mem_of_getElem? (i := 664) (by decide +kernel)), by decide +kernel⟩
theorem kF_RX6_34 : Kw (.fieldLink RX6 34 "SteppedSamples" "buffer" "LSteppedSamples$BlockText;") := ⟨List.mem_append_right _ (List.mem_of_getElem? (i := 215) (by decide +kernel)), by decide +kernel⟩
theorem kc_X0_tell : Kw (.code yX0_tell cX0_tell 5 none) := ⟨List.mem_append_right _ (List.mem_of_getElem? (i := 650) (by decide +kernel)), by decide +kernel⟩
theorem ki_X0_tell : Kw (.instanceMethod yX0_tell) := ⟨List.mem_append_right _ (List.mem_of_getElem? (i := 648) (by decide +kernel)), by decide +kernel⟩
theorem kz_X0_tell : Kw (.selects yX0_tell.cls yX0_tell yX0_tell) := ⟨List.mem_append_right _ (List.mem_of_getElem? (i := 649) (by decide +kernel)), by decide +kernel⟩
theorem kb_X0_tell : VB yX0_tell cX0_tell 5 none 2 := ⟨⟨kI_RX0, kc_X0_tell, ⟨by decide +kernel, by decide +kernel⟩, by decide +kernel⟩, ki_X0_tell, kz_X0_tell⟩
theorem kM_RX6_223 : Kw (.methodLink RX6 223 yX0_tell) := ⟨List.mem_append_right _ (List.mem_of_getElem? (i := 647) (by decide +kernel)), by decide +kernel⟩
theorem kF_RX6_194 : Kw (.fieldLink RX6 194 "SteppedSamples$BlockText" "length" "I") := ⟨List.mem_append_right _ (List.mem_of_getElem? (i := 123) (by decide +kernel)), by decide +kernel⟩
theorem kF_RX0_87 : Kw (.fieldLink RX0 87 "SteppedSamples$BlockText" "digits" "I") := ⟨List.mem_append_right _ (List.mem_of_getElem? (i := 135) (by decide +kernel)), by decide +kernel⟩
theorem kF_RX0_84 : Kw (.fieldLink RX0 84 "SteppedSamples$BlockText" "hasDigit" "Z") := ⟨List.mem_append_right _ (List.mem_of_getElem? (i := 134) (by decide +kernel)), by decide +kernel⟩
theorem kF_RX0_61 : Kw (.fieldLink RX0 61 "SteppedSamples$BlockText" "negative" "Z") := ⟨List.mem_append_right _ (List.mem_of_getElem? (i := 133) (by decide +kernel)), by decide +kernel⟩
theorem kc_X0_readsDigit : Kw (.code yX0_readsDigit cX0_readsDigit 5 (some .boolean)) := ⟨List.mem_append_right _ (List.mem_of_getElem? (i := 689) (by decide +kernel)), by decide +kernel⟩
theorem ki_X0_readsDigit : Kw (.instanceMethod yX0_readsDigit) := ⟨List.mem_append_right _ (List.mem_of_getElem? (i := 688) (by decide +kernel)), by decide +kernel⟩
theorem kz_X0_readsDigit : Kw (.selects yX0_readsDigit.cls yX0_readsDigit yX0_readsDigit) := ⟨List.mem_append_left _ (List.mem_of_getElem? (i := 18) (by decide +kernel)), by decide +kernel⟩
theorem kb_X0_readsDigit : VB yX0_readsDigit cX0_readsDigit 5 (some .boolean) 2 := ⟨⟨kI_RX0, kc_X0_readsDigit, ⟨by decide +kernel, by decide +kernel⟩, by decide +kernel⟩, ki_X0_readsDigit, kz_X0_readsDigit⟩
theorem kM_RX0_93 : Kw (.methodLink RX0 93 yX0_readsDigit) := ⟨List.mem_append_right _ (List.mem_of_getElem? (i := 686) (by decide +kernel)), by decide +kernel⟩
theorem kF_RX0_90 : Kw (.fieldLink RX0 90 "SteppedSamples$BlockText" "first" "I") := ⟨List.mem_append_right _ (List.mem_of_getElem? (i := 124) (by decide +kernel)), by decide +kernel⟩
theorem kF_RX0_58 : Kw (.fieldLink RX0 58 "SteppedSamples$BlockText" "part" "I") := ⟨List.mem_append_right _ (List.mem_of_getElem? (i := 132) (by decide +kernel)), by decide +kernel⟩
theorem kc_X0_beginDigits : Kw (.code yX0_beginDigits cX0_beginDigits 1 none) := ⟨List.mem_append_right _ (List.mem_of_getElem? (i := 677) (by decide +kernel)), by decide +kernel⟩
theorem ki_X0_beginDigits : Kw (.instanceMethod yX0_beginDigits) := ⟨List.mem_append_right _ (List.mem_of_getElem? (i := 676) (by decide +kernel)), by decide +kernel⟩
theorem kz_X0_beginDigits : Kw (.selects yX0_beginDigits.cls yX0_beginDigits yX0_beginDigits) := ⟨List.mem_append_left _ (List.mem_of_getElem? (i := 15) (by decide +kernel)), by decide +kernel⟩
theorem kb_X0_beginDigits : VB yX0_beginDigits cX0_beginDigits 1 none 0 := ⟨⟨kI_RX0, kc_X0_beginDigits, ⟨by decide +kernel, by decide +kernel⟩, by decide +kernel⟩, ki_X0_beginDigits, kz_X0_beginDigits⟩
theorem kM_RX0_68 : Kw (.methodLink RX0 68 yX0_beginDigits) := ⟨List.mem_append_right _ (List.mem_of_getElem? (i := 674) (by decide +kernel)), by decide +kernel⟩
theorem kF_RX0_97 : Kw (.fieldLink RX0 97 "SteppedSamples$BlockText" "number" "I") := ⟨List.mem_append_right _ (List.mem_of_getElem? (i := 126) (by decide +kernel)), by decide +kernel⟩
theorem kF_RX0_65 : Kw (.fieldLink RX0 65 "SteppedSamples$BlockText" "codeCount" "I") := ⟨List.mem_append_right _ (List.mem_of_getElem? (i := 130) (by decide +kernel)), by decide +kernel⟩
theorem kF_RX0_15 : Kw (.fieldLink RX0 15 "SteppedSamples$BlockText" "codes" "[I") := ⟨List.mem_append_right _ (List.mem_of_getElem? (i := 128) (by decide +kernel)), by decide +kernel⟩
theorem kc_X0_readsFirst : Kw (.code yX0_readsFirst cX0_readsFirst 3 (some .boolean)) := ⟨List.mem_append_right _ (List.mem_of_getElem? (i := 685) (by decide +kernel)), by decide +kernel⟩
theorem ki_X0_readsFirst : Kw (.instanceMethod yX0_readsFirst) := ⟨List.mem_append_right _ (List.mem_of_getElem? (i := 684) (by decide +kernel)), by decide +kernel⟩
theorem kz_X0_readsFirst : Kw (.selects yX0_readsFirst.cls yX0_readsFirst yX0_readsFirst) := ⟨List.mem_append_left _ (List.mem_of_getElem? (i := 17) (by decide +kernel)), by decide +kernel⟩
theorem kb_X0_readsFirst : VB yX0_readsFirst cX0_readsFirst 3 (some .boolean) 1 := ⟨⟨kI_RX0, kc_X0_readsFirst, ⟨by decide +kernel, by decide +kernel⟩, by decide +kernel⟩, ki_X0_readsFirst, kz_X0_readsFirst⟩
theorem kM_RX0_75 : Kw (.methodLink RX0 75 yX0_readsFirst) := ⟨List.mem_append_right _ (List.mem_of_getElem? (i := 682) (by decide +kernel)), by decide +kernel⟩
theorem kc_X0_readsNumber : Kw (.code yX0_readsNumber cX0_readsNumber 2 (some .boolean)) := ⟨List.mem_append_right _ (List.mem_of_getElem? (i := 693) (by decide +kernel)), by decide +kernel⟩
theorem ki_X0_readsNumber : Kw (.instanceMethod yX0_readsNumber) := ⟨List.mem_append_right _ (List.mem_of_getElem? (i := 692) (by decide +kernel)), by decide +kernel⟩
theorem kz_X0_readsNumber : Kw (.selects yX0_readsNumber.cls yX0_readsNumber yX0_readsNumber) := ⟨List.mem_append_left _ (List.mem_of_getElem? (i := 19) (by decide +kernel)), by decide +kernel⟩
theorem kb_X0_readsNumber : VB yX0_readsNumber cX0_readsNumber 2 (some .boolean) 1 := ⟨⟨kI_RX0, kc_X0_readsNumber, ⟨by decide +kernel, by decide +kernel⟩, by decide +kernel⟩, ki_X0_readsNumber, kz_X0_readsNumber⟩
theorem kM_RX0_78 : Kw (.methodLink RX0 78 yX0_readsNumber) := ⟨List.mem_append_right _ (List.mem_of_getElem? (i := 690) (by decide +kernel)), by decide +kernel⟩
theorem kc_X0_readsCode : Kw (.code yX0_readsCode cX0_readsCode 3 (some .boolean)) := ⟨List.mem_append_right _ (List.mem_of_getElem? (i := 697) (by decide +kernel)), by decide +kernel⟩
theorem ki_X0_readsCode : Kw (.instanceMethod yX0_readsCode) := ⟨List.mem_append_right _ (List.mem_of_getElem? (i := 696) (by decide +kernel)), by decide +kernel⟩
theorem kz_X0_readsCode : Kw (.selects yX0_readsCode.cls yX0_readsCode yX0_readsCode) := ⟨List.mem_append_left _ (List.mem_of_getElem? (i := 20) (by decide +kernel)), by decide +kernel⟩
theorem kb_X0_readsCode : VB yX0_readsCode cX0_readsCode 3 (some .boolean) 1 := ⟨⟨kI_RX0, kc_X0_readsCode, ⟨by decide +kernel, by decide +kernel⟩, by decide +kernel⟩, ki_X0_readsCode, kz_X0_readsCode⟩
theorem kM_RX0_81 : Kw (.methodLink RX0 81 yX0_readsCode) := ⟨List.mem_append_right _ (List.mem_of_getElem? (i := 694) (by decide +kernel)), by decide +kernel⟩
theorem kc_X0_readsOn : Kw (.code yX0_readsOn cX0_readsOn 2 (some .boolean)) := ⟨List.mem_append_right _ (List.mem_of_getElem? (i := 681) (by decide +kernel)), by decide +kernel⟩
theorem ki_X0_readsOn : Kw (.instanceMethod yX0_readsOn) := ⟨List.mem_append_right _ (List.mem_of_getElem? (i := 680) (by decide +kernel)), by decide +kernel⟩
theorem kz_X0_readsOn : Kw (.selects yX0_readsOn.cls yX0_readsOn yX0_readsOn) := ⟨List.mem_append_left _ (List.mem_of_getElem? (i := 16) (by decide +kernel)), by decide +kernel⟩
theorem kb_X0_readsOn : VB yX0_readsOn cX0_readsOn 2 (some .boolean) 1 := ⟨⟨kI_RX0, kc_X0_readsOn, ⟨by decide +kernel, by decide +kernel⟩, by decide +kernel⟩, ki_X0_readsOn, kz_X0_readsOn⟩
theorem kM_RX0_71 : Kw (.methodLink RX0 71 yX0_readsOn) := ⟨List.mem_append_right _ (List.mem_of_getElem? (i := 678) (by decide +kernel)), by decide +kernel⟩
theorem kc_X0_read : Kw (.code yX0_read cX0_read 2 (some .int)) := ⟨List.mem_append_right _ (List.mem_of_getElem? (i := 673) (by decide +kernel)), by decide +kernel⟩
theorem ki_X0_read : Kw (.instanceMethod yX0_read) := ⟨List.mem_append_right _ (List.mem_of_getElem? (i := 671) (by decide +kernel)), by decide +kernel⟩
theorem kz_X0_read : Kw (.selects yX0_read.cls yX0_read yX0_read) := ⟨List.mem_append_right _ (List.mem_of_getElem? (i := 672) (by decide +kernel)), by decide +kernel⟩
theorem kb_X0_read : VB yX0_read cX0_read 2 (some .int) 0 := ⟨⟨kI_RX0, kc_X0_read, ⟨by decide +kernel, by decide +kernel⟩, by decide +kernel⟩, ki_X0_read, kz_X0_read⟩
theorem kM_RX6_197 : Kw (.methodLink RX6 197 yX0_read) := ⟨List.mem_append_right _ (List.mem_of_getElem? (i := 670) (by decide +kernel)), by decide +kernel⟩
theorem kM_RX0_54 : Kw (.methodLink RX0 54 yX0_read) := ⟨List.mem_append_right _ (List.mem_of_getElem? (i := 706) (by decide +kernel)), by decide +kernel⟩
theorem kM_RX4_72 : Kw (.methodLink RX4 72 yX4_endOf) := ⟨List.mem_append_right _ (List.mem_of_getElem? (i := 711) (by decide +kernel)), by decide +kernel⟩
theorem kc_X4_codesOf : Kw (.code yX4_codesOf cX4_codesOf 2 (some .int)) := ⟨List.mem_append_right _ (List.mem_of_getElem? (i := 710) (by decide +kernel)), by decide +kernel⟩
theorem ki_X4_codesOf : Kw (.instanceMethod yX4_codesOf) := ⟨List.mem_append_right _ (List.mem_of_getElem? (i := 708) (by decide +kernel)), by decide +kernel⟩
theorem kz_X4_codesOf : Kw (.selects yX4_codesOf.cls yX4_codesOf yX4_codesOf) := ⟨List.mem_append_right _ (List.mem_of_getElem? (i := 709) (by decide +kernel)), by decide +kernel⟩
theorem kb_X4_codesOf : VB yX4_codesOf cX4_codesOf 2 (some .int) 1 := ⟨⟨kI_RX4, kc_X4_codesOf, ⟨by decide +kernel, by decide +kernel⟩, by decide +kernel⟩, ki_X4_codesOf, kz_X4_codesOf⟩
theorem kM_RX4_83 : Kw (.methodLink RX4 83 yX4_codesOf) := ⟨List.mem_append_right _ (List.mem_of_getElem? (i := 717) (by decide +kernel)), by decide +kernel⟩
theorem kF_RX4_86 : Kw (.fieldLink RX4 86 "SteppedSamples$BlockText" "codes" "[I") := ⟨List.mem_append_right _ (List.mem_of_getElem? (i := 129) (by decide +kernel)), by decide +kernel⟩
theorem kF_RX4_75 : Kw (.fieldLink RX4 75 "SteppedSamples$BlockText" "first" "I") := ⟨List.mem_append_right _ (List.mem_of_getElem? (i := 125) (by decide +kernel)), by decide +kernel⟩
theorem kF_RX4_80 : Kw (.fieldLink RX4 80 "SteppedSamples$BlockText" "number" "I") := ⟨List.mem_append_right _ (List.mem_of_getElem? (i := 127) (by decide +kernel)), by decide +kernel⟩
theorem kc_X0_tellsBlock : Kw (.code yX0_tellsBlock cX0_tellsBlock 1 (some .boolean)) := ⟨List.mem_append_right _ (List.mem_of_getElem? (i := 705) (by decide +kernel)), by decide +kernel⟩
theorem ki_X0_tellsBlock : Kw (.instanceMethod yX0_tellsBlock) := ⟨List.mem_append_right _ (List.mem_of_getElem? (i := 703) (by decide +kernel)), by decide +kernel⟩
theorem kz_X0_tellsBlock : Kw (.selects yX0_tellsBlock.cls yX0_tellsBlock yX0_tellsBlock) := ⟨List.mem_append_right _ (List.mem_of_getElem? (i := 704) (by decide +kernel)), by decide +kernel⟩
theorem kb_X0_tellsBlock : VB yX0_tellsBlock cX0_tellsBlock 1 (some .boolean) 0 := ⟨⟨kI_RX0, kc_X0_tellsBlock, ⟨by decide +kernel, by decide +kernel⟩, by decide +kernel⟩, ki_X0_tellsBlock, kz_X0_tellsBlock⟩
theorem kM_RX6_200 : Kw (.methodLink RX6 200 yX0_tellsBlock) := ⟨List.mem_append_right _ (List.mem_of_getElem? (i := 702) (by decide +kernel)), by decide +kernel⟩
theorem kF_RX6_203 : Kw (.fieldLink RX6 203 "SteppedSamples$BlockText" "codeCount" "I") := ⟨List.mem_append_right _ (List.mem_of_getElem? (i := 131) (by decide +kernel)), by decide +kernel⟩
theorem kM_RX6_206 : Kw (.methodLink RX6 206 yX4_codesOf) := ⟨List.mem_append_right _ (List.mem_of_getElem? (i := 707) (by decide +kernel)), by decide +kernel⟩
theorem kc_X4_putBlock : Kw (.code yX4_putBlock cX4_putBlock 5 none) := ⟨List.mem_append_right _ (List.mem_of_getElem? (i := 716) (by decide +kernel)), by decide +kernel⟩
theorem ki_X4_putBlock : Kw (.instanceMethod yX4_putBlock) := ⟨List.mem_append_right _ (List.mem_of_getElem? (i := 714) (by decide +kernel)), by decide +kernel⟩
theorem kz_X4_putBlock : Kw (.selects yX4_putBlock.cls yX4_putBlock yX4_putBlock) := ⟨List.mem_append_right _ (List.mem_of_getElem? (i := 715) (by decide +kernel)), by decide +kernel⟩
theorem kb_X4_putBlock : VB yX4_putBlock cX4_putBlock 5 none 2 := ⟨⟨kI_RX4, kc_X4_putBlock, ⟨by decide +kernel, by decide +kernel⟩, by decide +kernel⟩, ki_X4_putBlock, kz_X4_putBlock⟩
theorem kM_RX6_211 : Kw (.methodLink RX6 211 yX4_putBlock) := ⟨List.mem_append_right _ (List.mem_of_getElem? (i := 713) (by decide +kernel)), by decide +kernel⟩
theorem kc_X6_blockOf : Kw (.code yX6_blockOf cX6_blockOf 3 (some .int)) := ⟨List.mem_append_right _ (List.mem_of_getElem? (i := 636) (by decide +kernel)), by decide +kernel⟩
theorem ki_X6_blockOf : Kw (.instanceMethod yX6_blockOf) := ⟨List.mem_append_right _ (List.mem_of_getElem? (i := 634) (by decide +kernel)), by decide +kernel⟩
theorem kz_X6_blockOf : Kw (.selects yX6_blockOf.cls yX6_blockOf yX6_blockOf) := ⟨List.mem_append_right _ (List.mem_of_getElem? (i := 635) (by decide +kernel)), by decide +kernel⟩
theorem kb_X6_blockOf : VB yX6_blockOf cX6_blockOf 3 (some .int) 2 := ⟨⟨kI_RX6, kc_X6_blockOf, ⟨by decide +kernel, by decide +kernel⟩, by decide +kernel⟩, ki_X6_blockOf, kz_X6_blockOf⟩
theorem kM_RL_64 : Kw (.methodLink RL 64 yX6_blockOf) := ⟨List.mem_append_right _ (List.mem_of_getElem? (i := 633) (by decide +kernel)), by decide +kernel⟩
theorem kc_X6_write : Kw (.code yX6_write cX6_write 2 (some .int)) := ⟨List.mem_append_right _ (List.mem_of_getElem? (i := 646) (by decide +kernel)), by decide +kernel⟩
theorem ki_X6_write : Kw (.instanceMethod yX6_write) := ⟨List.mem_append_right _ (List.mem_of_getElem? (i := 644) (by decide +kernel)), by decide +kernel⟩
theorem kz_X6_write : Kw (.selects yX6_write.cls yX6_write yX6_write) := ⟨List.mem_append_right _ (List.mem_of_getElem? (i := 645) (by decide +kernel)), by decide +kernel⟩
theorem kb_X6_write : VB yX6_write cX6_write 2 (some .int) 1 := ⟨⟨kI_RX6, kc_X6_write, ⟨by decide +kernel, by decide +kernel⟩, by decide +kernel⟩, ki_X6_write, kz_X6_write⟩
theorem kM_RL_67 : Kw (.methodLink RL 67 yX6_write) := ⟨List.mem_append_right _ (List.mem_of_getElem? (i := 643) (by decide +kernel)), by decide +kernel⟩
theorem kc_X6_load : Kw (.code yX6_load cX6_load 2 (some .int)) := ⟨List.mem_append_right _ (List.mem_of_getElem? (i := 701) (by decide +kernel)), by decide +kernel⟩
theorem ki_X6_load : Kw (.instanceMethod yX6_load) := ⟨List.mem_append_right _ (List.mem_of_getElem? (i := 699) (by decide +kernel)), by decide +kernel⟩
theorem kz_X6_load : Kw (.selects yX6_load.cls yX6_load yX6_load) := ⟨List.mem_append_right _ (List.mem_of_getElem? (i := 700) (by decide +kernel)), by decide +kernel⟩
theorem kb_X6_load : VB yX6_load cX6_load 2 (some .int) 1 := ⟨⟨kI_RX6, kc_X6_load, ⟨by decide +kernel, by decide +kernel⟩, by decide +kernel⟩, ki_X6_load, kz_X6_load⟩
theorem kM_RL_73 : Kw (.methodLink RL 73 yX6_load) := ⟨List.mem_append_right _ (List.mem_of_getElem? (i := 698) (by decide +kernel)), by decide +kernel⟩
theorem kc_X6_clearBuffer : Kw (.code yX6_clearBuffer cX6_clearBuffer 2 (some .int)) := ⟨List.mem_append_right _ (List.mem_of_getElem? (i := 721) (by decide +kernel)), by decide +kernel⟩
theorem ki_X6_clearBuffer : Kw (.instanceMethod yX6_clearBuffer) := ⟨List.mem_append_right _ (List.mem_of_getElem? (i := 719) (by decide +kernel)), by decide +kernel⟩
theorem kz_X6_clearBuffer : Kw (.selects yX6_clearBuffer.cls yX6_clearBuffer yX6_clearBuffer) := ⟨List.mem_append_right _ (List.mem_of_getElem? (i := 720) (by decide +kernel)), by decide +kernel⟩
theorem kb_X6_clearBuffer : VB yX6_clearBuffer cX6_clearBuffer 2 (some .int) 0 := ⟨⟨kI_RX6, kc_X6_clearBuffer, ⟨by decide +kernel, by decide +kernel⟩, by decide +kernel⟩, ki_X6_clearBuffer, kz_X6_clearBuffer⟩
theorem kM_RL_76 : Kw (.methodLink RL 76 yX6_clearBuffer) := ⟨List.mem_append_right _ (List.mem_of_getElem? (i := 718) (by decide +kernel)), by decide +kernel⟩
theorem kc_X6_firstError : Kw (.code yX6_firstError cX6_firstError 1 (some .int)) := ⟨List.mem_append_right _ (List.mem_of_getElem? (i := 669) (by decide +kernel)), by decide +kernel⟩
theorem ki_X6_firstError : Kw (.instanceMethod yX6_firstError) := ⟨List.mem_append_right _ (List.mem_of_getElem? (i := 667) (by decide +kernel)), by decide +kernel⟩
theorem kz_X6_firstError : Kw (.selects yX6_firstError.cls yX6_firstError yX6_firstError) := ⟨List.mem_append_right _ (List.mem_of_getElem? (i := 668) (by decide +kernel)), by decide +kernel⟩
theorem kb_X6_firstError : VB yX6_firstError cX6_firstError 1 (some .int) 0 := ⟨⟨kI_RX6, kc_X6_firstError, ⟨by decide +kernel, by decide +kernel⟩, by decide +kernel⟩, ki_X6_firstError, kz_X6_firstError⟩
theorem kM_RL_70 : Kw (.methodLink RL 70 yX6_firstError) := ⟨List.mem_append_right _ (List.mem_of_getElem? (i := 666) (by decide +kernel)), by decide +kernel⟩
theorem kc_X6_setting : Kw (.code yX6_setting cX6_setting 2 (some .int)) := ⟨List.mem_append_right _ (List.mem_of_getElem? (i := 570) (by decide +kernel)), by decide +kernel⟩
theorem ki_X6_setting : Kw (.instanceMethod yX6_setting) := ⟨List.mem_append_right _ (List.mem_of_getElem? (i := 568) (by decide +kernel)), by decide +kernel⟩
theorem kz_X6_setting : Kw (.selects yX6_setting.cls yX6_setting yX6_setting) := ⟨List.mem_append_right _ (List.mem_of_getElem? (i := 569) (by decide +kernel)), by decide +kernel⟩
theorem kb_X6_setting : VB yX6_setting cX6_setting 2 (some .int) 1 := ⟨⟨kI_RX6, kc_X6_setting, ⟨by decide +kernel, by decide +kernel⟩, by decide +kernel⟩, ki_X6_setting, kz_X6_setting⟩
theorem kM_RL_34 : Kw (.methodLink RL 34 yX6_setting) := ⟨List.mem_append_right _ (List.mem_of_getElem? (i := 567) (by decide +kernel)), by decide +kernel⟩
theorem kM_RX5_26 : Kw (.methodLink RX5 26 Lib.Math.abs.name) := ⟨List.mem_append_right _ (List.mem_of_getElem? (i := 406) (by decide +kernel)), by decide +kernel⟩
theorem kF_RX1_12 : Kw (.fieldLink RX1 12 "SteppedSamples$Coder" "walk" "LSteppedSamples$Walk;") := ⟨List.mem_append_right _ (List.mem_of_getElem? (i := 181) (by decide +kernel)), by decide +kernel⟩
theorem kF_RX1_52 : Kw (.fieldLink RX1 52 "SteppedSamples$State" "values" "[I") := ⟨List.mem_append_right _ (List.mem_of_getElem? (i := 35) (by decide +kernel)), by decide +kernel⟩
theorem kc_X5_codeTowards : Kw (.code yX5_codeTowards cX5_codeTowards 5 (some .int)) := ⟨List.mem_append_right _ (List.mem_of_getElem? (i := 400) (by decide +kernel)), by decide +kernel⟩
theorem ki_X5_codeTowards : Kw (.instanceMethod yX5_codeTowards) := ⟨List.mem_append_right _ (List.mem_of_getElem? (i := 398) (by decide +kernel)), by decide +kernel⟩
theorem kz_X5_codeTowards : Kw (.selects yX5_codeTowards.cls yX5_codeTowards yX5_codeTowards) := ⟨List.mem_append_right _ (List.mem_of_getElem? (i := 399) (by decide +kernel)), by decide +kernel⟩
theorem kb_X5_codeTowards : VB yX5_codeTowards cX5_codeTowards 5 (some .int) 1 := ⟨⟨kI_RX5, kc_X5_codeTowards, ⟨by decide +kernel, by decide +kernel⟩, by decide +kernel⟩, ki_X5_codeTowards, kz_X5_codeTowards⟩
theorem kM_RX1_75 : Kw (.methodLink RX1 75 yX5_codeTowards) := ⟨List.mem_append_right _ (List.mem_of_getElem? (i := 397) (by decide +kernel)), by decide +kernel⟩
theorem kM_RX1_78 : Kw (.methodLink RX1 78 yX5_follow) := ⟨List.mem_append_right _ (List.mem_of_getElem? (i := 407) (by decide +kernel)), by decide +kernel⟩
theorem kF_RX1_82 : Kw (.fieldLink RX1 82 "SteppedSamples$Walk" "guess" "I") := ⟨List.mem_append_right _ (List.mem_of_getElem? (i := 171) (by decide +kernel)), by decide +kernel⟩
theorem kM_RX1_71 : Kw (.methodLink RX1 71 yX5_begin) := ⟨List.mem_append_right _ (List.mem_of_getElem? (i := 393) (by decide +kernel)), by decide +kernel⟩
theorem kI_RX1 : Kw (.initialized RX1) := ⟨List.mem_append_right _ (List.mem_of_getElem? (i := 5) (by decide +kernel)), by decide +kernel⟩
theorem kc_X1_errorAsBlock : Kw (.code yX1_errorAsBlock cX1_errorAsBlock 8 (some .int)) := ⟨List.mem_append_right _ (List.mem_of_getElem? (i := 392) (by decide +kernel)), by decide +kernel⟩
theorem ki_X1_errorAsBlock : Kw (.instanceMethod yX1_errorAsBlock) := ⟨List.mem_append_right _ (List.mem_of_getElem? (i := 390) (by decide +kernel)), by decide +kernel⟩
theorem kz_X1_errorAsBlock : Kw (.selects yX1_errorAsBlock.cls yX1_errorAsBlock yX1_errorAsBlock) := ⟨List.mem_append_right _ (List.mem_of_getElem? (i := 391) (by decide +kernel)), by decide +kernel⟩
theorem kb_X1_errorAsBlock : VB yX1_errorAsBlock cX1_errorAsBlock 8 (some .int) 4 := ⟨⟨kI_RX1, kc_X1_errorAsBlock, ⟨by decide +kernel, by decide +kernel⟩, by decide +kernel⟩, ki_X1_errorAsBlock, kz_X1_errorAsBlock⟩
theorem kM_RX1_85 : Kw (.methodLink RX1 85 yX1_errorAsBlock) := ⟨List.mem_append_right _ (List.mem_of_getElem? (i := 389) (by decide +kernel)), by decide +kernel⟩
theorem kM_RX1_32 : Kw (.methodLink RX1 32 yX4_endOf) := ⟨List.mem_append_right _ (List.mem_of_getElem? (i := 379) (by decide +kernel)), by decide +kernel⟩
theorem kF_RX1_65 : Kw (.fieldLink RX1 65 "SteppedSamples$State" "codes" "[I") := ⟨List.mem_append_right _ (List.mem_of_getElem? (i := 61) (by decide +kernel)), by decide +kernel⟩
theorem kF_RX1_68 : Kw (.fieldLink RX1 68 "SteppedSamples$State" "guesses" "[I") := ⟨List.mem_append_right _ (List.mem_of_getElem? (i := 66) (by decide +kernel)), by decide +kernel⟩
theorem kM_RX1_18 : Kw (.methodLink RX1 18 yX4_startOf) := ⟨List.mem_append_right _ (List.mem_of_getElem? (i := 375) (by decide +kernel)), by decide +kernel⟩
theorem kF_RX1_55 : Kw (.fieldLink RX1 55 "SteppedSamples$State" "firsts" "[I") := ⟨List.mem_append_right _ (List.mem_of_getElem? (i := 48) (by decide +kernel)), by decide +kernel⟩
theorem kF_RX1_58 : Kw (.fieldLink RX1 58 "SteppedSamples$State" "starts" "[I") := ⟨List.mem_append_right _ (List.mem_of_getElem? (i := 53) (by decide +kernel)), by decide +kernel⟩
theorem kF_RX1_61 : Kw (.fieldLink RX1 61 "SteppedSamples$State" "lost" "[Z") := ⟨List.mem_append_right _ (List.mem_of_getElem? (i := 58) (by decide +kernel)), by decide +kernel⟩
theorem kF_RX1_46 : Kw (.fieldLink RX1 46 "SteppedSamples$State" "blocks" "I") := ⟨List.mem_append_right _ (List.mem_of_getElem? (i := 44) (by decide +kernel)), by decide +kernel⟩
theorem kF_RX1_49 : Kw (.fieldLink RX1 49 "SteppedSamples$State" "codings" "I") := ⟨List.mem_append_right _ (List.mem_of_getElem? (i := 69) (by decide +kernel)), by decide +kernel⟩
theorem kc_X1_codeBlock : Kw (.code yX1_codeBlock cX1_codeBlock 8 none) := ⟨List.mem_append_right _ (List.mem_of_getElem? (i := 420) (by decide +kernel)), by decide +kernel⟩
theorem ki_X1_codeBlock : Kw (.instanceMethod yX1_codeBlock) := ⟨List.mem_append_right _ (List.mem_of_getElem? (i := 419) (by decide +kernel)), by decide +kernel⟩
theorem kz_X1_codeBlock : Kw (.selects yX1_codeBlock.cls yX1_codeBlock yX1_codeBlock) := ⟨List.mem_append_left _ (List.mem_of_getElem? (i := 3) (by decide +kernel)), by decide +kernel⟩
theorem kb_X1_codeBlock : VB yX1_codeBlock cX1_codeBlock 8 none 3 := ⟨⟨kI_RX1, kc_X1_codeBlock, ⟨by decide +kernel, by decide +kernel⟩, by decide +kernel⟩, ki_X1_codeBlock, kz_X1_codeBlock⟩
theorem kM_RX1_39 : Kw (.methodLink RX1 39 yX1_codeBlock) := ⟨List.mem_append_right _ (List.mem_of_getElem? (i := 417) (by decide +kernel)), by decide +kernel⟩
theorem kF_RX1_43 : Kw (.fieldLink RX1 43 "SteppedSamples$Walk" "number" "I") := ⟨List.mem_append_right _ (List.mem_of_getElem? (i := 172) (by decide +kernel)), by decide +kernel⟩
theorem kF_RX1_24 : Kw (.fieldLink RX1 24 "SteppedSamples$State" "many" "I") := ⟨List.mem_append_right _ (List.mem_of_getElem? (i := 31) (by decide +kernel)), by decide +kernel⟩
theorem kF_RX1_28 : Kw (.fieldLink RX1 28 "SteppedSamples$State" "settings" "[I") := ⟨List.mem_append_right _ (List.mem_of_getElem? (i := 39) (by decide +kernel)), by decide +kernel⟩
theorem kc_X1_bestStart : Kw (.code yX1_bestStart cX1_bestStart 8 (some .int)) := ⟨List.mem_append_right _ (List.mem_of_getElem? (i := 388) (by decide +kernel)), by decide +kernel⟩
theorem ki_X1_bestStart : Kw (.instanceMethod yX1_bestStart) := ⟨List.mem_append_right _ (List.mem_of_getElem? (i := 386) (by decide +kernel)), by decide +kernel⟩
theorem kz_X1_bestStart : Kw (.selects yX1_bestStart.cls yX1_bestStart yX1_bestStart) := ⟨List.mem_append_right _ (List.mem_of_getElem? (i := 387) (by decide +kernel)), by decide +kernel⟩
theorem kb_X1_bestStart : VB yX1_bestStart cX1_bestStart 8 (some .int) 3 := ⟨⟨kI_RX1, kc_X1_bestStart, ⟨by decide +kernel, by decide +kernel⟩, by decide +kernel⟩, ki_X1_bestStart, kz_X1_bestStart⟩
theorem kM_RX1_35 : Kw (.methodLink RX1 35 yX1_bestStart) := ⟨List.mem_append_right _ (List.mem_of_getElem? (i := 385) (by decide +kernel)), by decide +kernel⟩
theorem kF_RX6_41 : Kw (.fieldLink RX6 41 "SteppedSamples" "coder" "LSteppedSamples$Coder;") := ⟨List.mem_append_right _ (List.mem_of_getElem? (i := 216) (by decide +kernel)), by decide +kernel⟩
theorem kc_X1_codeWave : Kw (.code yX1_codeWave cX1_codeWave 4 none) := ⟨List.mem_append_right _ (List.mem_of_getElem? (i := 374) (by decide +kernel)), by decide +kernel⟩
theorem ki_X1_codeWave : Kw (.instanceMethod yX1_codeWave) := ⟨List.mem_append_right _ (List.mem_of_getElem? (i := 372) (by decide +kernel)), by decide +kernel⟩
theorem kz_X1_codeWave : Kw (.selects yX1_codeWave.cls yX1_codeWave yX1_codeWave) := ⟨List.mem_append_right _ (List.mem_of_getElem? (i := 373) (by decide +kernel)), by decide +kernel⟩
theorem kb_X1_codeWave : VB yX1_codeWave cX1_codeWave 4 none 1 := ⟨⟨kI_RX1, kc_X1_codeWave, ⟨by decide +kernel, by decide +kernel⟩, by decide +kernel⟩, ki_X1_codeWave, kz_X1_codeWave⟩
theorem kM_RX6_155 : Kw (.methodLink RX6 155 yX1_codeWave) := ⟨List.mem_append_right _ (List.mem_of_getElem? (i := 371) (by decide +kernel)), by decide +kernel⟩
theorem kc_X6_refuseUnlessSamples : Kw (.code yX6_refuseUnlessSamples cX6_refuseUnlessSamples 3 none) := ⟨List.mem_append_right _ (List.mem_of_getElem? (i := 732) (by decide +kernel)), by decide +kernel⟩
theorem ki_X6_refuseUnlessSamples : Kw (.instanceMethod yX6_refuseUnlessSamples) := ⟨List.mem_append_right _ (List.mem_of_getElem? (i := 731) (by decide +kernel)), by decide +kernel⟩
theorem kz_X6_refuseUnlessSamples : Kw (.selects yX6_refuseUnlessSamples.cls yX6_refuseUnlessSamples yX6_refuseUnlessSamples) := ⟨List.mem_append_left _ (List.mem_of_getElem? (i := 21) (by decide +kernel)), by decide +kernel⟩
theorem kb_X6_refuseUnlessSamples : VB yX6_refuseUnlessSamples cX6_refuseUnlessSamples 3 none 2 := ⟨⟨kI_RX6, kc_X6_refuseUnlessSamples, ⟨by decide +kernel, by decide +kernel⟩, by decide +kernel⟩, ki_X6_refuseUnlessSamples, kz_X6_refuseUnlessSamples⟩
theorem kM_RX6_305 : Kw (.methodLink RX6 305 yX6_refuseUnlessSamples) := ⟨List.mem_append_right _ (List.mem_of_getElem? (i := 729) (by decide +kernel)), by decide +kernel⟩
theorem kc_X6_isNumber : Kw (.code yX6_isNumber cX6_isNumber 1 (some .boolean)) := ⟨List.mem_append_right _ (List.mem_of_getElem? (i := 736) (by decide +kernel)), by decide +kernel⟩
theorem ks_X6_isNumber : Kw (.static yX6_isNumber) := ⟨List.mem_append_right _ (List.mem_of_getElem? (i := 735) (by decide +kernel)), by decide +kernel⟩
theorem kb_X6_isNumber : SB yX6_isNumber cX6_isNumber 1 (some .boolean) 1 := ⟨⟨kI_RX6, kc_X6_isNumber, ⟨by decide +kernel, by decide +kernel⟩, by decide +kernel⟩, ks_X6_isNumber⟩
theorem kM_RX6_241 : Kw (.methodLink RX6 241 yX6_isNumber) := ⟨List.mem_append_right _ (List.mem_of_getElem? (i := 734) (by decide +kernel)), by decide +kernel⟩
theorem kM_RX6_308 : Kw (.methodLink RX6 308 yX1_errorAsBlock) := ⟨List.mem_append_right _ (List.mem_of_getElem? (i := 738) (by decide +kernel)), by decide +kernel⟩
theorem kM_RX6_312 : Kw (.methodLink RX6 312 yX1_bestStart) := ⟨List.mem_append_right _ (List.mem_of_getElem? (i := 743) (by decide +kernel)), by decide +kernel⟩
theorem kc_X6_bestStep : Kw (.code yX6_bestStep cX6_bestStep 3 (some .int)) := ⟨List.mem_append_right _ (List.mem_of_getElem? (i := 742) (by decide +kernel)), by decide +kernel⟩
theorem ki_X6_bestStep : Kw (.instanceMethod yX6_bestStep) := ⟨List.mem_append_right _ (List.mem_of_getElem? (i := 740) (by decide +kernel)), by decide +kernel⟩
theorem kz_X6_bestStep : Kw (.selects yX6_bestStep.cls yX6_bestStep yX6_bestStep) := ⟨List.mem_append_right _ (List.mem_of_getElem? (i := 741) (by decide +kernel)), by decide +kernel⟩
theorem kb_X6_bestStep : VB yX6_bestStep cX6_bestStep 3 (some .int) 2 := ⟨⟨kI_RX6, kc_X6_bestStep, ⟨by decide +kernel, by decide +kernel⟩, by decide +kernel⟩, ki_X6_bestStep, kz_X6_bestStep⟩
theorem kM_RL_82 : Kw (.methodLink RL 82 yX6_bestStep) := ⟨List.mem_append_right _ (List.mem_of_getElem? (i := 739) (by decide +kernel)), by decide +kernel⟩
theorem kc_X6_ifBlock : Kw (.code yX6_ifBlock cX6_ifBlock 4 (some .int)) := ⟨List.mem_append_right _ (List.mem_of_getElem? (i := 728) (by decide +kernel)), by decide +kernel⟩
theorem ki_X6_ifBlock : Kw (.instanceMethod yX6_ifBlock) := ⟨List.mem_append_right _ (List.mem_of_getElem? (i := 726) (by decide +kernel)), by decide +kernel⟩
theorem kz_X6_ifBlock : Kw (.selects yX6_ifBlock.cls yX6_ifBlock yX6_ifBlock) := ⟨List.mem_append_right _ (List.mem_of_getElem? (i := 727) (by decide +kernel)), by decide +kernel⟩
theorem kb_X6_ifBlock : VB yX6_ifBlock cX6_ifBlock 4 (some .int) 3 := ⟨⟨kI_RX6, kc_X6_ifBlock, ⟨by decide +kernel, by decide +kernel⟩, by decide +kernel⟩, ki_X6_ifBlock, kz_X6_ifBlock⟩
theorem kM_RL_79 : Kw (.methodLink RL 79 yX6_ifBlock) := ⟨List.mem_append_right _ (List.mem_of_getElem? (i := 725) (by decide +kernel)), by decide +kernel⟩
theorem kI_RL : Kw (.initialized RL) := ⟨List.mem_append_right _ (List.mem_of_getElem? (i := 0) (by decide +kernel)), by decide +kernel⟩
theorem kc_L_low : Kw (.code yL_low cL_low 2 (some .int)) := ⟨List.mem_append_right _ (List.mem_of_getElem? (i := 535) (by decide +kernel)), by decide +kernel⟩
theorem ks_L_low : Kw (.static yL_low) := ⟨List.mem_append_right _ (List.mem_of_getElem? (i := 534) (by decide +kernel)), by decide +kernel⟩
theorem kb_L_low : SB yL_low cL_low 2 (some .int) 2 := ⟨⟨kI_RL, kc_L_low, ⟨by decide +kernel, by decide +kernel⟩, by decide +kernel⟩, ks_L_low⟩
theorem kM_RL_15 : Kw (.methodLink RL 15 yL_low) := ⟨List.mem_append_right _ (List.mem_of_getElem? (i := 533) (by decide +kernel)), by decide +kernel⟩
theorem kc_X6_wave : Kw (.code yX6_wave cX6_wave 3 (some .int)) := ⟨List.mem_append_right _ (List.mem_of_getElem? (i := 242) (by decide +kernel)), by decide +kernel⟩
theorem ki_X6_wave : Kw (.instanceMethod yX6_wave) := ⟨List.mem_append_right _ (List.mem_of_getElem? (i := 240) (by decide +kernel)), by decide +kernel⟩
theorem kz_X6_wave : Kw (.selects yX6_wave.cls yX6_wave yX6_wave) := ⟨List.mem_append_right _ (List.mem_of_getElem? (i := 241) (by decide +kernel)), by decide +kernel⟩
theorem kb_X6_wave : VB yX6_wave cX6_wave 3 (some .int) 1 := ⟨⟨kI_RX6, kc_X6_wave, ⟨by decide +kernel, by decide +kernel⟩, by decide +kernel⟩, ki_X6_wave, kz_X6_wave⟩
theorem kM_RL_21 : Kw (.methodLink RL 21 yX6_wave) := ⟨List.mem_append_right _ (List.mem_of_getElem? (i := 239) (by decide +kernel)), by decide +kernel⟩
theorem kc_X6_sample : Kw (.code yX6_sample cX6_sample 4 (some .int)) := ⟨List.mem_append_right _ (List.mem_of_getElem? (i := 565) (by decide +kernel)), by decide +kernel⟩
theorem ki_X6_sample : Kw (.instanceMethod yX6_sample) := ⟨List.mem_append_right _ (List.mem_of_getElem? (i := 563) (by decide +kernel)), by decide +kernel⟩
theorem kz_X6_sample : Kw (.selects yX6_sample.cls yX6_sample yX6_sample) := ⟨List.mem_append_right _ (List.mem_of_getElem? (i := 564) (by decide +kernel)), by decide +kernel⟩
theorem kb_X6_sample : VB yX6_sample cX6_sample 4 (some .int) 2 := ⟨⟨kI_RX6, kc_X6_sample, ⟨by decide +kernel, by decide +kernel⟩, by decide +kernel⟩, ki_X6_sample, kz_X6_sample⟩
theorem kM_RL_27 : Kw (.methodLink RL 27 yX6_sample) := ⟨List.mem_append_right _ (List.mem_of_getElem? (i := 562) (by decide +kernel)), by decide +kernel⟩
theorem kc_X6_add : Kw (.code yX6_add cX6_add 7 (some .int)) := ⟨List.mem_append_right _ (List.mem_of_getElem? (i := 347) (by decide +kernel)), by decide +kernel⟩
theorem ki_X6_add : Kw (.instanceMethod yX6_add) := ⟨List.mem_append_right _ (List.mem_of_getElem? (i := 345) (by decide +kernel)), by decide +kernel⟩
theorem kz_X6_add : Kw (.selects yX6_add.cls yX6_add yX6_add) := ⟨List.mem_append_right _ (List.mem_of_getElem? (i := 346) (by decide +kernel)), by decide +kernel⟩
theorem kb_X6_add : VB yX6_add cX6_add 7 (some .int) 3 := ⟨⟨kI_RX6, kc_X6_add, ⟨by decide +kernel, by decide +kernel⟩, by decide +kernel⟩, ki_X6_add, kz_X6_add⟩
theorem kM_RL_30 : Kw (.methodLink RL 30 yX6_add) := ⟨List.mem_append_right _ (List.mem_of_getElem? (i := 344) (by decide +kernel)), by decide +kernel⟩
theorem kc_X6_set : Kw (.code yX6_set cX6_set 4 (some .int)) := ⟨List.mem_append_right _ (List.mem_of_getElem? (i := 578) (by decide +kernel)), by decide +kernel⟩
theorem ki_X6_set : Kw (.instanceMethod yX6_set) := ⟨List.mem_append_right _ (List.mem_of_getElem? (i := 576) (by decide +kernel)), by decide +kernel⟩
theorem kz_X6_set : Kw (.selects yX6_set.cls yX6_set yX6_set) := ⟨List.mem_append_right _ (List.mem_of_getElem? (i := 577) (by decide +kernel)), by decide +kernel⟩
theorem kb_X6_set : VB yX6_set cX6_set 4 (some .int) 2 := ⟨⟨kI_RX6, kc_X6_set, ⟨by decide +kernel, by decide +kernel⟩, by decide +kernel⟩, ki_X6_set, kz_X6_set⟩
theorem kM_RL_37 : Kw (.methodLink RL 37 yX6_set) := ⟨List.mem_append_right _ (List.mem_of_getElem? (i := 575) (by decide +kernel)), by decide +kernel⟩
theorem kc_X6_lose : Kw (.code yX6_lose cX6_lose 2 (some .int)) := ⟨List.mem_append_right _ (List.mem_of_getElem? (i := 589) (by decide +kernel)), by decide +kernel⟩
theorem ki_X6_lose : Kw (.instanceMethod yX6_lose) := ⟨List.mem_append_right _ (List.mem_of_getElem? (i := 587) (by decide +kernel)), by decide +kernel⟩
theorem kz_X6_lose : Kw (.selects yX6_lose.cls yX6_lose yX6_lose) := ⟨List.mem_append_right _ (List.mem_of_getElem? (i := 588) (by decide +kernel)), by decide +kernel⟩
theorem kb_X6_lose : VB yX6_lose cX6_lose 2 (some .int) 1 := ⟨⟨kI_RX6, kc_X6_lose, ⟨by decide +kernel, by decide +kernel⟩, by decide +kernel⟩, ki_X6_lose, kz_X6_lose⟩
theorem kM_RL_40 : Kw (.methodLink RL 40 yX6_lose) := ⟨List.mem_append_right _ (List.mem_of_getElem? (i := 586) (by decide +kernel)), by decide +kernel⟩
theorem kc_L_isSpoiled : Kw (.code yL_isSpoiled cL_isSpoiled 10 (some .boolean)) := ⟨List.mem_append_right _ (List.mem_of_getElem? (i := 601) (by decide +kernel)), by decide +kernel⟩
theorem ks_L_isSpoiled : Kw (.static yL_isSpoiled) := ⟨List.mem_append_right _ (List.mem_of_getElem? (i := 600) (by decide +kernel)), by decide +kernel⟩
theorem kb_L_isSpoiled : SB yL_isSpoiled cL_isSpoiled 10 (some .boolean) 3 := ⟨⟨kI_RL, kc_L_isSpoiled, ⟨by decide +kernel, by decide +kernel⟩, by decide +kernel⟩, ks_L_isSpoiled⟩
theorem kM_RL_43 : Kw (.methodLink RL 43 yL_isSpoiled) := ⟨List.mem_append_right _ (List.mem_of_getElem? (i := 599) (by decide +kernel)), by decide +kernel⟩
theorem kc_L_loads : Kw (.code yL_loads cL_loads 8 (some .boolean)) := ⟨List.mem_append_right _ (List.mem_of_getElem? (i := 632) (by decide +kernel)), by decide +kernel⟩
theorem ks_L_loads : Kw (.static yL_loads) := ⟨List.mem_append_right _ (List.mem_of_getElem? (i := 631) (by decide +kernel)), by decide +kernel⟩
theorem kb_L_loads : SB yL_loads cL_loads 8 (some .boolean) 3 := ⟨⟨kI_RL, kc_L_loads, ⟨by decide +kernel, by decide +kernel⟩, by decide +kernel⟩, ks_L_loads⟩
theorem kM_RL_47 : Kw (.methodLink RL 47 yL_loads) := ⟨List.mem_append_right _ (List.mem_of_getElem? (i := 630) (by decide +kernel)), by decide +kernel⟩
theorem kc_X6_code : Kw (.code yX6_code cX6_code 1 (some .int)) := ⟨List.mem_append_right _ (List.mem_of_getElem? (i := 370) (by decide +kernel)), by decide +kernel⟩
theorem ki_X6_code : Kw (.instanceMethod yX6_code) := ⟨List.mem_append_right _ (List.mem_of_getElem? (i := 368) (by decide +kernel)), by decide +kernel⟩
theorem kz_X6_code : Kw (.selects yX6_code.cls yX6_code yX6_code) := ⟨List.mem_append_right _ (List.mem_of_getElem? (i := 369) (by decide +kernel)), by decide +kernel⟩
theorem kb_X6_code : VB yX6_code cX6_code 1 (some .int) 0 := ⟨⟨kI_RX6, kc_X6_code, ⟨by decide +kernel, by decide +kernel⟩, by decide +kernel⟩, ki_X6_code, kz_X6_code⟩
theorem kM_RL_50 : Kw (.methodLink RL 50 yX6_code) := ⟨List.mem_append_right _ (List.mem_of_getElem? (i := 367) (by decide +kernel)), by decide +kernel⟩
theorem kc_L_isAsGuessed : Kw (.code yL_isAsGuessed cL_isAsGuessed 7 (some .boolean)) := ⟨List.mem_append_right _ (List.mem_of_getElem? (i := 724) (by decide +kernel)), by decide +kernel⟩
theorem ks_L_isAsGuessed : Kw (.static yL_isAsGuessed) := ⟨List.mem_append_right _ (List.mem_of_getElem? (i := 723) (by decide +kernel)), by decide +kernel⟩
theorem kb_L_isAsGuessed : SB yL_isAsGuessed cL_isAsGuessed 7 (some .boolean) 1 := ⟨⟨kI_RL, kc_L_isAsGuessed, ⟨by decide +kernel, by decide +kernel⟩, by decide +kernel⟩, ks_L_isAsGuessed⟩
theorem kM_RL_54 : Kw (.methodLink RL 54 yL_isAsGuessed) := ⟨List.mem_append_right _ (List.mem_of_getElem? (i := 722) (by decide +kernel)), by decide +kernel⟩
theorem kc_X6_wholeError : Kw (.code yX6_wholeError cX6_wholeError 1 (some .int)) := ⟨List.mem_append_right _ (List.mem_of_getElem? (i := 524) (by decide +kernel)), by decide +kernel⟩
theorem ki_X6_wholeError : Kw (.instanceMethod yX6_wholeError) := ⟨List.mem_append_right _ (List.mem_of_getElem? (i := 523) (by decide +kernel)), by decide +kernel⟩
theorem kz_X6_wholeError : Kw (.selects yX6_wholeError.cls yX6_wholeError yX6_wholeError) := ⟨List.mem_append_left _ (List.mem_of_getElem? (i := 10) (by decide +kernel)), by decide +kernel⟩
theorem kb_X6_wholeError : VB yX6_wholeError cX6_wholeError 1 (some .int) 0 := ⟨⟨kI_RX6, kc_X6_wholeError, ⟨by decide +kernel, by decide +kernel⟩, by decide +kernel⟩, ki_X6_wholeError, kz_X6_wholeError⟩
theorem kM_RX6_315 : Kw (.methodLink RX6 315 yX6_wholeError) := ⟨List.mem_append_right _ (List.mem_of_getElem? (i := 521) (by decide +kernel)), by decide +kernel⟩
theorem kc_X6_meanSquare : Kw (.code yX6_meanSquare cX6_meanSquare 1 (some .double)) := ⟨List.mem_append_right _ (List.mem_of_getElem? (i := 750) (by decide +kernel)), by decide +kernel⟩
theorem ki_X6_meanSquare : Kw (.instanceMethod yX6_meanSquare) := ⟨List.mem_append_right _ (List.mem_of_getElem? (i := 748) (by decide +kernel)), by decide +kernel⟩
theorem kz_X6_meanSquare : Kw (.selects yX6_meanSquare.cls yX6_meanSquare yX6_meanSquare) := ⟨List.mem_append_right _ (List.mem_of_getElem? (i := 749) (by decide +kernel)), by decide +kernel⟩
theorem kb_X6_meanSquare : VB yX6_meanSquare cX6_meanSquare 1 (some .double) 0 := ⟨⟨kI_RX6, kc_X6_meanSquare, ⟨by decide +kernel, by decide +kernel⟩, by decide +kernel⟩, ki_X6_meanSquare, kz_X6_meanSquare⟩
theorem kM_RL_85 : Kw (.methodLink RL 85 yX6_meanSquare) := ⟨List.mem_append_right _ (List.mem_of_getElem? (i := 747) (by decide +kernel)), by decide +kernel⟩
theorem kC_RX6_318 : Kw (.constantFloat RX6 318 (3212836864)) := ⟨List.mem_append_right _ (List.mem_of_getElem? (i := 525) (by decide +kernel)), by decide +kernel⟩
theorem kc_X6_refuseUnlessSlot : Kw (.code yX6_refuseUnlessSlot cX6_refuseUnlessSlot 2 none) := ⟨List.mem_append_right _ (List.mem_of_getElem? (i := 428) (by decide +kernel)), by decide +kernel⟩
theorem ki_X6_refuseUnlessSlot : Kw (.instanceMethod yX6_refuseUnlessSlot) := ⟨List.mem_append_right _ (List.mem_of_getElem? (i := 427) (by decide +kernel)), by decide +kernel⟩
theorem kz_X6_refuseUnlessSlot : Kw (.selects yX6_refuseUnlessSlot.cls yX6_refuseUnlessSlot yX6_refuseUnlessSlot) := ⟨List.mem_append_left _ (List.mem_of_getElem? (i := 4) (by decide +kernel)), by decide +kernel⟩
theorem kb_X6_refuseUnlessSlot : VB yX6_refuseUnlessSlot cX6_refuseUnlessSlot 2 none 1 := ⟨⟨kI_RX6, kc_X6_refuseUnlessSlot, ⟨by decide +kernel, by decide +kernel⟩, by decide +kernel⟩, ki_X6_refuseUnlessSlot, kz_X6_refuseUnlessSlot⟩
theorem kM_RX6_227 : Kw (.methodLink RX6 227 yX6_refuseUnlessSlot) := ⟨List.mem_append_right _ (List.mem_of_getElem? (i := 425) (by decide +kernel)), by decide +kernel⟩
theorem kF_RX6_23 : Kw (.fieldLink RX6 23 "SteppedSamples" "slots" "[LSteppedSamples$State;") := ⟨List.mem_append_right _ (List.mem_of_getElem? (i := 213) (by decide +kernel)), by decide +kernel⟩
theorem kM_RX6_230 : Kw (.methodLink RX6 230 yX4_copyFrom) := ⟨List.mem_append_right _ (List.mem_of_getElem? (i := 430) (by decide +kernel)), by decide +kernel⟩
theorem kF_RX6_27 : Kw (.fieldLink RX6 27 "SteppedSamples" "kept" "[Z") := ⟨List.mem_append_right _ (List.mem_of_getElem? (i := 214) (by decide +kernel)), by decide +kernel⟩
theorem kc_X3_restore : Kw (.code yX3_restore cX3_restore 2 none) := ⟨List.mem_append_right _ (List.mem_of_getElem? (i := 459) (by decide +kernel)), by decide +kernel⟩
theorem ki_X3_restore : Kw (.instanceMethod yX3_restore) := ⟨List.mem_append_right _ (List.mem_of_getElem? (i := 457) (by decide +kernel)), by decide +kernel⟩
theorem kz_X3_restore : Kw (.selects yX3_restore.cls yX3_restore yX3_restore) := ⟨List.mem_append_right _ (List.mem_of_getElem? (i := 458) (by decide +kernel)), by decide +kernel⟩
theorem kb_X3_restore : VB yX3_restore cX3_restore 2 none 1 := ⟨⟨kI_RX3, kc_X3_restore, ⟨by decide +kernel, by decide +kernel⟩, by decide +kernel⟩, ki_X3_restore, kz_X3_restore⟩
theorem kM_RX6_238 : Kw (.methodLink RX6 238 yX3_restore) := ⟨List.mem_append_right _ (List.mem_of_getElem? (i := 456) (by decide +kernel)), by decide +kernel⟩
theorem kL_RX6_119 : Kw (.classLink RX6 119 (exN 2)) := ⟨List.mem_append_right _ (List.mem_of_getElem? (i := 435) (by decide +kernel)), by decide +kernel⟩
theorem kI_E2 : Kw (.initialized (exN 2)) := ⟨List.mem_append_right _ (List.mem_of_getElem? (i := 15) (by decide +kernel)), by decide +kernel⟩
theorem kT_2_123 : ThB 2 123 := ⟨by decide +kernel, by decide +kernel, by decide +kernel, by decide +kernel, kI_E2⟩
theorem kc_X6_goBack : Kw (.code yX6_goBack cX6_goBack 2 (some .int)) := ⟨List.mem_append_right _ (List.mem_of_getElem? (i := 434) (by decide +kernel)), by decide +kernel⟩
theorem ki_X6_goBack : Kw (.instanceMethod yX6_goBack) := ⟨List.mem_append_right _ (List.mem_of_getElem? (i := 432) (by decide +kernel)), by decide +kernel⟩
theorem kz_X6_goBack : Kw (.selects yX6_goBack.cls yX6_goBack yX6_goBack) := ⟨List.mem_append_right _ (List.mem_of_getElem? (i := 433) (by decide +kernel)), by decide +kernel⟩
theorem kb_X6_goBack : VB yX6_goBack cX6_goBack 2 (some .int) 1 := ⟨⟨kI_RX6, kc_X6_goBack, ⟨by decide +kernel, by decide +kernel⟩, by decide +kernel⟩, ki_X6_goBack, kz_X6_goBack⟩
theorem kM_RL_110 : Kw (.methodLink RL 110 yX6_goBack) := ⟨List.mem_append_right _ (List.mem_of_getElem? (i := 431) (by decide +kernel)), by decide +kernel⟩
theorem kc_L_holds : Kw (.code yL_holds cL_holds 13 (some .boolean)) := ⟨List.mem_append_right _ (List.mem_of_getElem? (i := 746) (by decide +kernel)), by decide +kernel⟩
theorem ks_L_holds : Kw (.static yL_holds) := ⟨List.mem_append_right _ (List.mem_of_getElem? (i := 745) (by decide +kernel)), by decide +kernel⟩
theorem kb_L_holds : SB yL_holds cL_holds 13 (some .boolean) 1 := ⟨⟨kI_RL, kc_L_holds, ⟨by decide +kernel, by decide +kernel⟩, by decide +kernel⟩, ks_L_holds⟩
theorem kM_RL_90 : Kw (.methodLink RL 90 yL_holds) := ⟨List.mem_append_right _ (List.mem_of_getElem? (i := 744) (by decide +kernel)), by decide +kernel⟩
theorem kc_X6_keep : Kw (.code yX6_keep cX6_keep 2 (some .int)) := ⟨List.mem_append_right _ (List.mem_of_getElem? (i := 424) (by decide +kernel)), by decide +kernel⟩
theorem ki_X6_keep : Kw (.instanceMethod yX6_keep) := ⟨List.mem_append_right _ (List.mem_of_getElem? (i := 422) (by decide +kernel)), by decide +kernel⟩
theorem kz_X6_keep : Kw (.selects yX6_keep.cls yX6_keep yX6_keep) := ⟨List.mem_append_right _ (List.mem_of_getElem? (i := 423) (by decide +kernel)), by decide +kernel⟩
theorem kb_X6_keep : VB yX6_keep cX6_keep 2 (some .int) 1 := ⟨⟨kI_RX6, kc_X6_keep, ⟨by decide +kernel, by decide +kernel⟩, by decide +kernel⟩, ki_X6_keep, kz_X6_keep⟩
theorem kM_RL_104 : Kw (.methodLink RL 104 yX6_keep) := ⟨List.mem_append_right _ (List.mem_of_getElem? (i := 421) (by decide +kernel)), by decide +kernel⟩
theorem kc_X6_undo : Kw (.code yX6_undo cX6_undo 1 (some .int)) := ⟨List.mem_append_right _ (List.mem_of_getElem? (i := 454) (by decide +kernel)), by decide +kernel⟩
theorem ki_X6_undo : Kw (.instanceMethod yX6_undo) := ⟨List.mem_append_right _ (List.mem_of_getElem? (i := 452) (by decide +kernel)), by decide +kernel⟩
theorem kz_X6_undo : Kw (.selects yX6_undo.cls yX6_undo yX6_undo) := ⟨List.mem_append_right _ (List.mem_of_getElem? (i := 453) (by decide +kernel)), by decide +kernel⟩
theorem kb_X6_undo : VB yX6_undo cX6_undo 1 (some .int) 0 := ⟨⟨kI_RX6, kc_X6_undo, ⟨by decide +kernel, by decide +kernel⟩, by decide +kernel⟩, ki_X6_undo, kz_X6_undo⟩
theorem kM_RL_107 : Kw (.methodLink RL 107 yX6_undo) := ⟨List.mem_append_right _ (List.mem_of_getElem? (i := 451) (by decide +kernel)), by decide +kernel⟩
theorem kc_L_cell : Kw (.code yL_cell cL_cell 2 (some .int)) := ⟨List.mem_append_right _ (List.mem_of_getElem? (i := 528) (by decide +kernel)), by decide +kernel⟩
theorem ks_L_cell : Kw (.static yL_cell) := ⟨List.mem_append_right _ (List.mem_of_getElem? (i := 527) (by decide +kernel)), by decide +kernel⟩
theorem kb_L_cell : SB yL_cell cL_cell 2 (some .int) 2 := ⟨⟨kI_RL, kc_L_cell, ⟨by decide +kernel, by decide +kernel⟩, by decide +kernel⟩, ks_L_cell⟩
theorem kM_RL_97 : Kw (.methodLink RL 97 yL_cell) := ⟨List.mem_append_right _ (List.mem_of_getElem? (i := 526) (by decide +kernel)), by decide +kernel⟩
theorem kc_L_change : Kw (.code yL_change cL_change 7 (some .boolean)) := ⟨List.mem_append_right _ (List.mem_of_getElem? (i := 532) (by decide +kernel)), by decide +kernel⟩
theorem ks_L_change : Kw (.static yL_change) := ⟨List.mem_append_right _ (List.mem_of_getElem? (i := 531) (by decide +kernel)), by decide +kernel⟩
theorem kb_L_change : SB yL_change cL_change 7 (some .boolean) 3 := ⟨⟨kI_RL, kc_L_change, ⟨by decide +kernel, by decide +kernel⟩, by decide +kernel⟩, ks_L_change⟩
theorem kM_RL_101 : Kw (.methodLink RL 101 yL_change) := ⟨List.mem_append_right _ (List.mem_of_getElem? (i := 530) (by decide +kernel)), by decide +kernel⟩
theorem kc_X6_loudness : Kw (.code yX6_loudness cX6_loudness 4 (some .float)) := ⟨List.mem_append_right _ (List.mem_of_getElem? (i := 520) (by decide +kernel)), by decide +kernel⟩
theorem ki_X6_loudness : Kw (.instanceMethod yX6_loudness) := ⟨List.mem_append_right _ (List.mem_of_getElem? (i := 518) (by decide +kernel)), by decide +kernel⟩
theorem kz_X6_loudness : Kw (.selects yX6_loudness.cls yX6_loudness yX6_loudness) := ⟨List.mem_append_right _ (List.mem_of_getElem? (i := 519) (by decide +kernel)), by decide +kernel⟩
theorem kb_X6_loudness : VB yX6_loudness cX6_loudness 4 (some .float) 0 := ⟨⟨kI_RX6, kc_X6_loudness, ⟨by decide +kernel, by decide +kernel⟩, by decide +kernel⟩, ki_X6_loudness, kz_X6_loudness⟩
theorem kM_RL_93 : Kw (.methodLink RL 93 yX6_loudness) := ⟨List.mem_append_right _ (List.mem_of_getElem? (i := 517) (by decide +kernel)), by decide +kernel⟩
