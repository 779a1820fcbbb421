theorem inK6 : ∀ w ∈ u_ws RX6 TX6 9, Kw w := fun w h => ⟨(by decide +kernel : ∀ w ∈ u_ws RX6 TX6 9, w ∈ lw_tbl) w h, (by decide +kernel : ∀ w ∈ u_ws RX6 TX6 9, goodWord w = true) w h⟩
theorem inK3 : ∀ w ∈ u_ws RX3 TX3 2, Kw w := fun w h => ⟨(by decide +kernel : ∀ w ∈ u_ws RX3 TX3 2, w ∈ lw_tbl) w h, (by decide +kernel : ∀ w ∈ u_ws RX3 TX3 2, goodWord w = true) w h⟩
theorem inK0 : ∀ w ∈ u_ws RX0 TX0 10, Kw w := fun w h => ⟨(by decide +kernel : ∀ w ∈ u_ws RX0 TX0 10, w ∈ lw_tbl) w h, (by decide +kernel : ∀ w ∈ u_ws RX0 TX0 10, goodWord w = true) w h⟩
theorem inK1 : ∀ w ∈ u_ws RX1 TX1 1, Kw w := fun w h => ⟨(by decide +kernel : ∀ w ∈ u_ws RX1 TX1 1, w ∈ lw_tbl) w h, (by decide +kernel : ∀ w ∈ u_ws RX1 TX1 1, goodWord w = true) w h⟩
theorem inK4 : ∀ w ∈ u_ws RX4 TX4 11, Kw w := fun w h => ⟨(by decide +kernel : ∀ w ∈ u_ws RX4 TX4 11, w ∈ lw_tbl) w h, (by decide +kernel : ∀ w ∈ u_ws RX4 TX4 11, goodWord w = true) w h⟩
theorem inK5 : ∀ w ∈ u_ws RX5 TX5 2, Kw w := fun w h => ⟨(by decide +kernel : ∀ w ∈ u_ws RX5 TX5 2, w ∈ lw_tbl) w h, (by decide +kernel : ∀ w ∈ u_ws RX5 TX5 2, goodWord w = true) w h⟩
theorem inK2 : ∀ w ∈ u_ws RX2 TX2 4, Kw w := fun w h => ⟨(by decide +kernel : ∀ w ∈ u_ws RX2 TX2 4, w ∈ lw_tbl) w h, (by decide +kernel : ∀ w ∈ u_ws RX2 TX2 4, goodWord w = true) w h⟩
theorem inK7 : ∀ w ∈ u_ws RX7 TX7 20, Kw w := fun w h => ⟨(by decide +kernel : ∀ w ∈ u_ws RX7 TX7 20, w ∈ lw_tbl) w h, (by decide +kernel : ∀ w ∈ u_ws RX7 TX7 20, goodWord w = true) w h⟩
theorem kF_RX0_87 : Kw (.fieldLink RX0 87 "SteppedSamples$BlockText" "digits" "I") := ⟨List.mem_append_right _ (List.mem_of_getElem? (i := 137) (by decide +kernel)), by decide +kernel⟩
theorem kF_RX0_84 : Kw (.fieldLink RX0 84 "SteppedSamples$BlockText" "hasDigit" "Z") := ⟨List.mem_append_right _ (List.mem_of_getElem? (i := 136) (by decide +kernel)), by decide +kernel⟩
theorem kF_RX0_18 : Kw (.fieldLink RX0 18 "SteppedSamples$BlockText" "length" "I") := ⟨List.mem_append_right _ (List.mem_of_getElem? (i := 124) (by decide +kernel)), by decide +kernel⟩
theorem kI_RX0 : Kw (.initialized RX0) := ⟨List.mem_append_right _ (List.mem_of_getElem? (i := 4) (by decide +kernel)), by decide +kernel⟩
theorem kc_X0_isFull : Kw (.code yX0_isFull cX0_isFull 1 (some .boolean)) := ⟨List.mem_append_right _ (List.mem_of_getElem? (i := 722) (by decide +kernel)), by decide +kernel⟩
theorem ki_X0_isFull : Kw (.instanceMethod yX0_isFull) := ⟨List.mem_append_right _ (List.mem_of_getElem? (i := 720) (by decide +kernel)), by decide +kernel⟩
theorem kz_X0_isFull : Kw (.selects yX0_isFull.cls yX0_isFull yX0_isFull) := ⟨List.mem_append_right _ (List.mem_of_getElem? (i := 721) (by decide +kernel)), by decide +kernel⟩
theorem kb_X0_isFull : VB yX0_isFull cX0_isFull 1 (some .boolean) 0 := ⟨⟨kI_RX0, kc_X0_isFull, ⟨by decide +kernel, by decide +kernel⟩, by decide +kernel⟩, ki_X0_isFull, kz_X0_isFull⟩
theorem kM_RX0_22 : Kw (.methodLink RX0 22 yX0_isFull) := ⟨List.mem_append_right _ (List.mem_of_getElem? (i := 728) (by decide +kernel)), by decide +kernel⟩
theorem kF_RX0_9 : Kw (.fieldLink RX0 9 "SteppedSamples$BlockText" "signs" "[I") := ⟨List.mem_append_right _ (List.mem_of_getElem? (i := 122) (by decide +kernel)), by decide +kernel⟩
theorem kc_X0_put : Kw (.code yX0_put cX0_put 2 none) := ⟨List.mem_append_right _ (List.mem_of_getElem? (i := 727) (by decide +kernel)), by decide +kernel⟩
theorem ki_X0_put : Kw (.instanceMethod yX0_put) := ⟨List.mem_append_right _ (List.mem_of_getElem? (i := 725) (by decide +kernel)), by decide +kernel⟩
theorem kz_X0_put : Kw (.selects yX0_put.cls yX0_put yX0_put) := ⟨List.mem_append_right _ (List.mem_of_getElem? (i := 726) (by decide +kernel)), by decide +kernel⟩
theorem kb_X0_put : VB yX0_put cX0_put 2 none 1 := ⟨⟨kI_RX0, kc_X0_put, ⟨by decide +kernel, by decide +kernel⟩, by decide +kernel⟩, ki_X0_put, kz_X0_put⟩
theorem kM_RX0_35 : Kw (.methodLink RX0 35 yX0_put) := ⟨List.mem_append_right _ (List.mem_of_getElem? (i := 767) (by decide +kernel)), by decide +kernel⟩
theorem kMs_abs : Kw (.static Lib.Math.abs.name) := ⟨List.mem_append_right _ (List.mem_of_getElem? (i := 307) (by decide +kernel)), by decide +kernel⟩
theorem kMi : Kw (.initialized "java/lang/Math") := ⟨List.mem_append_right _ (List.mem_of_getElem? (i := 13) (by decide +kernel)), by decide +kernel⟩
theorem kMc_abs : Kw (.code Lib.Math.abs.name Lib.Math.abs.code 1 (some .int)) := ⟨List.mem_append_right _ (List.mem_of_getElem? (i := 308) (by decide +kernel)), by decide +kernel⟩
theorem kM_RX0_49 : Kw (.methodLink RX0 49 Lib.Math.abs.name) := ⟨List.mem_append_right _ (List.mem_of_getElem? (i := 768) (by decide +kernel)), by decide +kernel⟩
theorem kF_RX0_61 : Kw (.fieldLink RX0 61 "SteppedSamples$BlockText" "negative" "Z") := ⟨List.mem_append_right _ (List.mem_of_getElem? (i := 135) (by decide +kernel)), by decide +kernel⟩
theorem kc_X0_readsDigit : Kw (.code yX0_readsDigit cX0_readsDigit 5 (some .boolean)) := ⟨List.mem_append_right _ (List.mem_of_getElem? (i := 355) (by decide +kernel)), by decide +kernel⟩
theorem ki_X0_readsDigit : Kw (.instanceMethod yX0_readsDigit) := ⟨List.mem_append_right _ (List.mem_of_getElem? (i := 354) (by decide +kernel)), by decide +kernel⟩
theorem kz_X0_readsDigit : Kw (.selects yX0_readsDigit.cls yX0_readsDigit yX0_readsDigit) := ⟨List.mem_append_left _ (List.mem_of_getElem? (i := 6) (by decide +kernel)), by decide +kernel⟩
theorem kb_X0_readsDigit : VB yX0_readsDigit cX0_readsDigit 5 (some .boolean) 2 := ⟨⟨kI_RX0, kc_X0_readsDigit, ⟨by decide +kernel, by decide +kernel⟩, by decide +kernel⟩, ki_X0_readsDigit, kz_X0_readsDigit⟩
theorem kM_RX0_93 : Kw (.methodLink RX0 93 yX0_readsDigit) := ⟨List.mem_append_right _ (List.mem_of_getElem? (i := 352) (by decide +kernel)), by decide +kernel⟩
theorem kF_RX0_90 : Kw (.fieldLink RX0 90 "SteppedSamples$BlockText" "first" "I") := ⟨List.mem_append_right _ (List.mem_of_getElem? (i := 126) (by decide +kernel)), by decide +kernel⟩
theorem kF_RX0_58 : Kw (.fieldLink RX0 58 "SteppedSamples$BlockText" "part" "I") := ⟨List.mem_append_right _ (List.mem_of_getElem? (i := 134) (by decide +kernel)), by decide +kernel⟩
theorem kc_X0_beginDigits : Kw (.code yX0_beginDigits cX0_beginDigits 1 none) := ⟨List.mem_append_right _ (List.mem_of_getElem? (i := 343) (by decide +kernel)), by decide +kernel⟩
theorem ki_X0_beginDigits : Kw (.instanceMethod yX0_beginDigits) := ⟨List.mem_append_right _ (List.mem_of_getElem? (i := 342) (by decide +kernel)), by decide +kernel⟩
theorem kz_X0_beginDigits : Kw (.selects yX0_beginDigits.cls yX0_beginDigits yX0_beginDigits) := ⟨List.mem_append_left _ (List.mem_of_getElem? (i := 3) (by decide +kernel)), by decide +kernel⟩
theorem kb_X0_beginDigits : VB yX0_beginDigits cX0_beginDigits 1 none 0 := ⟨⟨kI_RX0, kc_X0_beginDigits, ⟨by decide +kernel, by decide +kernel⟩, by decide +kernel⟩, ki_X0_beginDigits, kz_X0_beginDigits⟩
theorem kM_RX0_68 : Kw (.methodLink RX0 68 yX0_beginDigits) := ⟨List.mem_append_right _ (List.mem_of_getElem? (i := 340) (by decide +kernel)), by decide +kernel⟩
theorem kF_RX0_97 : Kw (.fieldLink RX0 97 "SteppedSamples$BlockText" "number" "I") := ⟨List.mem_append_right _ (List.mem_of_getElem? (i := 128) (by decide +kernel)), by decide +kernel⟩
theorem kF_RX0_65 : Kw (.fieldLink RX0 65 "SteppedSamples$BlockText" "codeCount" "I") := ⟨List.mem_append_right _ (List.mem_of_getElem? (i := 132) (by decide +kernel)), by decide +kernel⟩
theorem kF_RX0_15 : Kw (.fieldLink RX0 15 "SteppedSamples$BlockText" "codes" "[I") := ⟨List.mem_append_right _ (List.mem_of_getElem? (i := 130) (by decide +kernel)), by decide +kernel⟩
theorem kc_X0_readsFirst : Kw (.code yX0_readsFirst cX0_readsFirst 3 (some .boolean)) := ⟨List.mem_append_right _ (List.mem_of_getElem? (i := 351) (by decide +kernel)), by decide +kernel⟩
theorem ki_X0_readsFirst : Kw (.instanceMethod yX0_readsFirst) := ⟨List.mem_append_right _ (List.mem_of_getElem? (i := 350) (by decide +kernel)), by decide +kernel⟩
theorem kz_X0_readsFirst : Kw (.selects yX0_readsFirst.cls yX0_readsFirst yX0_readsFirst) := ⟨List.mem_append_left _ (List.mem_of_getElem? (i := 5) (by decide +kernel)), by decide +kernel⟩
theorem kb_X0_readsFirst : VB yX0_readsFirst cX0_readsFirst 3 (some .boolean) 1 := ⟨⟨kI_RX0, kc_X0_readsFirst, ⟨by decide +kernel, by decide +kernel⟩, by decide +kernel⟩, ki_X0_readsFirst, kz_X0_readsFirst⟩
theorem kM_RX0_75 : Kw (.methodLink RX0 75 yX0_readsFirst) := ⟨List.mem_append_right _ (List.mem_of_getElem? (i := 348) (by decide +kernel)), by decide +kernel⟩
theorem kc_X0_readsNumber : Kw (.code yX0_readsNumber cX0_readsNumber 2 (some .boolean)) := ⟨List.mem_append_right _ (List.mem_of_getElem? (i := 359) (by decide +kernel)), by decide +kernel⟩
theorem ki_X0_readsNumber : Kw (.instanceMethod yX0_readsNumber) := ⟨List.mem_append_right _ (List.mem_of_getElem? (i := 358) (by decide +kernel)), by decide +kernel⟩
theorem kz_X0_readsNumber : Kw (.selects yX0_readsNumber.cls yX0_readsNumber yX0_readsNumber) := ⟨List.mem_append_left _ (List.mem_of_getElem? (i := 7) (by decide +kernel)), by decide +kernel⟩
theorem kb_X0_readsNumber : VB yX0_readsNumber cX0_readsNumber 2 (some .boolean) 1 := ⟨⟨kI_RX0, kc_X0_readsNumber, ⟨by decide +kernel, by decide +kernel⟩, by decide +kernel⟩, ki_X0_readsNumber, kz_X0_readsNumber⟩
theorem kM_RX0_78 : Kw (.methodLink RX0 78 yX0_readsNumber) := ⟨List.mem_append_right _ (List.mem_of_getElem? (i := 356) (by decide +kernel)), by decide +kernel⟩
theorem kc_X0_readsCode : Kw (.code yX0_readsCode cX0_readsCode 3 (some .boolean)) := ⟨List.mem_append_right _ (List.mem_of_getElem? (i := 363) (by decide +kernel)), by decide +kernel⟩
theorem ki_X0_readsCode : Kw (.instanceMethod yX0_readsCode) := ⟨List.mem_append_right _ (List.mem_of_getElem? (i := 362) (by decide +kernel)), by decide +kernel⟩
theorem kz_X0_readsCode : Kw (.selects yX0_readsCode.cls yX0_readsCode yX0_readsCode) := ⟨List.mem_append_left _ (List.mem_of_getElem? (i := 8) (by decide +kernel)), by decide +kernel⟩
theorem kb_X0_readsCode : VB yX0_readsCode cX0_readsCode 3 (some .boolean) 1 := ⟨⟨kI_RX0, kc_X0_readsCode, ⟨by decide +kernel, by decide +kernel⟩, by decide +kernel⟩, ki_X0_readsCode, kz_X0_readsCode⟩
theorem kM_RX0_81 : Kw (.methodLink RX0 81 yX0_readsCode) := ⟨List.mem_append_right _ (List.mem_of_getElem? (i := 360) (by decide +kernel)), by decide +kernel⟩
theorem kc_X0_readsOn : Kw (.code yX0_readsOn cX0_readsOn 2 (some .boolean)) := ⟨List.mem_append_right _ (List.mem_of_getElem? (i := 347) (by decide +kernel)), by decide +kernel⟩
theorem ki_X0_readsOn : Kw (.instanceMethod yX0_readsOn) := ⟨List.mem_append_right _ (List.mem_of_getElem? (i := 346) (by decide +kernel)), by decide +kernel⟩
theorem kz_X0_readsOn : Kw (.selects yX0_readsOn.cls yX0_readsOn yX0_readsOn) := ⟨List.mem_append_left _ (List.mem_of_getElem? (i := 4) (by decide +kernel)), by decide +kernel⟩
theorem kb_X0_readsOn : VB yX0_readsOn cX0_readsOn 2 (some .boolean) 1 := ⟨⟨kI_RX0, kc_X0_readsOn, ⟨by decide +kernel, by decide +kernel⟩, by decide +kernel⟩, ki_X0_readsOn, kz_X0_readsOn⟩
theorem kM_RX0_71 : Kw (.methodLink RX0 71 yX0_readsOn) := ⟨List.mem_append_right _ (List.mem_of_getElem? (i := 344) (by decide +kernel)), by decide +kernel⟩
theorem kF_RX4_19 : Kw (.fieldLink RX4 19 "SteppedSamples$State" "settings" "[I") := ⟨List.mem_append_right _ (List.mem_of_getElem? (i := 39) (by decide +kernel)), by decide +kernel⟩
theorem kF_RX4_9 : Kw (.fieldLink RX4 9 "SteppedSamples$State" "many" "I") := ⟨List.mem_append_right _ (List.mem_of_getElem? (i := 31) (by decide +kernel)), by decide +kernel⟩
theorem kI_RX4 : Kw (.initialized RX4) := ⟨List.mem_append_right _ (List.mem_of_getElem? (i := 2) (by decide +kernel)), by decide +kernel⟩
theorem kc_X4_startOf : Kw (.code yX4_startOf cX4_startOf 2 (some .int)) := ⟨List.mem_append_right _ (List.mem_of_getElem? (i := 278) (by decide +kernel)), by decide +kernel⟩
theorem ki_X4_startOf : Kw (.instanceMethod yX4_startOf) := ⟨List.mem_append_right _ (List.mem_of_getElem? (i := 276) (by decide +kernel)), by decide +kernel⟩
theorem kz_X4_startOf : Kw (.selects yX4_startOf.cls yX4_startOf yX4_startOf) := ⟨List.mem_append_right _ (List.mem_of_getElem? (i := 277) (by decide +kernel)), by decide +kernel⟩
theorem kb_X4_startOf : VB yX4_startOf cX4_startOf 2 (some .int) 1 := ⟨⟨kI_RX4, kc_X4_startOf, ⟨by decide +kernel, by decide +kernel⟩, by decide +kernel⟩, ki_X4_startOf, kz_X4_startOf⟩
theorem kM_RX4_62 : Kw (.methodLink RX4 62 yX4_startOf) := ⟨List.mem_append_right _ (List.mem_of_getElem? (i := 283) (by decide +kernel)), by decide +kernel⟩
theorem kMs_min : Kw (.static Lib.Math.min.name) := ⟨List.mem_append_right _ (List.mem_of_getElem? (i := 266) (by decide +kernel)), by decide +kernel⟩
theorem kMc_min : Kw (.code Lib.Math.min.name Lib.Math.min.code 2 (some .int)) := ⟨List.mem_append_right _ (List.mem_of_getElem? (i := 267) (by decide +kernel)), by decide +kernel⟩
theorem kM_RX4_66 : Kw (.methodLink RX4 66 Lib.Math.min.name) := ⟨List.mem_append_right _ (List.mem_of_getElem? (i := 284) (by decide +kernel)), by decide +kernel⟩
theorem kc_X4_endOf : Kw (.code yX4_endOf cX4_endOf 2 (some .int)) := ⟨List.mem_append_right _ (List.mem_of_getElem? (i := 282) (by decide +kernel)), by decide +kernel⟩
theorem ki_X4_endOf : Kw (.instanceMethod yX4_endOf) := ⟨List.mem_append_right _ (List.mem_of_getElem? (i := 280) (by decide +kernel)), by decide +kernel⟩
theorem kz_X4_endOf : Kw (.selects yX4_endOf.cls yX4_endOf yX4_endOf) := ⟨List.mem_append_right _ (List.mem_of_getElem? (i := 281) (by decide +kernel)), by decide +kernel⟩
theorem kb_X4_endOf : VB yX4_endOf cX4_endOf 2 (some .int) 1 := ⟨⟨kI_RX4, kc_X4_endOf, ⟨by decide +kernel, by decide +kernel⟩, by decide +kernel⟩, ki_X4_endOf, kz_X4_endOf⟩
theorem kM_RX0_45 : Kw (.methodLink RX0 45 yX4_endOf) := ⟨List.mem_append_right _ (List.mem_of_getElem? (i := 770) (by decide +kernel)), by decide +kernel⟩
theorem kF_RX0_48 : Kw (.fieldLink RX0 48 "SteppedSamples$State" "codes" "[I") := ⟨List.mem_append_right _ (List.mem_of_getElem? (i := 64) (by decide +kernel)), by decide +kernel⟩
theorem kF_RX0_26 : Kw (.fieldLink RX0 26 "SteppedSamples$State" "firsts" "[I") := ⟨List.mem_append_right _ (List.mem_of_getElem? (i := 50) (by decide +kernel)), by decide +kernel⟩
theorem kc_X0_putNumber : Kw (.code yX0_putNumber cX0_putNumber 4 none) := ⟨List.mem_append_right _ (List.mem_of_getElem? (i := 766) (by decide +kernel)), by decide +kernel⟩
theorem ki_X0_putNumber : Kw (.instanceMethod yX0_putNumber) := ⟨List.mem_append_right _ (List.mem_of_getElem? (i := 765) (by decide +kernel)), by decide +kernel⟩
theorem kz_X0_putNumber : Kw (.selects yX0_putNumber.cls yX0_putNumber yX0_putNumber) := ⟨List.mem_append_left _ (List.mem_of_getElem? (i := 22) (by decide +kernel)), by decide +kernel⟩
theorem kb_X0_putNumber : VB yX0_putNumber cX0_putNumber 4 none 1 := ⟨⟨kI_RX0, kc_X0_putNumber, ⟨by decide +kernel, by decide +kernel⟩, by decide +kernel⟩, ki_X0_putNumber, kz_X0_putNumber⟩
theorem kM_RX0_31 : Kw (.methodLink RX0 31 yX0_putNumber) := ⟨List.mem_append_right _ (List.mem_of_getElem? (i := 763) (by decide +kernel)), by decide +kernel⟩
theorem kF_RX0_38 : Kw (.fieldLink RX0 38 "SteppedSamples$State" "starts" "[I") := ⟨List.mem_append_right _ (List.mem_of_getElem? (i := 55) (by decide +kernel)), by decide +kernel⟩
theorem kM_RX0_41 : Kw (.methodLink RX0 41 yX4_startOf) := ⟨List.mem_append_right _ (List.mem_of_getElem? (i := 769) (by decide +kernel)), by decide +kernel⟩
theorem kc_X0_read : Kw (.code yX0_read cX0_read 2 (some .int)) := ⟨List.mem_append_right _ (List.mem_of_getElem? (i := 339) (by decide +kernel)), by decide +kernel⟩
theorem ki_X0_read : Kw (.instanceMethod yX0_read) := ⟨List.mem_append_right _ (List.mem_of_getElem? (i := 337) (by decide +kernel)), by decide +kernel⟩
theorem kz_X0_read : Kw (.selects yX0_read.cls yX0_read yX0_read) := ⟨List.mem_append_right _ (List.mem_of_getElem? (i := 338) (by decide +kernel)), by decide +kernel⟩
theorem kb_X0_read : VB yX0_read cX0_read 2 (some .int) 0 := ⟨⟨kI_RX0, kc_X0_read, ⟨by decide +kernel, by decide +kernel⟩, by decide +kernel⟩, ki_X0_read, kz_X0_read⟩
theorem kM_RX0_54 : Kw (.methodLink RX0 54 yX0_read) := ⟨List.mem_append_right _ (List.mem_of_getElem? (i := 740) (by decide +kernel)), by decide +kernel⟩
theorem kF_RX5_15 : Kw (.fieldLink RX5 15 "SteppedSamples$Walk" "guess" "I") := ⟨List.mem_append_right _ (List.mem_of_getElem? (i := 171) (by decide +kernel)), by decide +kernel⟩
theorem kF_RX5_19 : Kw (.fieldLink RX5 19 "SteppedSamples$Walk" "number" "I") := ⟨List.mem_append_right _ (List.mem_of_getElem? (i := 176) (by decide +kernel)), by decide +kernel⟩
theorem kF_RX5_9 : Kw (.fieldLink RX5 9 "SteppedSamples$Walk" "STEPS" "[I") := ⟨List.mem_append_right _ (List.mem_of_getElem? (i := 304) (by decide +kernel)), by decide +kernel⟩
theorem kI_RX5 : Kw (.initialized RX5) := ⟨List.mem_append_right _ (List.mem_of_getElem? (i := 6) (by decide +kernel)), by decide +kernel⟩
theorem kc_X5_stepOf : Kw (.code yX5_stepOf cX5_stepOf 1 (some .int)) := ⟨List.mem_append_right _ (List.mem_of_getElem? (i := 303) (by decide +kernel)), by decide +kernel⟩
theorem ks_X5_stepOf : Kw (.static yX5_stepOf) := ⟨List.mem_append_right _ (List.mem_of_getElem? (i := 302) (by decide +kernel)), by decide +kernel⟩
theorem kb_X5_stepOf : SB yX5_stepOf cX5_stepOf 1 (some .int) 1 := ⟨⟨kI_RX5, kc_X5_stepOf, ⟨by decide +kernel, by decide +kernel⟩, by decide +kernel⟩, ks_X5_stepOf⟩
theorem kM_RX5_22 : Kw (.methodLink RX5 22 yX5_stepOf) := ⟨List.mem_append_right _ (List.mem_of_getElem? (i := 301) (by decide +kernel)), by decide +kernel⟩
theorem kM_RX5_26 : Kw (.methodLink RX5 26 Lib.Math.abs.name) := ⟨List.mem_append_right _ (List.mem_of_getElem? (i := 306) (by decide +kernel)), by decide +kernel⟩
theorem kM_RX6_373 : Kw (.methodLink RX6 373 Lib.Math.min.name) := ⟨List.mem_append_right _ (List.mem_of_getElem? (i := 265) (by decide +kernel)), by decide +kernel⟩
theorem kMs_max : Kw (.static Lib.Math.max.name) := ⟨List.mem_append_right _ (List.mem_of_getElem? (i := 320) (by decide +kernel)), by decide +kernel⟩
theorem kMc_max : Kw (.code Lib.Math.max.name Lib.Math.max.code 2 (some .int)) := ⟨List.mem_append_right _ (List.mem_of_getElem? (i := 321) (by decide +kernel)), by decide +kernel⟩
theorem kM_RX6_379 : Kw (.methodLink RX6 379 Lib.Math.max.name) := ⟨List.mem_append_right _ (List.mem_of_getElem? (i := 319) (by decide +kernel)), by decide +kernel⟩
theorem kM_RX5_38 : Kw (.methodLink RX5 38 Lib.Math.min.name) := ⟨List.mem_append_right _ (List.mem_of_getElem? (i := 322) (by decide +kernel)), by decide +kernel⟩
theorem kM_RX5_41 : Kw (.methodLink RX5 41 Lib.Math.max.name) := ⟨List.mem_append_right _ (List.mem_of_getElem? (i := 323) (by decide +kernel)), by decide +kernel⟩
theorem kI_RX6 : Kw (.initialized RX6) := ⟨List.mem_append_right _ (List.mem_of_getElem? (i := 1) (by decide +kernel)), by decide +kernel⟩
theorem kc_X6_clip : Kw (.code yX6_clip cX6_clip 1 (some .int)) := ⟨List.mem_append_right _ (List.mem_of_getElem? (i := 318) (by decide +kernel)), by decide +kernel⟩
theorem ks_X6_clip : Kw (.static yX6_clip) := ⟨List.mem_append_right _ (List.mem_of_getElem? (i := 317) (by decide +kernel)), by decide +kernel⟩
theorem kb_X6_clip : SB yX6_clip cX6_clip 1 (some .int) 1 := ⟨⟨kI_RX6, kc_X6_clip, ⟨by decide +kernel, by decide +kernel⟩, by decide +kernel⟩, ks_X6_clip⟩
theorem kc_X5_changeBy : Kw (.code yX5_changeBy cX5_changeBy 3 (some .int)) := ⟨List.mem_append_right _ (List.mem_of_getElem? (i := 315) (by decide +kernel)), by decide +kernel⟩
theorem ks_X5_changeBy : Kw (.static yX5_changeBy) := ⟨List.mem_append_right _ (List.mem_of_getElem? (i := 314) (by decide +kernel)), by decide +kernel⟩
theorem kb_X5_changeBy : SB yX5_changeBy cX5_changeBy 3 (some .int) 2 := ⟨⟨kI_RX5, kc_X5_changeBy, ⟨by decide +kernel, by decide +kernel⟩, by decide +kernel⟩, ks_X5_changeBy⟩
theorem kM_RX5_31 : Kw (.methodLink RX5 31 yX5_changeBy) := ⟨List.mem_append_right _ (List.mem_of_getElem? (i := 313) (by decide +kernel)), by decide +kernel⟩
theorem kF_RX1_12 : Kw (.fieldLink RX1 12 "SteppedSamples$Coder" "walk" "LSteppedSamples$Walk;") := ⟨List.mem_append_right _ (List.mem_of_getElem? (i := 184) (by decide +kernel)), by decide +kernel⟩
theorem kF_RX1_52 : Kw (.fieldLink RX1 52 "SteppedSamples$State" "values" "[I") := ⟨List.mem_append_right _ (List.mem_of_getElem? (i := 36) (by decide +kernel)), by decide +kernel⟩
theorem kc_X5_codeTowards : Kw (.code yX5_codeTowards cX5_codeTowards 5 (some .int)) := ⟨List.mem_append_right _ (List.mem_of_getElem? (i := 300) (by decide +kernel)), by decide +kernel⟩
theorem ki_X5_codeTowards : Kw (.instanceMethod yX5_codeTowards) := ⟨List.mem_append_right _ (List.mem_of_getElem? (i := 298) (by decide +kernel)), by decide +kernel⟩
theorem kz_X5_codeTowards : Kw (.selects yX5_codeTowards.cls yX5_codeTowards yX5_codeTowards) := ⟨List.mem_append_right _ (List.mem_of_getElem? (i := 299) (by decide +kernel)), by decide +kernel⟩
theorem kb_X5_codeTowards : VB yX5_codeTowards cX5_codeTowards 5 (some .int) 1 := ⟨⟨kI_RX5, kc_X5_codeTowards, ⟨by decide +kernel, by decide +kernel⟩, by decide +kernel⟩, ki_X5_codeTowards, kz_X5_codeTowards⟩
theorem kM_RX1_75 : Kw (.methodLink RX1 75 yX5_codeTowards) := ⟨List.mem_append_right _ (List.mem_of_getElem? (i := 297) (by decide +kernel)), by decide +kernel⟩
theorem kc_X5_follow : Kw (.code yX5_follow cX5_follow 5 none) := ⟨List.mem_append_right _ (List.mem_of_getElem? (i := 312) (by decide +kernel)), by decide +kernel⟩
theorem ki_X5_follow : Kw (.instanceMethod yX5_follow) := ⟨List.mem_append_right _ (List.mem_of_getElem? (i := 310) (by decide +kernel)), by decide +kernel⟩
theorem kz_X5_follow : Kw (.selects yX5_follow.cls yX5_follow yX5_follow) := ⟨List.mem_append_right _ (List.mem_of_getElem? (i := 311) (by decide +kernel)), by decide +kernel⟩
theorem kb_X5_follow : VB yX5_follow cX5_follow 5 none 1 := ⟨⟨kI_RX5, kc_X5_follow, ⟨by decide +kernel, by decide +kernel⟩, by decide +kernel⟩, ki_X5_follow, kz_X5_follow⟩
theorem kM_RX1_78 : Kw (.methodLink RX1 78 yX5_follow) := ⟨List.mem_append_right _ (List.mem_of_getElem? (i := 309) (by decide +kernel)), by decide +kernel⟩
theorem kF_RX1_82 : Kw (.fieldLink RX1 82 "SteppedSamples$Walk" "guess" "I") := ⟨List.mem_append_right _ (List.mem_of_getElem? (i := 173) (by decide +kernel)), by decide +kernel⟩
theorem kc_X5_begin : Kw (.code yX5_begin cX5_begin 3 none) := ⟨List.mem_append_right _ (List.mem_of_getElem? (i := 296) (by decide +kernel)), by decide +kernel⟩
theorem ki_X5_begin : Kw (.instanceMethod yX5_begin) := ⟨List.mem_append_right _ (List.mem_of_getElem? (i := 294) (by decide +kernel)), by decide +kernel⟩
theorem kz_X5_begin : Kw (.selects yX5_begin.cls yX5_begin yX5_begin) := ⟨List.mem_append_right _ (List.mem_of_getElem? (i := 295) (by decide +kernel)), by decide +kernel⟩
theorem kb_X5_begin : VB yX5_begin cX5_begin 3 none 2 := ⟨⟨kI_RX5, kc_X5_begin, ⟨by decide +kernel, by decide +kernel⟩, by decide +kernel⟩, ki_X5_begin, kz_X5_begin⟩
theorem kM_RX1_71 : Kw (.methodLink RX1 71 yX5_begin) := ⟨List.mem_append_right _ (List.mem_of_getElem? (i := 293) (by decide +kernel)), by decide +kernel⟩
theorem kI_RX1 : Kw (.initialized RX1) := ⟨List.mem_append_right _ (List.mem_of_getElem? (i := 5) (by decide +kernel)), by decide +kernel⟩
theorem kc_X1_errorAsBlock : Kw (.code yX1_errorAsBlock cX1_errorAsBlock 8 (some .int)) := ⟨List.mem_append_right _ (List.mem_of_getElem? (i := 292) (by decide +kernel)), by decide +kernel⟩
theorem ki_X1_errorAsBlock : Kw (.instanceMethod yX1_errorAsBlock) := ⟨List.mem_append_right _ (List.mem_of_getElem? (i := 290) (by decide +kernel)), by decide +kernel⟩
theorem kz_X1_errorAsBlock : Kw (.selects yX1_errorAsBlock.cls yX1_errorAsBlock yX1_errorAsBlock) := ⟨List.mem_append_right _ (List.mem_of_getElem? (i := 291) (by decide +kernel)), by decide +kernel⟩
theorem kb_X1_errorAsBlock : VB yX1_errorAsBlock cX1_errorAsBlock 8 (some .int) 4 := ⟨⟨kI_RX1, kc_X1_errorAsBlock, ⟨by decide +kernel, by decide +kernel⟩, by decide +kernel⟩, ki_X1_errorAsBlock, kz_X1_errorAsBlock⟩
theorem kM_RX1_85 : Kw (.methodLink RX1 85 yX1_errorAsBlock) := ⟨List.mem_append_right _ (List.mem_of_getElem? (i := 289) (by decide +kernel)), by decide +kernel⟩
theorem kM_RX1_32 : Kw (.methodLink RX1 32 yX4_endOf) := ⟨List.mem_append_right _ (List.mem_of_getElem? (i := 279) (by decide +kernel)), by decide +kernel⟩
theorem kF_RX1_65 : Kw (.fieldLink RX1 65 "SteppedSamples$State" "codes" "[I") := ⟨List.mem_append_right _ (List.mem_of_getElem? (i := 62) (by decide +kernel)), by decide +kernel⟩
theorem kF_RX1_68 : Kw (.fieldLink RX1 68 "SteppedSamples$State" "guesses" "[I") := ⟨List.mem_append_right _ (List.mem_of_getElem? (i := 67) (by decide +kernel)), by decide +kernel⟩
theorem kM_RX1_18 : Kw (.methodLink RX1 18 yX4_startOf) := ⟨List.mem_append_right _ (List.mem_of_getElem? (i := 275) (by decide +kernel)), by decide +kernel⟩
theorem kF_RX1_55 : Kw (.fieldLink RX1 55 "SteppedSamples$State" "firsts" "[I") := ⟨List.mem_append_right _ (List.mem_of_getElem? (i := 49) (by decide +kernel)), by decide +kernel⟩
theorem kF_RX1_58 : Kw (.fieldLink RX1 58 "SteppedSamples$State" "starts" "[I") := ⟨List.mem_append_right _ (List.mem_of_getElem? (i := 54) (by decide +kernel)), by decide +kernel⟩
theorem kF_RX1_61 : Kw (.fieldLink RX1 61 "SteppedSamples$State" "lost" "[Z") := ⟨List.mem_append_right _ (List.mem_of_getElem? (i := 59) (by decide +kernel)), by decide +kernel⟩
theorem kF_RX1_46 : Kw (.fieldLink RX1 46 "SteppedSamples$State" "blocks" "I") := ⟨List.mem_append_right _ (List.mem_of_getElem? (i := 45) (by decide +kernel)), by decide +kernel⟩
theorem kF_RX1_49 : Kw (.fieldLink RX1 49 "SteppedSamples$State" "codings" "I") := ⟨List.mem_append_right _ (List.mem_of_getElem? (i := 70) (by decide +kernel)), by decide +kernel⟩
theorem kc_X1_codeBlock : Kw (.code yX1_codeBlock cX1_codeBlock 8 none) := ⟨List.mem_append_right _ (List.mem_of_getElem? (i := 327) (by decide +kernel)), by decide +kernel⟩
theorem ki_X1_codeBlock : Kw (.instanceMethod yX1_codeBlock) := ⟨List.mem_append_right _ (List.mem_of_getElem? (i := 326) (by decide +kernel)), by decide +kernel⟩
theorem kz_X1_codeBlock : Kw (.selects yX1_codeBlock.cls yX1_codeBlock yX1_codeBlock) := ⟨List.mem_append_left _ (List.mem_of_getElem? (i := 2) (by decide +kernel)), by decide +kernel⟩
theorem kb_X1_codeBlock : VB yX1_codeBlock cX1_codeBlock 8 none 3 := ⟨⟨kI_RX1, kc_X1_codeBlock, ⟨by decide +kernel, by decide +kernel⟩, by decide +kernel⟩, ki_X1_codeBlock, kz_X1_codeBlock⟩
theorem kM_RX1_39 : Kw (.methodLink RX1 39 yX1_codeBlock) := ⟨List.mem_append_right _ (List.mem_of_getElem? (i := 324) (by decide +kernel)), by decide +kernel⟩
theorem kF_RX1_43 : Kw (.fieldLink RX1 43 "SteppedSamples$Walk" "number" "I") := ⟨List.mem_append_right _ (List.mem_of_getElem? (i := 175) (by decide +kernel)), by decide +kernel⟩
theorem kF_RX1_24 : Kw (.fieldLink RX1 24 "SteppedSamples$State" "many" "I") := ⟨List.mem_append_right _ (List.mem_of_getElem? (i := 32) (by decide +kernel)), by decide +kernel⟩
theorem kF_RX1_28 : Kw (.fieldLink RX1 28 "SteppedSamples$State" "settings" "[I") := ⟨List.mem_append_right _ (List.mem_of_getElem? (i := 40) (by decide +kernel)), by decide +kernel⟩
theorem kc_X1_bestStart : Kw (.code yX1_bestStart cX1_bestStart 8 (some .int)) := ⟨List.mem_append_right _ (List.mem_of_getElem? (i := 288) (by decide +kernel)), by decide +kernel⟩
theorem ki_X1_bestStart : Kw (.instanceMethod yX1_bestStart) := ⟨List.mem_append_right _ (List.mem_of_getElem? (i := 286) (by decide +kernel)), by decide +kernel⟩
theorem kz_X1_bestStart : Kw (.selects yX1_bestStart.cls yX1_bestStart yX1_bestStart) := ⟨List.mem_append_right _ (List.mem_of_getElem? (i := 287) (by decide +kernel)), by decide +kernel⟩
theorem kb_X1_bestStart : VB yX1_bestStart cX1_bestStart 8 (some .int) 3 := ⟨⟨kI_RX1, kc_X1_bestStart, ⟨by decide +kernel, by decide +kernel⟩, by decide +kernel⟩, ki_X1_bestStart, kz_X1_bestStart⟩
theorem kM_RX1_35 : Kw (.methodLink RX1 35 yX1_bestStart) := ⟨List.mem_append_right _ (List.mem_of_getElem? (i := 285) (by decide +kernel)), by decide +kernel⟩
theorem kF_RX2_80 : Kw (.fieldLink RX2 80 "SteppedSamples$State" "settings" "[I") := ⟨List.mem_append_right _ (List.mem_of_getElem? (i := 41) (by decide +kernel)), by decide +kernel⟩
theorem kF_RX2_9 : Kw (.fieldLink RX2 9 "SteppedSamples$Decoder" "made" "[I") := ⟨List.mem_append_right _ (List.mem_of_getElem? (i := 196) (by decide +kernel)), by decide +kernel⟩
theorem kM_RX2_46 : Kw (.methodLink RX2 46 yX4_startOf) := ⟨List.mem_append_right _ (List.mem_of_getElem? (i := 384) (by decide +kernel)), by decide +kernel⟩
theorem kM_RX2_60 : Kw (.methodLink RX2 60 yX4_endOf) := ⟨List.mem_append_right _ (List.mem_of_getElem? (i := 385) (by decide +kernel)), by decide +kernel⟩
theorem kI_RX2 : Kw (.initialized RX2) := ⟨List.mem_append_right _ (List.mem_of_getElem? (i := 7) (by decide +kernel)), by decide +kernel⟩
theorem kc_X2_fillingOf : Kw (.code yX2_fillingOf cX2_fillingOf 5 (some .int)) := ⟨List.mem_append_right _ (List.mem_of_getElem? (i := 389) (by decide +kernel)), by decide +kernel⟩
theorem ki_X2_fillingOf : Kw (.instanceMethod yX2_fillingOf) := ⟨List.mem_append_right _ (List.mem_of_getElem? (i := 388) (by decide +kernel)), by decide +kernel⟩
theorem kz_X2_fillingOf : Kw (.selects yX2_fillingOf.cls yX2_fillingOf yX2_fillingOf) := ⟨List.mem_append_left _ (List.mem_of_getElem? (i := 11) (by decide +kernel)), by decide +kernel⟩
theorem kb_X2_fillingOf : VB yX2_fillingOf cX2_fillingOf 5 (some .int) 3 := ⟨⟨kI_RX2, kc_X2_fillingOf, ⟨by decide +kernel, by decide +kernel⟩, by decide +kernel⟩, ki_X2_fillingOf, kz_X2_fillingOf⟩
theorem kM_RX2_76 : Kw (.methodLink RX2 76 yX2_fillingOf) := ⟨List.mem_append_right _ (List.mem_of_getElem? (i := 386) (by decide +kernel)), by decide +kernel⟩
theorem kF_RX2_15 : Kw (.fieldLink RX2 15 "SteppedSamples$Decoder" "numbers" "[I") := ⟨List.mem_append_right _ (List.mem_of_getElem? (i := 198) (by decide +kernel)), by decide +kernel⟩
theorem kF_RX2_21 : Kw (.fieldLink RX2 21 "SteppedSamples$Decoder" "walk" "LSteppedSamples$Walk;") := ⟨List.mem_append_right _ (List.mem_of_getElem? (i := 200) (by decide +kernel)), by decide +kernel⟩
theorem kF_RX2_70 : Kw (.fieldLink RX2 70 "SteppedSamples$Walk" "guess" "I") := ⟨List.mem_append_right _ (List.mem_of_getElem? (i := 172) (by decide +kernel)), by decide +kernel⟩
theorem kF_RX2_73 : Kw (.fieldLink RX2 73 "SteppedSamples$Walk" "number" "I") := ⟨List.mem_append_right _ (List.mem_of_getElem? (i := 177) (by decide +kernel)), by decide +kernel⟩
theorem kF_RX2_63 : Kw (.fieldLink RX2 63 "SteppedSamples$State" "codes" "[I") := ⟨List.mem_append_right _ (List.mem_of_getElem? (i := 63) (by decide +kernel)), by decide +kernel⟩
theorem kM_RX2_66 : Kw (.methodLink RX2 66 yX5_follow) := ⟨List.mem_append_right _ (List.mem_of_getElem? (i := 395) (by decide +kernel)), by decide +kernel⟩
theorem kF_RX2_50 : Kw (.fieldLink RX2 50 "SteppedSamples$State" "firsts" "[I") := ⟨List.mem_append_right _ (List.mem_of_getElem? (i := 48) (by decide +kernel)), by decide +kernel⟩
theorem kF_RX2_53 : Kw (.fieldLink RX2 53 "SteppedSamples$State" "starts" "[I") := ⟨List.mem_append_right _ (List.mem_of_getElem? (i := 53) (by decide +kernel)), by decide +kernel⟩
theorem kM_RX2_56 : Kw (.methodLink RX2 56 yX5_begin) := ⟨List.mem_append_right _ (List.mem_of_getElem? (i := 394) (by decide +kernel)), by decide +kernel⟩
theorem kF_RX2_29 : Kw (.fieldLink RX2 29 "SteppedSamples$State" "blocks" "I") := ⟨List.mem_append_right _ (List.mem_of_getElem? (i := 44) (by decide +kernel)), by decide +kernel⟩
theorem kF_RX2_25 : Kw (.fieldLink RX2 25 "SteppedSamples$Decoder" "upToDate" "Z") := ⟨List.mem_append_right _ (List.mem_of_getElem? (i := 201) (by decide +kernel)), by decide +kernel⟩
theorem kF_RX2_35 : Kw (.fieldLink RX2 35 "SteppedSamples$State" "lost" "[Z") := ⟨List.mem_append_right _ (List.mem_of_getElem? (i := 58) (by decide +kernel)), by decide +kernel⟩
theorem kc_X2_decodeBlock : Kw (.code yX2_decodeBlock cX2_decodeBlock 5 none) := ⟨List.mem_append_right _ (List.mem_of_getElem? (i := 393) (by decide +kernel)), by decide +kernel⟩
theorem ki_X2_decodeBlock : Kw (.instanceMethod yX2_decodeBlock) := ⟨List.mem_append_right _ (List.mem_of_getElem? (i := 392) (by decide +kernel)), by decide +kernel⟩
theorem kz_X2_decodeBlock : Kw (.selects yX2_decodeBlock.cls yX2_decodeBlock yX2_decodeBlock) := ⟨List.mem_append_left _ (List.mem_of_getElem? (i := 12) (by decide +kernel)), by decide +kernel⟩
theorem kb_X2_decodeBlock : VB yX2_decodeBlock cX2_decodeBlock 5 none 2 := ⟨⟨kI_RX2, kc_X2_decodeBlock, ⟨by decide +kernel, by decide +kernel⟩, by decide +kernel⟩, ki_X2_decodeBlock, kz_X2_decodeBlock⟩
theorem kM_RX2_43 : Kw (.methodLink RX2 43 yX2_decodeBlock) := ⟨List.mem_append_right _ (List.mem_of_getElem? (i := 390) (by decide +kernel)), by decide +kernel⟩
theorem kc_X2_fillBlock : Kw (.code yX2_fillBlock cX2_fillBlock 4 none) := ⟨List.mem_append_right _ (List.mem_of_getElem? (i := 383) (by decide +kernel)), by decide +kernel⟩
theorem ki_X2_fillBlock : Kw (.instanceMethod yX2_fillBlock) := ⟨List.mem_append_right _ (List.mem_of_getElem? (i := 382) (by decide +kernel)), by decide +kernel⟩
theorem kz_X2_fillBlock : Kw (.selects yX2_fillBlock.cls yX2_fillBlock yX2_fillBlock) := ⟨List.mem_append_left _ (List.mem_of_getElem? (i := 10) (by decide +kernel)), by decide +kernel⟩
theorem kb_X2_fillBlock : VB yX2_fillBlock cX2_fillBlock 4 none 2 := ⟨⟨kI_RX2, kc_X2_fillBlock, ⟨by decide +kernel, by decide +kernel⟩, by decide +kernel⟩, ki_X2_fillBlock, kz_X2_fillBlock⟩
theorem kM_RX2_39 : Kw (.methodLink RX2 39 yX2_fillBlock) := ⟨List.mem_append_right _ (List.mem_of_getElem? (i := 380) (by decide +kernel)), by decide +kernel⟩
theorem kF_RX2_83 : Kw (.fieldLink RX2 83 "SteppedSamples$State" "values" "[I") := ⟨List.mem_append_right _ (List.mem_of_getElem? (i := 38) (by decide +kernel)), by decide +kernel⟩
theorem kF_RX2_86 : Kw (.fieldLink RX2 86 "SteppedSamples$State" "many" "I") := ⟨List.mem_append_right _ (List.mem_of_getElem? (i := 34) (by decide +kernel)), by decide +kernel⟩
theorem kM_RX2_89 : Kw (.methodLink RX2 89 Lib.Math.abs.name) := ⟨List.mem_append_right _ (List.mem_of_getElem? (i := 500) (by decide +kernel)), by decide +kernel⟩
theorem kM_RX2_94 : Kw (.methodLink RX2 94 Lib.Math.max.name) := ⟨List.mem_append_right _ (List.mem_of_getElem? (i := 501) (by decide +kernel)), by decide +kernel⟩
theorem kF_RX3_12 : Kw (.fieldLink RX3 12 "SteppedSamples$History" "saved" "[LSteppedSamples$State;") := ⟨List.mem_append_right _ (List.mem_of_getElem? (i := 108) (by decide +kernel)), by decide +kernel⟩
theorem kF_RX3_18 : Kw (.fieldLink RX3 18 "SteppedSamples$History" "many" "I") := ⟨List.mem_append_right _ (List.mem_of_getElem? (i := 109) (by decide +kernel)), by decide +kernel⟩
theorem kF_RX4_28 : Kw (.fieldLink RX4 28 "SteppedSamples$State" "lost" "[Z") := ⟨List.mem_append_right _ (List.mem_of_getElem? (i := 57) (by decide +kernel)), by decide +kernel⟩
theorem kF_RX4_38 : Kw (.fieldLink RX4 38 "SteppedSamples$State" "blocks" "I") := ⟨List.mem_append_right _ (List.mem_of_getElem? (i := 43) (by decide +kernel)), by decide +kernel⟩
theorem kF_RX4_41 : Kw (.fieldLink RX4 41 "SteppedSamples$State" "codings" "I") := ⟨List.mem_append_right _ (List.mem_of_getElem? (i := 69) (by decide +kernel)), by decide +kernel⟩
theorem kF_RX4_44 : Kw (.fieldLink RX4 44 "SteppedSamples$State" "turned" "I") := ⟨List.mem_append_right _ (List.mem_of_getElem? (i := 72) (by decide +kernel)), by decide +kernel⟩
theorem kF_RX4_15 : Kw (.fieldLink RX4 15 "SteppedSamples$State" "values" "[I") := ⟨List.mem_append_right _ (List.mem_of_getElem? (i := 35) (by decide +kernel)), by decide +kernel⟩
theorem kc_X6_copyRow : Kw (.code yX6_copyRow cX6_copyRow 2 none) := ⟨List.mem_append_right _ (List.mem_of_getElem? (i := 264) (by decide +kernel)), by decide +kernel⟩
theorem ks_X6_copyRow : Kw (.static yX6_copyRow) := ⟨List.mem_append_right _ (List.mem_of_getElem? (i := 263) (by decide +kernel)), by decide +kernel⟩
theorem kb_X6_copyRow : SB yX6_copyRow cX6_copyRow 2 none 2 := ⟨⟨kI_RX6, kc_X6_copyRow, ⟨by decide +kernel, by decide +kernel⟩, by decide +kernel⟩, ks_X6_copyRow⟩
theorem kF_RX4_22 : Kw (.fieldLink RX4 22 "SteppedSamples$State" "firsts" "[I") := ⟨List.mem_append_right _ (List.mem_of_getElem? (i := 47) (by decide +kernel)), by decide +kernel⟩
theorem kF_RX4_25 : Kw (.fieldLink RX4 25 "SteppedSamples$State" "starts" "[I") := ⟨List.mem_append_right _ (List.mem_of_getElem? (i := 52) (by decide +kernel)), by decide +kernel⟩
theorem kF_RX4_32 : Kw (.fieldLink RX4 32 "SteppedSamples$State" "codes" "[I") := ⟨List.mem_append_right _ (List.mem_of_getElem? (i := 61) (by decide +kernel)), by decide +kernel⟩
theorem kF_RX4_35 : Kw (.fieldLink RX4 35 "SteppedSamples$State" "guesses" "[I") := ⟨List.mem_append_right _ (List.mem_of_getElem? (i := 66) (by decide +kernel)), by decide +kernel⟩
theorem kc_X4_copyFrom : Kw (.code yX4_copyFrom cX4_copyFrom 3 none) := ⟨List.mem_append_right _ (List.mem_of_getElem? (i := 261) (by decide +kernel)), by decide +kernel⟩
theorem ki_X4_copyFrom : Kw (.instanceMethod yX4_copyFrom) := ⟨List.mem_append_right _ (List.mem_of_getElem? (i := 259) (by decide +kernel)), by decide +kernel⟩
theorem kz_X4_copyFrom : Kw (.selects yX4_copyFrom.cls yX4_copyFrom yX4_copyFrom) := ⟨List.mem_append_right _ (List.mem_of_getElem? (i := 260) (by decide +kernel)), by decide +kernel⟩
theorem kb_X4_copyFrom : VB yX4_copyFrom cX4_copyFrom 3 none 1 := ⟨⟨kI_RX4, kc_X4_copyFrom, ⟨by decide +kernel, by decide +kernel⟩, by decide +kernel⟩, ki_X4_copyFrom, kz_X4_copyFrom⟩
theorem kM_RX3_25 : Kw (.methodLink RX3 25 yX4_copyFrom) := ⟨List.mem_append_right _ (List.mem_of_getElem? (i := 258) (by decide +kernel)), by decide +kernel⟩
theorem kI_RX3 : Kw (.initialized RX3) := ⟨List.mem_append_right _ (List.mem_of_getElem? (i := 3) (by decide +kernel)), by decide +kernel⟩
theorem kc_X3_dropOldest : Kw (.code yX3_dropOldest cX3_dropOldest 3 none) := ⟨List.mem_append_right _ (List.mem_of_getElem? (i := 257) (by decide +kernel)), by decide +kernel⟩
theorem ki_X3_dropOldest : Kw (.instanceMethod yX3_dropOldest) := ⟨List.mem_append_right _ (List.mem_of_getElem? (i := 256) (by decide +kernel)), by decide +kernel⟩
theorem kz_X3_dropOldest : Kw (.selects yX3_dropOldest.cls yX3_dropOldest yX3_dropOldest) := ⟨List.mem_append_left _ (List.mem_of_getElem? (i := 1) (by decide +kernel)), by decide +kernel⟩
theorem kb_X3_dropOldest : VB yX3_dropOldest cX3_dropOldest 3 none 0 := ⟨⟨kI_RX3, kc_X3_dropOldest, ⟨by decide +kernel, by decide +kernel⟩, by decide +kernel⟩, ki_X3_dropOldest, kz_X3_dropOldest⟩
theorem kM_RX3_22 : Kw (.methodLink RX3 22 yX3_dropOldest) := ⟨List.mem_append_right _ (List.mem_of_getElem? (i := 254) (by decide +kernel)), by decide +kernel⟩
theorem kc_X4_forgetBlocks : Kw (.code yX4_forgetBlocks cX4_forgetBlocks 1 none) := ⟨List.mem_append_right _ (List.mem_of_getElem? (i := 625) (by decide +kernel)), by decide +kernel⟩
theorem ki_X4_forgetBlocks : Kw (.instanceMethod yX4_forgetBlocks) := ⟨List.mem_append_right _ (List.mem_of_getElem? (i := 623) (by decide +kernel)), by decide +kernel⟩
theorem kz_X4_forgetBlocks : Kw (.selects yX4_forgetBlocks.cls yX4_forgetBlocks yX4_forgetBlocks) := ⟨List.mem_append_right _ (List.mem_of_getElem? (i := 624) (by decide +kernel)), by decide +kernel⟩
theorem kb_X4_forgetBlocks : VB yX4_forgetBlocks cX4_forgetBlocks 1 none 0 := ⟨⟨kI_RX4, kc_X4_forgetBlocks, ⟨by decide +kernel, by decide +kernel⟩, by decide +kernel⟩, ki_X4_forgetBlocks, kz_X4_forgetBlocks⟩
theorem kM_RX4_51 : Kw (.methodLink RX4 51 yX4_forgetBlocks) := ⟨List.mem_append_right _ (List.mem_of_getElem? (i := 622) (by decide +kernel)), by decide +kernel⟩
theorem kM_RX4_72 : Kw (.methodLink RX4 72 yX4_endOf) := ⟨List.mem_append_right _ (List.mem_of_getElem? (i := 745) (by decide +kernel)), by decide +kernel⟩
theorem kc_X4_isCoded : Kw (.code yX4_isCoded cX4_isCoded 1 (some .boolean)) := ⟨List.mem_append_right _ (List.mem_of_getElem? (i := 371) (by decide +kernel)), by decide +kernel⟩
theorem ki_X4_isCoded : Kw (.instanceMethod yX4_isCoded) := ⟨List.mem_append_right _ (List.mem_of_getElem? (i := 369) (by decide +kernel)), by decide +kernel⟩
theorem kz_X4_isCoded : Kw (.selects yX4_isCoded.cls yX4_isCoded yX4_isCoded) := ⟨List.mem_append_right _ (List.mem_of_getElem? (i := 370) (by decide +kernel)), by decide +kernel⟩
theorem kb_X4_isCoded : VB yX4_isCoded cX4_isCoded 1 (some .boolean) 0 := ⟨⟨kI_RX4, kc_X4_isCoded, ⟨by decide +kernel, by decide +kernel⟩, by decide +kernel⟩, ki_X4_isCoded, kz_X4_isCoded⟩
theorem kM_RX4_54 : Kw (.methodLink RX4 54 yX4_isCoded) := ⟨List.mem_append_right _ (List.mem_of_getElem? (i := 576) (by decide +kernel)), by decide +kernel⟩
theorem kc_X4_hasSample : Kw (.code yX4_hasSample cX4_hasSample 2 (some .boolean)) := ⟨List.mem_append_right _ (List.mem_of_getElem? (i := 521) (by decide +kernel)), by decide +kernel⟩
theorem ki_X4_hasSample : Kw (.instanceMethod yX4_hasSample) := ⟨List.mem_append_right _ (List.mem_of_getElem? (i := 519) (by decide +kernel)), by decide +kernel⟩
theorem kz_X4_hasSample : Kw (.selects yX4_hasSample.cls yX4_hasSample yX4_hasSample) := ⟨List.mem_append_right _ (List.mem_of_getElem? (i := 520) (by decide +kernel)), by decide +kernel⟩
theorem kb_X4_hasSample : VB yX4_hasSample cX4_hasSample 2 (some .boolean) 1 := ⟨⟨kI_RX4, kc_X4_hasSample, ⟨by decide +kernel, by decide +kernel⟩, by decide +kernel⟩, ki_X4_hasSample, kz_X4_hasSample⟩
theorem kM_RX4_58 : Kw (.methodLink RX4 58 yX4_hasSample) := ⟨List.mem_append_right _ (List.mem_of_getElem? (i := 577) (by decide +kernel)), by decide +kernel⟩
theorem kc_X4_codesOf : Kw (.code yX4_codesOf cX4_codesOf 2 (some .int)) := ⟨List.mem_append_right _ (List.mem_of_getElem? (i := 744) (by decide +kernel)), by decide +kernel⟩
theorem ki_X4_codesOf : Kw (.instanceMethod yX4_codesOf) := ⟨List.mem_append_right _ (List.mem_of_getElem? (i := 742) (by decide +kernel)), by decide +kernel⟩
theorem kz_X4_codesOf : Kw (.selects yX4_codesOf.cls yX4_codesOf yX4_codesOf) := ⟨List.mem_append_right _ (List.mem_of_getElem? (i := 743) (by decide +kernel)), by decide +kernel⟩
theorem kb_X4_codesOf : VB yX4_codesOf cX4_codesOf 2 (some .int) 1 := ⟨⟨kI_RX4, kc_X4_codesOf, ⟨by decide +kernel, by decide +kernel⟩, by decide +kernel⟩, ki_X4_codesOf, kz_X4_codesOf⟩
theorem kM_RX4_83 : Kw (.methodLink RX4 83 yX4_codesOf) := ⟨List.mem_append_right _ (List.mem_of_getElem? (i := 751) (by decide +kernel)), by decide +kernel⟩
theorem kF_RX4_86 : Kw (.fieldLink RX4 86 "SteppedSamples$BlockText" "codes" "[I") := ⟨List.mem_append_right _ (List.mem_of_getElem? (i := 131) (by decide +kernel)), by decide +kernel⟩
theorem kF_RX4_75 : Kw (.fieldLink RX4 75 "SteppedSamples$BlockText" "first" "I") := ⟨List.mem_append_right _ (List.mem_of_getElem? (i := 127) (by decide +kernel)), by decide +kernel⟩
theorem kF_RX4_80 : Kw (.fieldLink RX4 80 "SteppedSamples$BlockText" "number" "I") := ⟨List.mem_append_right _ (List.mem_of_getElem? (i := 129) (by decide +kernel)), by decide +kernel⟩
theorem kF_RX6_19 : Kw (.fieldLink RX6 19 "SteppedSamples" "history" "LSteppedSamples$History;") := ⟨List.mem_append_right _ (List.mem_of_getElem? (i := 215) (by decide +kernel)), by decide +kernel⟩
theorem kF_RX6_12 : Kw (.fieldLink RX6 12 "SteppedSamples" "now" "LSteppedSamples$State;") := ⟨List.mem_append_right _ (List.mem_of_getElem? (i := 214) (by decide +kernel)), by decide +kernel⟩
theorem kc_X3_save : Kw (.code yX3_save cX3_save 2 none) := ⟨List.mem_append_right _ (List.mem_of_getElem? (i := 253) (by decide +kernel)), by decide +kernel⟩
theorem ki_X3_save : Kw (.instanceMethod yX3_save) := ⟨List.mem_append_right _ (List.mem_of_getElem? (i := 251) (by decide +kernel)), by decide +kernel⟩
theorem kz_X3_save : Kw (.selects yX3_save.cls yX3_save yX3_save) := ⟨List.mem_append_right _ (List.mem_of_getElem? (i := 252) (by decide +kernel)), by decide +kernel⟩
theorem kb_X3_save : VB yX3_save cX3_save 2 none 1 := ⟨⟨kI_RX3, kc_X3_save, ⟨by decide +kernel, by decide +kernel⟩, by decide +kernel⟩, ki_X3_save, kz_X3_save⟩
theorem kM_RX6_354 : Kw (.methodLink RX6 354 yX3_save) := ⟨List.mem_append_right _ (List.mem_of_getElem? (i := 250) (by decide +kernel)), by decide +kernel⟩
theorem kF_RX6_48 : Kw (.fieldLink RX6 48 "SteppedSamples" "decoder" "LSteppedSamples$Decoder;") := ⟨List.mem_append_right _ (List.mem_of_getElem? (i := 220) (by decide +kernel)), by decide +kernel⟩
theorem kF_RX6_215 : Kw (.fieldLink RX6 215 "SteppedSamples$Decoder" "upToDate" "Z") := ⟨List.mem_append_right _ (List.mem_of_getElem? (i := 202) (by decide +kernel)), by decide +kernel⟩
theorem kM_RX6_382 : Kw (.methodLink RX6 382 Lib.Math.abs.name) := ⟨List.mem_append_right _ (List.mem_of_getElem? (i := 652) (by decide +kernel)), by decide +kernel⟩
theorem kF_RX6_72 : Kw (.fieldLink RX6 72 "SteppedSamples$State" "many" "I") := ⟨List.mem_append_right _ (List.mem_of_getElem? (i := 33) (by decide +kernel)), by decide +kernel⟩
theorem kM_RX6_98 : Kw (.methodLink RX6 98 yX4_forgetBlocks) := ⟨List.mem_append_right _ (List.mem_of_getElem? (i := 638) (by decide +kernel)), by decide +kernel⟩
theorem kF_RX6_94 : Kw (.fieldLink RX6 94 "SteppedSamples$State" "values" "[I") := ⟨List.mem_append_right _ (List.mem_of_getElem? (i := 37) (by decide +kernel)), by decide +kernel⟩
theorem kc_X6_shape : Kw (.code yX6_shape cX6_shape 4 (some .int)) := ⟨List.mem_append_right _ (List.mem_of_getElem? (i := 651) (by decide +kernel)), by decide +kernel⟩
theorem ks_X6_shape : Kw (.static yX6_shape) := ⟨List.mem_append_right _ (List.mem_of_getElem? (i := 650) (by decide +kernel)), by decide +kernel⟩
theorem kb_X6_shape : SB yX6_shape cX6_shape 4 (some .int) 4 := ⟨⟨kI_RX6, kc_X6_shape, ⟨by decide +kernel, by decide +kernel⟩, by decide +kernel⟩, ks_X6_shape⟩
theorem kM_RX6_107 : Kw (.methodLink RX6 107 yX6_shape) := ⟨List.mem_append_right _ (List.mem_of_getElem? (i := 649) (by decide +kernel)), by decide +kernel⟩
theorem kM_RX6_111 : Kw (.methodLink RX6 111 yX6_clip) := ⟨List.mem_append_right _ (List.mem_of_getElem? (i := 653) (by decide +kernel)), by decide +kernel⟩
theorem kc_X6_isValue : Kw (.code yX6_isValue cX6_isValue 1 (some .boolean)) := ⟨List.mem_append_right _ (List.mem_of_getElem? (i := 636) (by decide +kernel)), by decide +kernel⟩
theorem ks_X6_isValue : Kw (.static yX6_isValue) := ⟨List.mem_append_right _ (List.mem_of_getElem? (i := 635) (by decide +kernel)), by decide +kernel⟩
theorem kb_X6_isValue : SB yX6_isValue cX6_isValue 1 (some .boolean) 1 := ⟨⟨kI_RX6, kc_X6_isValue, ⟨by decide +kernel, by decide +kernel⟩, by decide +kernel⟩, ks_X6_isValue⟩
theorem kM_RX6_89 : Kw (.methodLink RX6 89 yX6_isValue) := ⟨List.mem_append_right _ (List.mem_of_getElem? (i := 634) (by decide +kernel)), by decide +kernel⟩
theorem kL_RX6_62 : Kw (.classLink RX6 62 (exN 0)) := ⟨List.mem_append_right _ (List.mem_of_getElem? (i := 414) (by decide +kernel)), by decide +kernel⟩
theorem kI_E0 : Kw (.initialized (exN 0)) := ⟨List.mem_append_right _ (List.mem_of_getElem? (i := 12) (by decide +kernel)), by decide +kernel⟩
theorem kT_0_66 : ThB 0 66 := ⟨by decide +kernel, by decide +kernel, by decide +kernel, by decide +kernel, kI_E0⟩
theorem kc_X6_beginChange : Kw (.code yX6_beginChange cX6_beginChange 1 none) := ⟨List.mem_append_right _ (List.mem_of_getElem? (i := 249) (by decide +kernel)), by decide +kernel⟩
theorem ki_X6_beginChange : Kw (.instanceMethod yX6_beginChange) := ⟨List.mem_append_right _ (List.mem_of_getElem? (i := 248) (by decide +kernel)), by decide +kernel⟩
theorem kz_X6_beginChange : Kw (.selects yX6_beginChange.cls yX6_beginChange yX6_beginChange) := ⟨List.mem_append_left _ (List.mem_of_getElem? (i := 0) (by decide +kernel)), by decide +kernel⟩
theorem kb_X6_beginChange : VB yX6_beginChange cX6_beginChange 1 none 0 := ⟨⟨kI_RX6, kc_X6_beginChange, ⟨by decide +kernel, by decide +kernel⟩, by decide +kernel⟩, ki_X6_beginChange, kz_X6_beginChange⟩
theorem kM_RX6_69 : Kw (.methodLink RX6 69 yX6_beginChange) := ⟨List.mem_append_right _ (List.mem_of_getElem? (i := 246) (by decide +kernel)), by decide +kernel⟩
theorem kF_RX6_34 : Kw (.fieldLink RX6 34 "SteppedSamples" "buffer" "LSteppedSamples$BlockText;") := ⟨List.mem_append_right _ (List.mem_of_getElem? (i := 218) (by decide +kernel)), by decide +kernel⟩
theorem kM_RX6_186 : Kw (.methodLink RX6 186 yX0_isFull) := ⟨List.mem_append_right _ (List.mem_of_getElem? (i := 719) (by decide +kernel)), by decide +kernel⟩
theorem kM_RX6_191 : Kw (.methodLink RX6 191 yX0_put) := ⟨List.mem_append_right _ (List.mem_of_getElem? (i := 724) (by decide +kernel)), by decide +kernel⟩
theorem kF_RX6_194 : Kw (.fieldLink RX6 194 "SteppedSamples$BlockText" "length" "I") := ⟨List.mem_append_right _ (List.mem_of_getElem? (i := 125) (by decide +kernel)), by decide +kernel⟩
theorem kL_RX6_119 : Kw (.classLink RX6 119 (exN 2)) := ⟨List.mem_append_right _ (List.mem_of_getElem? (i := 662) (by decide +kernel)), by decide +kernel⟩
theorem kI_E2 : Kw (.initialized (exN 2)) := ⟨List.mem_append_right _ (List.mem_of_getElem? (i := 16) (by decide +kernel)), by decide +kernel⟩
theorem kT_2_123 : ThB 2 123 := ⟨by decide +kernel, by decide +kernel, by decide +kernel, by decide +kernel, kI_E2⟩
theorem kM_RX6_80 : Kw (.methodLink RX6 80 yX4_hasSample) := ⟨List.mem_append_right _ (List.mem_of_getElem? (i := 518) (by decide +kernel)), by decide +kernel⟩
theorem kL_RX6_84 : Kw (.classLink RX6 84 (exN 1)) := ⟨List.mem_append_right _ (List.mem_of_getElem? (i := 522) (by decide +kernel)), by decide +kernel⟩
theorem kI_E1 : Kw (.initialized (exN 1)) := ⟨List.mem_append_right _ (List.mem_of_getElem? (i := 15) (by decide +kernel)), by decide +kernel⟩
theorem kT_1_88 : ThB 1 88 := ⟨by decide +kernel, by decide +kernel, by decide +kernel, by decide +kernel, kI_E1⟩
theorem kc_X6_refuseUnlessSamples : Kw (.code yX6_refuseUnlessSamples cX6_refuseUnlessSamples 3 none) := ⟨List.mem_append_right _ (List.mem_of_getElem? (i := 569) (by decide +kernel)), by decide +kernel⟩
theorem ki_X6_refuseUnlessSamples : Kw (.instanceMethod yX6_refuseUnlessSamples) := ⟨List.mem_append_right _ (List.mem_of_getElem? (i := 568) (by decide +kernel)), by decide +kernel⟩
theorem kz_X6_refuseUnlessSamples : Kw (.selects yX6_refuseUnlessSamples.cls yX6_refuseUnlessSamples yX6_refuseUnlessSamples) := ⟨List.mem_append_left _ (List.mem_of_getElem? (i := 20) (by decide +kernel)), by decide +kernel⟩
theorem kb_X6_refuseUnlessSamples : VB yX6_refuseUnlessSamples cX6_refuseUnlessSamples 3 none 2 := ⟨⟨kI_RX6, kc_X6_refuseUnlessSamples, ⟨by decide +kernel, by decide +kernel⟩, by decide +kernel⟩, ki_X6_refuseUnlessSamples, kz_X6_refuseUnlessSamples⟩
theorem kM_RX6_305 : Kw (.methodLink RX6 305 yX6_refuseUnlessSamples) := ⟨List.mem_append_right _ (List.mem_of_getElem? (i := 566) (by decide +kernel)), by decide +kernel⟩
theorem kF_RX6_41 : Kw (.fieldLink RX6 41 "SteppedSamples" "coder" "LSteppedSamples$Coder;") := ⟨List.mem_append_right _ (List.mem_of_getElem? (i := 219) (by decide +kernel)), by decide +kernel⟩
theorem kM_RX6_312 : Kw (.methodLink RX6 312 yX1_bestStart) := ⟨List.mem_append_right _ (List.mem_of_getElem? (i := 571) (by decide +kernel)), by decide +kernel⟩
theorem kC_RX6_418 : Kw (.constantDouble RX6 418 (4611686018427387904)) := ⟨List.mem_append_right _ (List.mem_of_getElem? (i := 603) (by decide +kernel)), by decide +kernel⟩
theorem kc_X6_bitsOf : Kw (.code yX6_bitsOf cX6_bitsOf 9 (some .long)) := ⟨List.mem_append_right _ (List.mem_of_getElem? (i := 602) (by decide +kernel)), by decide +kernel⟩
theorem ks_X6_bitsOf : Kw (.static yX6_bitsOf) := ⟨List.mem_append_right _ (List.mem_of_getElem? (i := 601) (by decide +kernel)), by decide +kernel⟩
theorem kb_X6_bitsOf : SB yX6_bitsOf cX6_bitsOf 9 (some .long) 3 := ⟨⟨kI_RX6, kc_X6_bitsOf, ⟨by decide +kernel, by decide +kernel⟩, by decide +kernel⟩, ks_X6_bitsOf⟩
theorem kM_RX6_411 : Kw (.methodLink RX6 411 yX6_bitsOf) := ⟨List.mem_append_right _ (List.mem_of_getElem? (i := 600) (by decide +kernel)), by decide +kernel⟩
theorem kC_RX6_417 : Kw (.constant RX6 417 (-2147483648)) := ⟨List.mem_append_right _ (List.mem_of_getElem? (i := 608) (by decide +kernel)), by decide +kernel⟩
theorem kc_X4_hasBlock : Kw (.code yX4_hasBlock cX4_hasBlock 2 (some .boolean)) := ⟨List.mem_append_right _ (List.mem_of_getElem? (i := 550) (by decide +kernel)), by decide +kernel⟩
theorem ki_X4_hasBlock : Kw (.instanceMethod yX4_hasBlock) := ⟨List.mem_append_right _ (List.mem_of_getElem? (i := 548) (by decide +kernel)), by decide +kernel⟩
theorem kz_X4_hasBlock : Kw (.selects yX4_hasBlock.cls yX4_hasBlock yX4_hasBlock) := ⟨List.mem_append_right _ (List.mem_of_getElem? (i := 549) (by decide +kernel)), by decide +kernel⟩
theorem kb_X4_hasBlock : VB yX4_hasBlock cX4_hasBlock 2 (some .boolean) 1 := ⟨⟨kI_RX4, kc_X4_hasBlock, ⟨by decide +kernel, by decide +kernel⟩, by decide +kernel⟩, ki_X4_hasBlock, kz_X4_hasBlock⟩
theorem kM_RX6_357 : Kw (.methodLink RX6 357 yX4_hasBlock) := ⟨List.mem_append_right _ (List.mem_of_getElem? (i := 547) (by decide +kernel)), by decide +kernel⟩
theorem kM_RX6_257 : Kw (.methodLink RX6 257 yX4_endOf) := ⟨List.mem_append_right _ (List.mem_of_getElem? (i := 495) (by decide +kernel)), by decide +kernel⟩
theorem kF_RX6_58 : Kw (.fieldLink RX6 58 "SteppedSamples" "walk" "LSteppedSamples$Walk;") := ⟨List.mem_append_right _ (List.mem_of_getElem? (i := 222) (by decide +kernel)), by decide +kernel⟩
theorem kF_RX6_302 : Kw (.fieldLink RX6 302 "SteppedSamples$Walk" "number" "I") := ⟨List.mem_append_right _ (List.mem_of_getElem? (i := 178) (by decide +kernel)), by decide +kernel⟩
theorem kF_RX6_181 : Kw (.fieldLink RX6 181 "SteppedSamples$State" "codes" "[I") := ⟨List.mem_append_right _ (List.mem_of_getElem? (i := 65) (by decide +kernel)), by decide +kernel⟩
theorem kM_RX6_296 : Kw (.methodLink RX6 296 yX5_follow) := ⟨List.mem_append_right _ (List.mem_of_getElem? (i := 557) (by decide +kernel)), by decide +kernel⟩
theorem kF_RX6_263 : Kw (.fieldLink RX6 263 "SteppedSamples$State" "firsts" "[I") := ⟨List.mem_append_right _ (List.mem_of_getElem? (i := 51) (by decide +kernel)), by decide +kernel⟩
theorem kF_RX6_266 : Kw (.fieldLink RX6 266 "SteppedSamples$State" "starts" "[I") := ⟨List.mem_append_right _ (List.mem_of_getElem? (i := 56) (by decide +kernel)), by decide +kernel⟩
theorem kM_RX6_290 : Kw (.methodLink RX6 290 yX5_begin) := ⟨List.mem_append_right _ (List.mem_of_getElem? (i := 556) (by decide +kernel)), by decide +kernel⟩
theorem kM_RX6_260 : Kw (.methodLink RX6 260 yX4_startOf) := ⟨List.mem_append_right _ (List.mem_of_getElem? (i := 494) (by decide +kernel)), by decide +kernel⟩
theorem kc_X6_refuseUnlessBlock : Kw (.code yX6_refuseUnlessBlock cX6_refuseUnlessBlock 2 none) := ⟨List.mem_append_right _ (List.mem_of_getElem? (i := 546) (by decide +kernel)), by decide +kernel⟩
theorem ki_X6_refuseUnlessBlock : Kw (.instanceMethod yX6_refuseUnlessBlock) := ⟨List.mem_append_right _ (List.mem_of_getElem? (i := 545) (by decide +kernel)), by decide +kernel⟩
theorem kz_X6_refuseUnlessBlock : Kw (.selects yX6_refuseUnlessBlock.cls yX6_refuseUnlessBlock yX6_refuseUnlessBlock) := ⟨List.mem_append_left _ (List.mem_of_getElem? (i := 17) (by decide +kernel)), by decide +kernel⟩
theorem kb_X6_refuseUnlessBlock : VB yX6_refuseUnlessBlock cX6_refuseUnlessBlock 2 none 1 := ⟨⟨kI_RX6, kc_X6_refuseUnlessBlock, ⟨by decide +kernel, by decide +kernel⟩, by decide +kernel⟩, ki_X6_refuseUnlessBlock, kz_X6_refuseUnlessBlock⟩
theorem kM_RX6_161 : Kw (.methodLink RX6 161 yX6_refuseUnlessBlock) := ⟨List.mem_append_right _ (List.mem_of_getElem? (i := 543) (by decide +kernel)), by decide +kernel⟩
theorem kF_RX6_164 : Kw (.fieldLink RX6 164 "SteppedSamples$State" "lost" "[Z") := ⟨List.mem_append_right _ (List.mem_of_getElem? (i := 60) (by decide +kernel)), by decide +kernel⟩
theorem kc_X2_decode : Kw (.code yX2_decode cX2_decode 3 none) := ⟨List.mem_append_right _ (List.mem_of_getElem? (i := 379) (by decide +kernel)), by decide +kernel⟩
theorem ki_X2_decode : Kw (.instanceMethod yX2_decode) := ⟨List.mem_append_right _ (List.mem_of_getElem? (i := 377) (by decide +kernel)), by decide +kernel⟩
theorem kz_X2_decode : Kw (.selects yX2_decode.cls yX2_decode yX2_decode) := ⟨List.mem_append_right _ (List.mem_of_getElem? (i := 378) (by decide +kernel)), by decide +kernel⟩
theorem kb_X2_decode : VB yX2_decode cX2_decode 3 none 1 := ⟨⟨kI_RX2, kc_X2_decode, ⟨by decide +kernel, by decide +kernel⟩, by decide +kernel⟩, ki_X2_decode, kz_X2_decode⟩
theorem kM_RX6_124 : Kw (.methodLink RX6 124 yX2_decode) := ⟨List.mem_append_right _ (List.mem_of_getElem? (i := 376) (by decide +kernel)), by decide +kernel⟩
theorem kc_X2_errorOf : Kw (.code yX2_errorOf cX2_errorOf 7 (some .int)) := ⟨List.mem_append_right _ (List.mem_of_getElem? (i := 399) (by decide +kernel)), by decide +kernel⟩
theorem ki_X2_errorOf : Kw (.instanceMethod yX2_errorOf) := ⟨List.mem_append_right _ (List.mem_of_getElem? (i := 397) (by decide +kernel)), by decide +kernel⟩
theorem kz_X2_errorOf : Kw (.selects yX2_errorOf.cls yX2_errorOf yX2_errorOf) := ⟨List.mem_append_right _ (List.mem_of_getElem? (i := 398) (by decide +kernel)), by decide +kernel⟩
theorem kb_X2_errorOf : VB yX2_errorOf cX2_errorOf 7 (some .int) 3 := ⟨⟨kI_RX2, kc_X2_errorOf, ⟨by decide +kernel, by decide +kernel⟩, by decide +kernel⟩, ki_X2_errorOf, kz_X2_errorOf⟩
theorem kM_RX6_269 : Kw (.methodLink RX6 269 yX2_errorOf) := ⟨List.mem_append_right _ (List.mem_of_getElem? (i := 396) (by decide +kernel)), by decide +kernel⟩
theorem kc_X6_leadOf : Kw (.code yX6_leadOf cX6_leadOf 3 (some .int)) := ⟨List.mem_append_right _ (List.mem_of_getElem? (i := 555) (by decide +kernel)), by decide +kernel⟩
theorem ki_X6_leadOf : Kw (.instanceMethod yX6_leadOf) := ⟨List.mem_append_right _ (List.mem_of_getElem? (i := 554) (by decide +kernel)), by decide +kernel⟩
theorem kz_X6_leadOf : Kw (.selects yX6_leadOf.cls yX6_leadOf yX6_leadOf) := ⟨List.mem_append_left _ (List.mem_of_getElem? (i := 18) (by decide +kernel)), by decide +kernel⟩
theorem kb_X6_leadOf : VB yX6_leadOf cX6_leadOf 3 (some .int) 1 := ⟨⟨kI_RX6, kc_X6_leadOf, ⟨by decide +kernel, by decide +kernel⟩, by decide +kernel⟩, ki_X6_leadOf, kz_X6_leadOf⟩
theorem kM_RX6_273 : Kw (.methodLink RX6 273 yX6_leadOf) := ⟨List.mem_append_right _ (List.mem_of_getElem? (i := 552) (by decide +kernel)), by decide +kernel⟩
theorem kc_X1_codeWave : Kw (.code yX1_codeWave cX1_codeWave 4 none) := ⟨List.mem_append_right _ (List.mem_of_getElem? (i := 274) (by decide +kernel)), by decide +kernel⟩
theorem ki_X1_codeWave : Kw (.instanceMethod yX1_codeWave) := ⟨List.mem_append_right _ (List.mem_of_getElem? (i := 272) (by decide +kernel)), by decide +kernel⟩
theorem kz_X1_codeWave : Kw (.selects yX1_codeWave.cls yX1_codeWave yX1_codeWave) := ⟨List.mem_append_right _ (List.mem_of_getElem? (i := 273) (by decide +kernel)), by decide +kernel⟩
theorem kb_X1_codeWave : VB yX1_codeWave cX1_codeWave 4 none 1 := ⟨⟨kI_RX1, kc_X1_codeWave, ⟨by decide +kernel, by decide +kernel⟩, by decide +kernel⟩, ki_X1_codeWave, kz_X1_codeWave⟩
theorem kM_RX6_155 : Kw (.methodLink RX6 155 yX1_codeWave) := ⟨List.mem_append_right _ (List.mem_of_getElem? (i := 271) (by decide +kernel)), by decide +kernel⟩
theorem kF_RX6_158 : Kw (.fieldLink RX6 158 "SteppedSamples$State" "blocks" "I") := ⟨List.mem_append_right _ (List.mem_of_getElem? (i := 46) (by decide +kernel)), by decide +kernel⟩
theorem kc_X6_errorByBlocks : Kw (.code yX6_errorByBlocks cX6_errorByBlocks 3 (some .int)) := ⟨List.mem_append_right _ (List.mem_of_getElem? (i := 493) (by decide +kernel)), by decide +kernel⟩
theorem ki_X6_errorByBlocks : Kw (.instanceMethod yX6_errorByBlocks) := ⟨List.mem_append_right _ (List.mem_of_getElem? (i := 492) (by decide +kernel)), by decide +kernel⟩
theorem kz_X6_errorByBlocks : Kw (.selects yX6_errorByBlocks.cls yX6_errorByBlocks yX6_errorByBlocks) := ⟨List.mem_append_left _ (List.mem_of_getElem? (i := 15) (by decide +kernel)), by decide +kernel⟩
theorem kb_X6_errorByBlocks : VB yX6_errorByBlocks cX6_errorByBlocks 3 (some .int) 0 := ⟨⟨kI_RX6, kc_X6_errorByBlocks, ⟨by decide +kernel, by decide +kernel⟩, by decide +kernel⟩, ki_X6_errorByBlocks, kz_X6_errorByBlocks⟩
theorem kM_RX6_391 : Kw (.methodLink RX6 391 yX6_errorByBlocks) := ⟨List.mem_append_right _ (List.mem_of_getElem? (i := 490) (by decide +kernel)), by decide +kernel⟩
theorem kc_X2_greatestDifference : Kw (.code yX2_greatestDifference cX2_greatestDifference 4 (some .int)) := ⟨List.mem_append_right _ (List.mem_of_getElem? (i := 499) (by decide +kernel)), by decide +kernel⟩
theorem ki_X2_greatestDifference : Kw (.instanceMethod yX2_greatestDifference) := ⟨List.mem_append_right _ (List.mem_of_getElem? (i := 497) (by decide +kernel)), by decide +kernel⟩
theorem kz_X2_greatestDifference : Kw (.selects yX2_greatestDifference.cls yX2_greatestDifference yX2_greatestDifference) := ⟨List.mem_append_right _ (List.mem_of_getElem? (i := 498) (by decide +kernel)), by decide +kernel⟩
theorem kb_X2_greatestDifference : VB yX2_greatestDifference cX2_greatestDifference 4 (some .int) 1 := ⟨⟨kI_RX2, kc_X2_greatestDifference, ⟨by decide +kernel, by decide +kernel⟩, by decide +kernel⟩, ki_X2_greatestDifference, kz_X2_greatestDifference⟩
theorem kM_RX6_394 : Kw (.methodLink RX6 394 yX2_greatestDifference) := ⟨List.mem_append_right _ (List.mem_of_getElem? (i := 496) (by decide +kernel)), by decide +kernel⟩
theorem kc_X2_justAsTheyAre : Kw (.code yX2_justAsTheyAre cX2_justAsTheyAre 4 (some .int)) := ⟨List.mem_append_right _ (List.mem_of_getElem? (i := 505) (by decide +kernel)), by decide +kernel⟩
theorem ki_X2_justAsTheyAre : Kw (.instanceMethod yX2_justAsTheyAre) := ⟨List.mem_append_right _ (List.mem_of_getElem? (i := 503) (by decide +kernel)), by decide +kernel⟩
theorem kz_X2_justAsTheyAre : Kw (.selects yX2_justAsTheyAre.cls yX2_justAsTheyAre yX2_justAsTheyAre) := ⟨List.mem_append_right _ (List.mem_of_getElem? (i := 504) (by decide +kernel)), by decide +kernel⟩
theorem kb_X2_justAsTheyAre : VB yX2_justAsTheyAre cX2_justAsTheyAre 4 (some .int) 1 := ⟨⟨kI_RX2, kc_X2_justAsTheyAre, ⟨by decide +kernel, by decide +kernel⟩, by decide +kernel⟩, ki_X2_justAsTheyAre, kz_X2_justAsTheyAre⟩
theorem kM_RX6_128 : Kw (.methodLink RX6 128 yX2_justAsTheyAre) := ⟨List.mem_append_right _ (List.mem_of_getElem? (i := 502) (by decide +kernel)), by decide +kernel⟩
theorem kM_RX6_115 : Kw (.methodLink RX6 115 yX4_isCoded) := ⟨List.mem_append_right _ (List.mem_of_getElem? (i := 368) (by decide +kernel)), by decide +kernel⟩
theorem kc_X4_lostBlocks : Kw (.code yX4_lostBlocks cX4_lostBlocks 3 (some .int)) := ⟨List.mem_append_right _ (List.mem_of_getElem? (i := 485) (by decide +kernel)), by decide +kernel⟩
theorem ki_X4_lostBlocks : Kw (.instanceMethod yX4_lostBlocks) := ⟨List.mem_append_right _ (List.mem_of_getElem? (i := 483) (by decide +kernel)), by decide +kernel⟩
theorem kz_X4_lostBlocks : Kw (.selects yX4_lostBlocks.cls yX4_lostBlocks yX4_lostBlocks) := ⟨List.mem_append_right _ (List.mem_of_getElem? (i := 484) (by decide +kernel)), by decide +kernel⟩
theorem kb_X4_lostBlocks : VB yX4_lostBlocks cX4_lostBlocks 3 (some .int) 0 := ⟨⟨kI_RX4, kc_X4_lostBlocks, ⟨by decide +kernel, by decide +kernel⟩, by decide +kernel⟩, ki_X4_lostBlocks, kz_X4_lostBlocks⟩
theorem kM_RX6_167 : Kw (.methodLink RX6 167 yX4_lostBlocks) := ⟨List.mem_append_right _ (List.mem_of_getElem? (i := 482) (by decide +kernel)), by decide +kernel⟩
theorem kF_RX6_278 : Kw (.fieldLink RX6 278 "SteppedSamples$State" "codings" "I") := ⟨List.mem_append_right _ (List.mem_of_getElem? (i := 71) (by decide +kernel)), by decide +kernel⟩
theorem kF_RX6_178 : Kw (.fieldLink RX6 178 "SteppedSamples$State" "turned" "I") := ⟨List.mem_append_right _ (List.mem_of_getElem? (i := 73) (by decide +kernel)), by decide +kernel⟩
theorem kF_RX6_235 : Kw (.fieldLink RX6 235 "SteppedSamples$History" "many" "I") := ⟨List.mem_append_right _ (List.mem_of_getElem? (i := 110) (by decide +kernel)), by decide +kernel⟩
theorem kc_X6_codedCount : Kw (.code yX6_codedCount cX6_codedCount 2 (some .int)) := ⟨List.mem_append_right _ (List.mem_of_getElem? (i := 489) (by decide +kernel)), by decide +kernel⟩
theorem ki_X6_codedCount : Kw (.instanceMethod yX6_codedCount) := ⟨List.mem_append_right _ (List.mem_of_getElem? (i := 488) (by decide +kernel)), by decide +kernel⟩
theorem kz_X6_codedCount : Kw (.selects yX6_codedCount.cls yX6_codedCount yX6_codedCount) := ⟨List.mem_append_left _ (List.mem_of_getElem? (i := 14) (by decide +kernel)), by decide +kernel⟩
theorem kb_X6_codedCount : VB yX6_codedCount cX6_codedCount 2 (some .int) 1 := ⟨⟨kI_RX6, kc_X6_codedCount, ⟨by decide +kernel, by decide +kernel⟩, by decide +kernel⟩, ki_X6_codedCount, kz_X6_codedCount⟩
theorem kM_RX6_281 : Kw (.methodLink RX6 281 yX6_codedCount) := ⟨List.mem_append_right _ (List.mem_of_getElem? (i := 486) (by decide +kernel)), by decide +kernel⟩
theorem kC_RX6_397 : Kw (.constantLong RX6 397 (31)) := ⟨List.mem_append_right _ (List.mem_of_getElem? (i := 509) (by decide +kernel)), by decide +kernel⟩
theorem kF_RX6_132 : Kw (.fieldLink RX6 132 "SteppedSamples$Decoder" "made" "[I") := ⟨List.mem_append_right _ (List.mem_of_getElem? (i := 197) (by decide +kernel)), by decide +kernel⟩
theorem kF_RX6_251 : Kw (.fieldLink RX6 251 "SteppedSamples$State" "guesses" "[I") := ⟨List.mem_append_right _ (List.mem_of_getElem? (i := 68) (by decide +kernel)), by decide +kernel⟩
theorem kF_RX6_254 : Kw (.fieldLink RX6 254 "SteppedSamples$Decoder" "numbers" "[I") := ⟨List.mem_append_right _ (List.mem_of_getElem? (i := 199) (by decide +kernel)), by decide +kernel⟩
theorem kc_X6_blockOf : Kw (.code yX6_blockOf cX6_blockOf 3 (some .int)) := ⟨List.mem_append_right _ (List.mem_of_getElem? (i := 542) (by decide +kernel)), by decide +kernel⟩
theorem ki_X6_blockOf : Kw (.instanceMethod yX6_blockOf) := ⟨List.mem_append_right _ (List.mem_of_getElem? (i := 540) (by decide +kernel)), by decide +kernel⟩
theorem kz_X6_blockOf : Kw (.selects yX6_blockOf.cls yX6_blockOf yX6_blockOf) := ⟨List.mem_append_right _ (List.mem_of_getElem? (i := 541) (by decide +kernel)), by decide +kernel⟩
theorem kb_X6_blockOf : VB yX6_blockOf cX6_blockOf 3 (some .int) 2 := ⟨⟨kI_RX6, kc_X6_blockOf, ⟨by decide +kernel, by decide +kernel⟩, by decide +kernel⟩, ki_X6_blockOf, kz_X6_blockOf⟩
theorem kM_RX6_402 : Kw (.methodLink RX6 402 yX6_blockOf) := ⟨List.mem_append_right _ (List.mem_of_getElem? (i := 539) (by decide +kernel)), by decide +kernel⟩
theorem kc_X6_mix : Kw (.code yX6_mix cX6_mix 4 (some .long)) := ⟨List.mem_append_right _ (List.mem_of_getElem? (i := 508) (by decide +kernel)), by decide +kernel⟩
theorem ks_X6_mix : Kw (.static yX6_mix) := ⟨List.mem_append_right _ (List.mem_of_getElem? (i := 507) (by decide +kernel)), by decide +kernel⟩
theorem kb_X6_mix : SB yX6_mix cX6_mix 4 (some .long) 2 := ⟨⟨kI_RX6, kc_X6_mix, ⟨by decide +kernel, by decide +kernel⟩, by decide +kernel⟩, ks_X6_mix⟩
theorem kM_RX6_324 : Kw (.methodLink RX6 324 yX6_mix) := ⟨List.mem_append_right _ (List.mem_of_getElem? (i := 506) (by decide +kernel)), by decide +kernel⟩
theorem kc_X6_sampleOf : Kw (.code yX6_sampleOf cX6_sampleOf 3 (some .int)) := ⟨List.mem_append_right _ (List.mem_of_getElem? (i := 517) (by decide +kernel)), by decide +kernel⟩
theorem ki_X6_sampleOf : Kw (.instanceMethod yX6_sampleOf) := ⟨List.mem_append_right _ (List.mem_of_getElem? (i := 515) (by decide +kernel)), by decide +kernel⟩
theorem kz_X6_sampleOf : Kw (.selects yX6_sampleOf.cls yX6_sampleOf yX6_sampleOf) := ⟨List.mem_append_right _ (List.mem_of_getElem? (i := 516) (by decide +kernel)), by decide +kernel⟩
theorem kb_X6_sampleOf : VB yX6_sampleOf cX6_sampleOf 3 (some .int) 2 := ⟨⟨kI_RX6, kc_X6_sampleOf, ⟨by decide +kernel, by decide +kernel⟩, by decide +kernel⟩, ki_X6_sampleOf, kz_X6_sampleOf⟩
theorem kM_RX6_399 : Kw (.methodLink RX6 399 yX6_sampleOf) := ⟨List.mem_append_right _ (List.mem_of_getElem? (i := 514) (by decide +kernel)), by decide +kernel⟩
theorem kc_X4_hasCode : Kw (.code yX4_hasCode cX4_hasCode 2 (some .boolean)) := ⟨List.mem_append_right _ (List.mem_of_getElem? (i := 575) (by decide +kernel)), by decide +kernel⟩
theorem ki_X4_hasCode : Kw (.instanceMethod yX4_hasCode) := ⟨List.mem_append_right _ (List.mem_of_getElem? (i := 573) (by decide +kernel)), by decide +kernel⟩
theorem kz_X4_hasCode : Kw (.selects yX4_hasCode.cls yX4_hasCode yX4_hasCode) := ⟨List.mem_append_right _ (List.mem_of_getElem? (i := 574) (by decide +kernel)), by decide +kernel⟩
theorem kb_X4_hasCode : VB yX4_hasCode cX4_hasCode 2 (some .boolean) 1 := ⟨⟨kI_RX4, kc_X4_hasCode, ⟨by decide +kernel, by decide +kernel⟩, by decide +kernel⟩, ki_X4_hasCode, kz_X4_hasCode⟩
theorem kM_RX6_362 : Kw (.methodLink RX6 362 yX4_hasCode) := ⟨List.mem_append_right _ (List.mem_of_getElem? (i := 572) (by decide +kernel)), by decide +kernel⟩
theorem kc_X6_refuseUnlessCodeBit : Kw (.code yX6_refuseUnlessCodeBit cX6_refuseUnlessCodeBit 3 none) := ⟨List.mem_append_right _ (List.mem_of_getElem? (i := 585) (by decide +kernel)), by decide +kernel⟩
theorem ki_X6_refuseUnlessCodeBit : Kw (.instanceMethod yX6_refuseUnlessCodeBit) := ⟨List.mem_append_right _ (List.mem_of_getElem? (i := 584) (by decide +kernel)), by decide +kernel⟩
theorem kz_X6_refuseUnlessCodeBit : Kw (.selects yX6_refuseUnlessCodeBit.cls yX6_refuseUnlessCodeBit yX6_refuseUnlessCodeBit) := ⟨List.mem_append_left _ (List.mem_of_getElem? (i := 21) (by decide +kernel)), by decide +kernel⟩
theorem kb_X6_refuseUnlessCodeBit : VB yX6_refuseUnlessCodeBit cX6_refuseUnlessCodeBit 3 none 2 := ⟨⟨kI_RX6, kc_X6_refuseUnlessCodeBit, ⟨by decide +kernel, by decide +kernel⟩, by decide +kernel⟩, ki_X6_refuseUnlessCodeBit, kz_X6_refuseUnlessCodeBit⟩
theorem kM_RX6_171 : Kw (.methodLink RX6 171 yX6_refuseUnlessCodeBit) := ⟨List.mem_append_right _ (List.mem_of_getElem? (i := 582) (by decide +kernel)), by decide +kernel⟩
theorem kc_X4_turnOver : Kw (.code yX4_turnOver cX4_turnOver 3 none) := ⟨List.mem_append_right _ (List.mem_of_getElem? (i := 591) (by decide +kernel)), by decide +kernel⟩
theorem ki_X4_turnOver : Kw (.instanceMethod yX4_turnOver) := ⟨List.mem_append_right _ (List.mem_of_getElem? (i := 589) (by decide +kernel)), by decide +kernel⟩
theorem kz_X4_turnOver : Kw (.selects yX4_turnOver.cls yX4_turnOver yX4_turnOver) := ⟨List.mem_append_right _ (List.mem_of_getElem? (i := 590) (by decide +kernel)), by decide +kernel⟩
theorem kb_X4_turnOver : VB yX4_turnOver cX4_turnOver 3 none 2 := ⟨⟨kI_RX4, kc_X4_turnOver, ⟨by decide +kernel, by decide +kernel⟩, by decide +kernel⟩, ki_X4_turnOver, kz_X4_turnOver⟩
theorem kM_RX6_175 : Kw (.methodLink RX6 175 yX4_turnOver) := ⟨List.mem_append_right _ (List.mem_of_getElem? (i := 588) (by decide +kernel)), by decide +kernel⟩
theorem kF_RX6_52 : Kw (.fieldLink RX6 52 "SteppedSamples" "decoderAfter" "LSteppedSamples$Decoder;") := ⟨List.mem_append_right _ (List.mem_of_getElem? (i := 221) (by decide +kernel)), by decide +kernel⟩
theorem kc_X2_othersThan : Kw (.code yX2_othersThan cX2_othersThan 5 (some .int)) := ⟨List.mem_append_right _ (List.mem_of_getElem? (i := 595) (by decide +kernel)), by decide +kernel⟩
theorem ki_X2_othersThan : Kw (.instanceMethod yX2_othersThan) := ⟨List.mem_append_right _ (List.mem_of_getElem? (i := 593) (by decide +kernel)), by decide +kernel⟩
theorem kz_X2_othersThan : Kw (.selects yX2_othersThan.cls yX2_othersThan yX2_othersThan) := ⟨List.mem_append_right _ (List.mem_of_getElem? (i := 594) (by decide +kernel)), by decide +kernel⟩
theorem kb_X2_othersThan : VB yX2_othersThan cX2_othersThan 5 (some .int) 2 := ⟨⟨kI_RX2, kc_X2_othersThan, ⟨by decide +kernel, by decide +kernel⟩, by decide +kernel⟩, ki_X2_othersThan, kz_X2_othersThan⟩
theorem kM_RX6_219 : Kw (.methodLink RX6 219 yX2_othersThan) := ⟨List.mem_append_right _ (List.mem_of_getElem? (i := 592) (by decide +kernel)), by decide +kernel⟩
theorem kc_X6_ifSpoiled : Kw (.code yX6_ifSpoiled cX6_ifSpoiled 3 (some .int)) := ⟨List.mem_append_right _ (List.mem_of_getElem? (i := 581) (by decide +kernel)), by decide +kernel⟩
theorem ki_X6_ifSpoiled : Kw (.instanceMethod yX6_ifSpoiled) := ⟨List.mem_append_right _ (List.mem_of_getElem? (i := 579) (by decide +kernel)), by decide +kernel⟩
theorem kz_X6_ifSpoiled : Kw (.selects yX6_ifSpoiled.cls yX6_ifSpoiled yX6_ifSpoiled) := ⟨List.mem_append_right _ (List.mem_of_getElem? (i := 580) (by decide +kernel)), by decide +kernel⟩
theorem kb_X6_ifSpoiled : VB yX6_ifSpoiled cX6_ifSpoiled 3 (some .int) 2 := ⟨⟨kI_RX6, kc_X6_ifSpoiled, ⟨by decide +kernel, by decide +kernel⟩, by decide +kernel⟩, ki_X6_ifSpoiled, kz_X6_ifSpoiled⟩
theorem kM_RX6_408 : Kw (.methodLink RX6 408 yX6_ifSpoiled) := ⟨List.mem_append_right _ (List.mem_of_getElem? (i := 578) (by decide +kernel)), by decide +kernel⟩
theorem kc_X6_bestStep : Kw (.code yX6_bestStep cX6_bestStep 3 (some .int)) := ⟨List.mem_append_right _ (List.mem_of_getElem? (i := 565) (by decide +kernel)), by decide +kernel⟩
theorem ki_X6_bestStep : Kw (.instanceMethod yX6_bestStep) := ⟨List.mem_append_right _ (List.mem_of_getElem? (i := 563) (by decide +kernel)), by decide +kernel⟩
theorem kz_X6_bestStep : Kw (.selects yX6_bestStep.cls yX6_bestStep yX6_bestStep) := ⟨List.mem_append_right _ (List.mem_of_getElem? (i := 564) (by decide +kernel)), by decide +kernel⟩
theorem kb_X6_bestStep : VB yX6_bestStep cX6_bestStep 3 (some .int) 2 := ⟨⟨kI_RX6, kc_X6_bestStep, ⟨by decide +kernel, by decide +kernel⟩, by decide +kernel⟩, ki_X6_bestStep, kz_X6_bestStep⟩
theorem kM_RX6_405 : Kw (.methodLink RX6 405 yX6_bestStep) := ⟨List.mem_append_right _ (List.mem_of_getElem? (i := 562) (by decide +kernel)), by decide +kernel⟩
theorem kc_X6_wholeError : Kw (.code yX6_wholeError cX6_wholeError 1 (some .int)) := ⟨List.mem_append_right _ (List.mem_of_getElem? (i := 375) (by decide +kernel)), by decide +kernel⟩
theorem ki_X6_wholeError : Kw (.instanceMethod yX6_wholeError) := ⟨List.mem_append_right _ (List.mem_of_getElem? (i := 374) (by decide +kernel)), by decide +kernel⟩
theorem kz_X6_wholeError : Kw (.selects yX6_wholeError.cls yX6_wholeError yX6_wholeError) := ⟨List.mem_append_left _ (List.mem_of_getElem? (i := 9) (by decide +kernel)), by decide +kernel⟩
theorem kb_X6_wholeError : VB yX6_wholeError cX6_wholeError 1 (some .int) 0 := ⟨⟨kI_RX6, kc_X6_wholeError, ⟨by decide +kernel, by decide +kernel⟩, by decide +kernel⟩, ki_X6_wholeError, kz_X6_wholeError⟩
theorem kM_RX6_315 : Kw (.methodLink RX6 315 yX6_wholeError) := ⟨List.mem_append_right _ (List.mem_of_getElem? (i := 372) (by decide +kernel)), by decide +kernel⟩
theorem kC_RX6_318 : Kw (.constantFloat RX6 318 (3212836864)) := ⟨List.mem_append_right _ (List.mem_of_getElem? (i := 404) (by decide +kernel)), by decide +kernel⟩
theorem kF_RX6_351 : Kw (.fieldLink RX6 351 "SteppedSamples$BlockText" "signs" "[I") := ⟨List.mem_append_right _ (List.mem_of_getElem? (i := 123) (by decide +kernel)), by decide +kernel⟩
theorem kF_RX6_27 : Kw (.fieldLink RX6 27 "SteppedSamples" "kept" "[Z") := ⟨List.mem_append_right _ (List.mem_of_getElem? (i := 217) (by decide +kernel)), by decide +kernel⟩
theorem kc_X6_mixSamplesAndBlocks : Kw (.code yX6_mixSamplesAndBlocks cX6_mixSamplesAndBlocks 7 (some .long)) := ⟨List.mem_append_right _ (List.mem_of_getElem? (i := 513) (by decide +kernel)), by decide +kernel⟩
theorem ki_X6_mixSamplesAndBlocks : Kw (.instanceMethod yX6_mixSamplesAndBlocks) := ⟨List.mem_append_right _ (List.mem_of_getElem? (i := 512) (by decide +kernel)), by decide +kernel⟩
theorem kz_X6_mixSamplesAndBlocks : Kw (.selects yX6_mixSamplesAndBlocks.cls yX6_mixSamplesAndBlocks yX6_mixSamplesAndBlocks) := ⟨List.mem_append_left _ (List.mem_of_getElem? (i := 16) (by decide +kernel)), by decide +kernel⟩
theorem kb_X6_mixSamplesAndBlocks : VB yX6_mixSamplesAndBlocks cX6_mixSamplesAndBlocks 7 (some .long) 1 := ⟨⟨kI_RX6, kc_X6_mixSamplesAndBlocks, ⟨by decide +kernel, by decide +kernel⟩, by decide +kernel⟩, ki_X6_mixSamplesAndBlocks, kz_X6_mixSamplesAndBlocks⟩
theorem kM_RX6_328 : Kw (.methodLink RX6 328 yX6_mixSamplesAndBlocks) := ⟨List.mem_append_right _ (List.mem_of_getElem? (i := 510) (by decide +kernel)), by decide +kernel⟩
theorem kc_X6_mixWhatWouldBe : Kw (.code yX6_mixWhatWouldBe cX6_mixWhatWouldBe 6 (some .long)) := ⟨List.mem_append_right _ (List.mem_of_getElem? (i := 561) (by decide +kernel)), by decide +kernel⟩
theorem ki_X6_mixWhatWouldBe : Kw (.instanceMethod yX6_mixWhatWouldBe) := ⟨List.mem_append_right _ (List.mem_of_getElem? (i := 560) (by decide +kernel)), by decide +kernel⟩
theorem kz_X6_mixWhatWouldBe : Kw (.selects yX6_mixWhatWouldBe.cls yX6_mixWhatWouldBe yX6_mixWhatWouldBe) := ⟨List.mem_append_left _ (List.mem_of_getElem? (i := 19) (by decide +kernel)), by decide +kernel⟩
theorem kb_X6_mixWhatWouldBe : VB yX6_mixWhatWouldBe cX6_mixWhatWouldBe 6 (some .long) 1 := ⟨⟨kI_RX6, kc_X6_mixWhatWouldBe, ⟨by decide +kernel, by decide +kernel⟩, by decide +kernel⟩, ki_X6_mixWhatWouldBe, kz_X6_mixWhatWouldBe⟩
theorem kM_RX6_332 : Kw (.methodLink RX6 332 yX6_mixWhatWouldBe) := ⟨List.mem_append_right _ (List.mem_of_getElem? (i := 558) (by decide +kernel)), by decide +kernel⟩
theorem kc_X6_meanSquare : Kw (.code yX6_meanSquare cX6_meanSquare 1 (some .double)) := ⟨List.mem_append_right _ (List.mem_of_getElem? (i := 367) (by decide +kernel)), by decide +kernel⟩
theorem ki_X6_meanSquare : Kw (.instanceMethod yX6_meanSquare) := ⟨List.mem_append_right _ (List.mem_of_getElem? (i := 365) (by decide +kernel)), by decide +kernel⟩
theorem kz_X6_meanSquare : Kw (.selects yX6_meanSquare.cls yX6_meanSquare yX6_meanSquare) := ⟨List.mem_append_right _ (List.mem_of_getElem? (i := 366) (by decide +kernel)), by decide +kernel⟩
theorem kb_X6_meanSquare : VB yX6_meanSquare cX6_meanSquare 1 (some .double) 0 := ⟨⟨kI_RX6, kc_X6_meanSquare, ⟨by decide +kernel, by decide +kernel⟩, by decide +kernel⟩, ki_X6_meanSquare, kz_X6_meanSquare⟩
theorem kM_RX6_335 : Kw (.methodLink RX6 335 yX6_meanSquare) := ⟨List.mem_append_right _ (List.mem_of_getElem? (i := 596) (by decide +kernel)), by decide +kernel⟩
theorem kc_X6_bitsOfDouble : Kw (.code yX6_bitsOfDouble cX6_bitsOfDouble 2 (some .long)) := ⟨List.mem_append_right _ (List.mem_of_getElem? (i := 599) (by decide +kernel)), by decide +kernel⟩
theorem ks_X6_bitsOfDouble : Kw (.static yX6_bitsOfDouble) := ⟨List.mem_append_right _ (List.mem_of_getElem? (i := 598) (by decide +kernel)), by decide +kernel⟩
theorem kb_X6_bitsOfDouble : SB yX6_bitsOfDouble cX6_bitsOfDouble 2 (some .long) 1 := ⟨⟨kI_RX6, kc_X6_bitsOfDouble, ⟨by decide +kernel, by decide +kernel⟩, by decide +kernel⟩, ks_X6_bitsOfDouble⟩
theorem kM_RX6_339 : Kw (.methodLink RX6 339 yX6_bitsOfDouble) := ⟨List.mem_append_right _ (List.mem_of_getElem? (i := 597) (by decide +kernel)), by decide +kernel⟩
theorem kc_X6_loudness : Kw (.code yX6_loudness cX6_loudness 4 (some .float)) := ⟨List.mem_append_right _ (List.mem_of_getElem? (i := 403) (by decide +kernel)), by decide +kernel⟩
theorem ki_X6_loudness : Kw (.instanceMethod yX6_loudness) := ⟨List.mem_append_right _ (List.mem_of_getElem? (i := 401) (by decide +kernel)), by decide +kernel⟩
theorem kz_X6_loudness : Kw (.selects yX6_loudness.cls yX6_loudness yX6_loudness) := ⟨List.mem_append_right _ (List.mem_of_getElem? (i := 402) (by decide +kernel)), by decide +kernel⟩
theorem kb_X6_loudness : VB yX6_loudness cX6_loudness 4 (some .float) 0 := ⟨⟨kI_RX6, kc_X6_loudness, ⟨by decide +kernel, by decide +kernel⟩, by decide +kernel⟩, ki_X6_loudness, kz_X6_loudness⟩
theorem kM_RX6_343 : Kw (.methodLink RX6 343 yX6_loudness) := ⟨List.mem_append_right _ (List.mem_of_getElem? (i := 604) (by decide +kernel)), by decide +kernel⟩
theorem kc_X6_bitsOfFloat : Kw (.code yX6_bitsOfFloat cX6_bitsOfFloat 1 (some .int)) := ⟨List.mem_append_right _ (List.mem_of_getElem? (i := 607) (by decide +kernel)), by decide +kernel⟩
theorem ks_X6_bitsOfFloat : Kw (.static yX6_bitsOfFloat) := ⟨List.mem_append_right _ (List.mem_of_getElem? (i := 606) (by decide +kernel)), by decide +kernel⟩
theorem kb_X6_bitsOfFloat : SB yX6_bitsOfFloat cX6_bitsOfFloat 1 (some .int) 1 := ⟨⟨kI_RX6, kc_X6_bitsOfFloat, ⟨by decide +kernel, by decide +kernel⟩, by decide +kernel⟩, ks_X6_bitsOfFloat⟩
theorem kM_RX6_347 : Kw (.methodLink RX6 347 yX6_bitsOfFloat) := ⟨List.mem_append_right _ (List.mem_of_getElem? (i := 605) (by decide +kernel)), by decide +kernel⟩
theorem kF_RX6_152 : Kw (.fieldLink RX6 152 "SteppedSamples$State" "settings" "[I") := ⟨List.mem_append_right _ (List.mem_of_getElem? (i := 42) (by decide +kernel)), by decide +kernel⟩
theorem kc_X6_count : Kw (.code yX6_count cX6_count 2 (some .int)) := ⟨List.mem_append_right _ (List.mem_of_getElem? (i := 413) (by decide +kernel)), by decide +kernel⟩
theorem ki_X6_count : Kw (.instanceMethod yX6_count) := ⟨List.mem_append_right _ (List.mem_of_getElem? (i := 411) (by decide +kernel)), by decide +kernel⟩
theorem kz_X6_count : Kw (.selects yX6_count.cls yX6_count yX6_count) := ⟨List.mem_append_right _ (List.mem_of_getElem? (i := 412) (by decide +kernel)), by decide +kernel⟩
theorem kb_X6_count : VB yX6_count cX6_count 2 (some .int) 1 := ⟨⟨kI_RX6, kc_X6_count, ⟨by decide +kernel, by decide +kernel⟩, by decide +kernel⟩, ki_X6_count, kz_X6_count⟩
theorem kM_RX6_321 : Kw (.methodLink RX6 321 yX6_count) := ⟨List.mem_append_right _ (List.mem_of_getElem? (i := 410) (by decide +kernel)), by decide +kernel⟩
theorem kC_RX6_319 : Kw (.constantLong RX6 319 (3329)) := ⟨List.mem_append_right _ (List.mem_of_getElem? (i := 409) (by decide +kernel)), by decide +kernel⟩
theorem kM_RX6_197 : Kw (.methodLink RX6 197 yX0_read) := ⟨List.mem_append_right _ (List.mem_of_getElem? (i := 336) (by decide +kernel)), by decide +kernel⟩
theorem kc_X6_refuseUnlessSlot : Kw (.code yX6_refuseUnlessSlot cX6_refuseUnlessSlot 2 none) := ⟨List.mem_append_right _ (List.mem_of_getElem? (i := 781) (by decide +kernel)), by decide +kernel⟩
theorem ki_X6_refuseUnlessSlot : Kw (.instanceMethod yX6_refuseUnlessSlot) := ⟨List.mem_append_right _ (List.mem_of_getElem? (i := 780) (by decide +kernel)), by decide +kernel⟩
theorem kz_X6_refuseUnlessSlot : Kw (.selects yX6_refuseUnlessSlot.cls yX6_refuseUnlessSlot yX6_refuseUnlessSlot) := ⟨List.mem_append_left _ (List.mem_of_getElem? (i := 23) (by decide +kernel)), by decide +kernel⟩
theorem kb_X6_refuseUnlessSlot : VB yX6_refuseUnlessSlot cX6_refuseUnlessSlot 2 none 1 := ⟨⟨kI_RX6, kc_X6_refuseUnlessSlot, ⟨by decide +kernel, by decide +kernel⟩, by decide +kernel⟩, ki_X6_refuseUnlessSlot, kz_X6_refuseUnlessSlot⟩
theorem kM_RX6_227 : Kw (.methodLink RX6 227 yX6_refuseUnlessSlot) := ⟨List.mem_append_right _ (List.mem_of_getElem? (i := 778) (by decide +kernel)), by decide +kernel⟩
theorem kF_RX6_23 : Kw (.fieldLink RX6 23 "SteppedSamples" "slots" "[LSteppedSamples$State;") := ⟨List.mem_append_right _ (List.mem_of_getElem? (i := 216) (by decide +kernel)), by decide +kernel⟩
theorem kM_RX6_230 : Kw (.methodLink RX6 230 yX4_copyFrom) := ⟨List.mem_append_right _ (List.mem_of_getElem? (i := 783) (by decide +kernel)), by decide +kernel⟩
theorem kc_X6_isNumber : Kw (.code yX6_isNumber cX6_isNumber 1 (some .boolean)) := ⟨List.mem_append_right _ (List.mem_of_getElem? (i := 813) (by decide +kernel)), by decide +kernel⟩
theorem ks_X6_isNumber : Kw (.static yX6_isNumber) := ⟨List.mem_append_right _ (List.mem_of_getElem? (i := 812) (by decide +kernel)), by decide +kernel⟩
theorem kb_X6_isNumber : SB yX6_isNumber cX6_isNumber 1 (some .boolean) 1 := ⟨⟨kI_RX6, kc_X6_isNumber, ⟨by decide +kernel, by decide +kernel⟩, by decide +kernel⟩, ks_X6_isNumber⟩
theorem kM_RX6_241 : Kw (.methodLink RX6 241 yX6_isNumber) := ⟨List.mem_append_right _ (List.mem_of_getElem? (i := 811) (by decide +kernel)), by decide +kernel⟩
theorem kM_RX6_308 : Kw (.methodLink RX6 308 yX1_errorAsBlock) := ⟨List.mem_append_right _ (List.mem_of_getElem? (i := 853) (by decide +kernel)), by decide +kernel⟩
theorem kM_RX6_293 : Kw (.methodLink RX6 293 yX5_codeTowards) := ⟨List.mem_append_right _ (List.mem_of_getElem? (i := 845) (by decide +kernel)), by decide +kernel⟩
theorem kF_RX6_299 : Kw (.fieldLink RX6 299 "SteppedSamples$Walk" "guess" "I") := ⟨List.mem_append_right _ (List.mem_of_getElem? (i := 174) (by decide +kernel)), by decide +kernel⟩
theorem kc_X0_tellsBlock : Kw (.code yX0_tellsBlock cX0_tellsBlock 1 (some .boolean)) := ⟨List.mem_append_right _ (List.mem_of_getElem? (i := 739) (by decide +kernel)), by decide +kernel⟩
theorem ki_X0_tellsBlock : Kw (.instanceMethod yX0_tellsBlock) := ⟨List.mem_append_right _ (List.mem_of_getElem? (i := 737) (by decide +kernel)), by decide +kernel⟩
theorem kz_X0_tellsBlock : Kw (.selects yX0_tellsBlock.cls yX0_tellsBlock yX0_tellsBlock) := ⟨List.mem_append_right _ (List.mem_of_getElem? (i := 738) (by decide +kernel)), by decide +kernel⟩
theorem kb_X0_tellsBlock : VB yX0_tellsBlock cX0_tellsBlock 1 (some .boolean) 0 := ⟨⟨kI_RX0, kc_X0_tellsBlock, ⟨by decide +kernel, by decide +kernel⟩, by decide +kernel⟩, ki_X0_tellsBlock, kz_X0_tellsBlock⟩
theorem kM_RX6_200 : Kw (.methodLink RX6 200 yX0_tellsBlock) := ⟨List.mem_append_right _ (List.mem_of_getElem? (i := 736) (by decide +kernel)), by decide +kernel⟩
theorem kF_RX6_203 : Kw (.fieldLink RX6 203 "SteppedSamples$BlockText" "codeCount" "I") := ⟨List.mem_append_right _ (List.mem_of_getElem? (i := 133) (by decide +kernel)), by decide +kernel⟩
theorem kM_RX6_206 : Kw (.methodLink RX6 206 yX4_codesOf) := ⟨List.mem_append_right _ (List.mem_of_getElem? (i := 741) (by decide +kernel)), by decide +kernel⟩
theorem kc_X4_putBlock : Kw (.code yX4_putBlock cX4_putBlock 5 none) := ⟨List.mem_append_right _ (List.mem_of_getElem? (i := 750) (by decide +kernel)), by decide +kernel⟩
theorem ki_X4_putBlock : Kw (.instanceMethod yX4_putBlock) := ⟨List.mem_append_right _ (List.mem_of_getElem? (i := 748) (by decide +kernel)), by decide +kernel⟩
theorem kz_X4_putBlock : Kw (.selects yX4_putBlock.cls yX4_putBlock yX4_putBlock) := ⟨List.mem_append_right _ (List.mem_of_getElem? (i := 749) (by decide +kernel)), by decide +kernel⟩
theorem kb_X4_putBlock : VB yX4_putBlock cX4_putBlock 5 none 2 := ⟨⟨kI_RX4, kc_X4_putBlock, ⟨by decide +kernel, by decide +kernel⟩, by decide +kernel⟩, ki_X4_putBlock, kz_X4_putBlock⟩
theorem kM_RX6_211 : Kw (.methodLink RX6 211 yX4_putBlock) := ⟨List.mem_append_right _ (List.mem_of_getElem? (i := 747) (by decide +kernel)), by decide +kernel⟩
theorem kc_X6_isSetting : Kw (.code yX6_isSetting cX6_isSetting 1 (some .boolean)) := ⟨List.mem_append_right _ (List.mem_of_getElem? (i := 688) (by decide +kernel)), by decide +kernel⟩
theorem ks_X6_isSetting : Kw (.static yX6_isSetting) := ⟨List.mem_append_right _ (List.mem_of_getElem? (i := 687) (by decide +kernel)), by decide +kernel⟩
theorem kb_X6_isSetting : SB yX6_isSetting cX6_isSetting 1 (some .boolean) 1 := ⟨⟨kI_RX6, kc_X6_isSetting, ⟨by decide +kernel, by decide +kernel⟩, by decide +kernel⟩, ks_X6_isSetting⟩
theorem kM_RX6_139 : Kw (.methodLink RX6 139 yX6_isSetting) := ⟨List.mem_append_right _ (List.mem_of_getElem? (i := 686) (by decide +kernel)), by decide +kernel⟩
theorem kc_X6_leastOfSetting : Kw (.code yX6_leastOfSetting cX6_leastOfSetting 1 (some .int)) := ⟨List.mem_append_right _ (List.mem_of_getElem? (i := 692) (by decide +kernel)), by decide +kernel⟩
theorem ks_X6_leastOfSetting : Kw (.static yX6_leastOfSetting) := ⟨List.mem_append_right _ (List.mem_of_getElem? (i := 691) (by decide +kernel)), by decide +kernel⟩
theorem kb_X6_leastOfSetting : SB yX6_leastOfSetting cX6_leastOfSetting 1 (some .int) 1 := ⟨⟨kI_RX6, kc_X6_leastOfSetting, ⟨by decide +kernel, by decide +kernel⟩, by decide +kernel⟩, ks_X6_leastOfSetting⟩
theorem kM_RX6_144 : Kw (.methodLink RX6 144 yX6_leastOfSetting) := ⟨List.mem_append_right _ (List.mem_of_getElem? (i := 690) (by decide +kernel)), by decide +kernel⟩
theorem kc_X6_mostOfSetting : Kw (.code yX6_mostOfSetting cX6_mostOfSetting 1 (some .int)) := ⟨List.mem_append_right _ (List.mem_of_getElem? (i := 695) (by decide +kernel)), by decide +kernel⟩
theorem ks_X6_mostOfSetting : Kw (.static yX6_mostOfSetting) := ⟨List.mem_append_right _ (List.mem_of_getElem? (i := 694) (by decide +kernel)), by decide +kernel⟩
theorem kb_X6_mostOfSetting : SB yX6_mostOfSetting cX6_mostOfSetting 1 (some .int) 1 := ⟨⟨kI_RX6, kc_X6_mostOfSetting, ⟨by decide +kernel, by decide +kernel⟩, by decide +kernel⟩, ks_X6_mostOfSetting⟩
theorem kM_RX6_147 : Kw (.methodLink RX6 147 yX6_mostOfSetting) := ⟨List.mem_append_right _ (List.mem_of_getElem? (i := 693) (by decide +kernel)), by decide +kernel⟩
theorem kM_RX6_246 : Kw (.methodLink RX6 246 yX5_stepOf) := ⟨List.mem_append_right _ (List.mem_of_getElem? (i := 815) (by decide +kernel)), by decide +kernel⟩
theorem kM_RX6_135 : Kw (.methodLink RX6 135 yX6_copyRow) := ⟨List.mem_append_right _ (List.mem_of_getElem? (i := 678) (by decide +kernel)), by decide +kernel⟩
theorem kc_X3_restore : Kw (.code yX3_restore cX3_restore 2 none) := ⟨List.mem_append_right _ (List.mem_of_getElem? (i := 803) (by decide +kernel)), by decide +kernel⟩
theorem ki_X3_restore : Kw (.instanceMethod yX3_restore) := ⟨List.mem_append_right _ (List.mem_of_getElem? (i := 801) (by decide +kernel)), by decide +kernel⟩
theorem kz_X3_restore : Kw (.selects yX3_restore.cls yX3_restore yX3_restore) := ⟨List.mem_append_right _ (List.mem_of_getElem? (i := 802) (by decide +kernel)), by decide +kernel⟩
theorem kb_X3_restore : VB yX3_restore cX3_restore 2 none 1 := ⟨⟨kI_RX3, kc_X3_restore, ⟨by decide +kernel, by decide +kernel⟩, by decide +kernel⟩, ki_X3_restore, kz_X3_restore⟩
theorem kM_RX6_238 : Kw (.methodLink RX6 238 yX3_restore) := ⟨List.mem_append_right _ (List.mem_of_getElem? (i := 800) (by decide +kernel)), by decide +kernel⟩
theorem kc_X4_becomeSilence : Kw (.code yX4_becomeSilence cX4_becomeSilence 3 none) := ⟨List.mem_append_right _ (List.mem_of_getElem? (i := 621) (by decide +kernel)), by decide +kernel⟩
theorem ki_X4_becomeSilence : Kw (.instanceMethod yX4_becomeSilence) := ⟨List.mem_append_right _ (List.mem_of_getElem? (i := 619) (by decide +kernel)), by decide +kernel⟩
theorem kz_X4_becomeSilence : Kw (.selects yX4_becomeSilence.cls yX4_becomeSilence yX4_becomeSilence) := ⟨List.mem_append_right _ (List.mem_of_getElem? (i := 620) (by decide +kernel)), by decide +kernel⟩
theorem kb_X4_becomeSilence : VB yX4_becomeSilence cX4_becomeSilence 3 none 1 := ⟨⟨kI_RX4, kc_X4_becomeSilence, ⟨by decide +kernel, by decide +kernel⟩, by decide +kernel⟩, ki_X4_becomeSilence, kz_X4_becomeSilence⟩
theorem kM_RX6_76 : Kw (.methodLink RX6 76 yX4_becomeSilence) := ⟨List.mem_append_right _ (List.mem_of_getElem? (i := 618) (by decide +kernel)), by decide +kernel⟩
theorem kc_X0_tell : Kw (.code yX0_tell cX0_tell 5 none) := ⟨List.mem_append_right _ (List.mem_of_getElem? (i := 762) (by decide +kernel)), by decide +kernel⟩
theorem ki_X0_tell : Kw (.instanceMethod yX0_tell) := ⟨List.mem_append_right _ (List.mem_of_getElem? (i := 760) (by decide +kernel)), by decide +kernel⟩
theorem kz_X0_tell : Kw (.selects yX0_tell.cls yX0_tell yX0_tell) := ⟨List.mem_append_right _ (List.mem_of_getElem? (i := 761) (by decide +kernel)), by decide +kernel⟩
theorem kb_X0_tell : VB yX0_tell cX0_tell 5 none 2 := ⟨⟨kI_RX0, kc_X0_tell, ⟨by decide +kernel, by decide +kernel⟩, by decide +kernel⟩, ki_X0_tell, kz_X0_tell⟩
theorem kM_RX6_223 : Kw (.methodLink RX6 223 yX0_tell) := ⟨List.mem_append_right _ (List.mem_of_getElem? (i := 759) (by decide +kernel)), by decide +kernel⟩
theorem kF_RX7_44 : Kw (.fieldLink RX7 44 "SteppedSamplesModel" "thrown" "I") := ⟨List.mem_append_right _ (List.mem_of_getElem? (i := 868) (by decide +kernel)), by decide +kernel⟩
theorem kF_RX7_48 : Kw (.fieldLink RX7 48 "SteppedSamplesModel" "savedMany" "I") := ⟨List.mem_append_right _ (List.mem_of_getElem? (i := 871) (by decide +kernel)), by decide +kernel⟩
theorem kF_RX7_13 : Kw (.fieldLink RX7 13 "SteppedSamplesModel" "saved" "[I") := ⟨List.mem_append_right _ (List.mem_of_getElem? (i := 870) (by decide +kernel)), by decide +kernel⟩
theorem kF_RX7_7 : Kw (.fieldLink RX7 7 "SteppedSamplesModel" "s" "[I") := ⟨List.mem_append_right _ (List.mem_of_getElem? (i := 869) (by decide +kernel)), by decide +kernel⟩
theorem kI_RX7 : Kw (.initialized RX7) := ⟨List.mem_append_right _ (List.mem_of_getElem? (i := 8) (by decide +kernel)), by decide +kernel⟩
theorem kc_X7_clipped : Kw (.code yX7_clipped cX7_clipped 1 (some .int)) := ⟨List.mem_append_right _ (List.mem_of_getElem? (i := 969) (by decide +kernel)), by decide +kernel⟩
theorem ks_X7_clipped : Kw (.static yX7_clipped) := ⟨List.mem_append_right _ (List.mem_of_getElem? (i := 968) (by decide +kernel)), by decide +kernel⟩
theorem kb_X7_clipped : SB yX7_clipped cX7_clipped 1 (some .int) 1 := ⟨⟨kI_RX7, kc_X7_clipped, ⟨by decide +kernel, by decide +kernel⟩, by decide +kernel⟩, ks_X7_clipped⟩
theorem kM_RX7_67 : Kw (.methodLink RX7 67 yX7_clipped) := ⟨List.mem_append_right _ (List.mem_of_getElem? (i := 967) (by decide +kernel)), by decide +kernel⟩
theorem kc_X7_notCoded : Kw (.code yX7_notCoded cX7_notCoded 2 none) := ⟨List.mem_append_right _ (List.mem_of_getElem? (i := 951) (by decide +kernel)), by decide +kernel⟩
theorem ki_X7_notCoded : Kw (.instanceMethod yX7_notCoded) := ⟨List.mem_append_right _ (List.mem_of_getElem? (i := 950) (by decide +kernel)), by decide +kernel⟩
theorem kz_X7_notCoded : Kw (.selects yX7_notCoded.cls yX7_notCoded yX7_notCoded) := ⟨List.mem_append_left _ (List.mem_of_getElem? (i := 26) (by decide +kernel)), by decide +kernel⟩
theorem kb_X7_notCoded : VB yX7_notCoded cX7_notCoded 2 none 0 := ⟨⟨kI_RX7, kc_X7_notCoded, ⟨by decide +kernel, by decide +kernel⟩, by decide +kernel⟩, ki_X7_notCoded, kz_X7_notCoded⟩
theorem kM_RX7_103 : Kw (.methodLink RX7 103 yX7_notCoded) := ⟨List.mem_append_right _ (List.mem_of_getElem? (i := 948) (by decide +kernel)), by decide +kernel⟩
theorem kc_X7_shape : Kw (.code yX7_shape cX7_shape 6 (some .int)) := ⟨List.mem_append_right _ (List.mem_of_getElem? (i := 966) (by decide +kernel)), by decide +kernel⟩
theorem ks_X7_shape : Kw (.static yX7_shape) := ⟨List.mem_append_right _ (List.mem_of_getElem? (i := 965) (by decide +kernel)), by decide +kernel⟩
theorem kb_X7_shape : SB yX7_shape cX7_shape 6 (some .int) 4 := ⟨⟨kI_RX7, kc_X7_shape, ⟨by decide +kernel, by decide +kernel⟩, by decide +kernel⟩, ks_X7_shape⟩
theorem kM_RX7_106 : Kw (.methodLink RX7 106 yX7_shape) := ⟨List.mem_append_right _ (List.mem_of_getElem? (i := 964) (by decide +kernel)), by decide +kernel⟩
theorem kc_X7_holds : Kw (.code yX7_holds cX7_holds 2 (some .boolean)) := ⟨List.mem_append_right _ (List.mem_of_getElem? (i := 943) (by decide +kernel)), by decide +kernel⟩
theorem ki_X7_holds : Kw (.instanceMethod yX7_holds) := ⟨List.mem_append_right _ (List.mem_of_getElem? (i := 942) (by decide +kernel)), by decide +kernel⟩
theorem kz_X7_holds : Kw (.selects yX7_holds.cls yX7_holds yX7_holds) := ⟨List.mem_append_left _ (List.mem_of_getElem? (i := 24) (by decide +kernel)), by decide +kernel⟩
theorem kb_X7_holds : VB yX7_holds cX7_holds 2 (some .boolean) 1 := ⟨⟨kI_RX7, kc_X7_holds, ⟨by decide +kernel, by decide +kernel⟩, by decide +kernel⟩, ki_X7_holds, kz_X7_holds⟩
theorem kM_RX7_97 : Kw (.methodLink RX7 97 yX7_holds) := ⟨List.mem_append_right _ (List.mem_of_getElem? (i := 940) (by decide +kernel)), by decide +kernel⟩
theorem kc_X7_save : Kw (.code yX7_save cX7_save 2 none) := ⟨List.mem_append_right _ (List.mem_of_getElem? (i := 947) (by decide +kernel)), by decide +kernel⟩
theorem ki_X7_save : Kw (.instanceMethod yX7_save) := ⟨List.mem_append_right _ (List.mem_of_getElem? (i := 946) (by decide +kernel)), by decide +kernel⟩
theorem kz_X7_save : Kw (.selects yX7_save.cls yX7_save yX7_save) := ⟨List.mem_append_left _ (List.mem_of_getElem? (i := 25) (by decide +kernel)), by decide +kernel⟩
theorem kb_X7_save : VB yX7_save cX7_save 2 none 0 := ⟨⟨kI_RX7, kc_X7_save, ⟨by decide +kernel, by decide +kernel⟩, by decide +kernel⟩, ki_X7_save, kz_X7_save⟩
theorem kM_RX7_100 : Kw (.methodLink RX7 100 yX7_save) := ⟨List.mem_append_right _ (List.mem_of_getElem? (i := 944) (by decide +kernel)), by decide +kernel⟩
theorem kc_X7_in : Kw (.code yX7_in cX7_in 3 (some .boolean)) := ⟨List.mem_append_right _ (List.mem_of_getElem? (i := 939) (by decide +kernel)), by decide +kernel⟩
theorem ks_X7_in : Kw (.static yX7_in) := ⟨List.mem_append_right _ (List.mem_of_getElem? (i := 938) (by decide +kernel)), by decide +kernel⟩
theorem kb_X7_in : SB yX7_in cX7_in 3 (some .boolean) 3 := ⟨⟨kI_RX7, kc_X7_in, ⟨by decide +kernel, by decide +kernel⟩, by decide +kernel⟩, ks_X7_in⟩
theorem kM_RX7_51 : Kw (.methodLink RX7 51 yX7_in) := ⟨List.mem_append_right _ (List.mem_of_getElem? (i := 937) (by decide +kernel)), by decide +kernel⟩
theorem kF_RX7_29 : Kw (.fieldLink RX7 29 "SteppedSamplesModel" "made" "[I") := ⟨List.mem_append_right _ (List.mem_of_getElem? (i := 877) (by decide +kernel)), by decide +kernel⟩
theorem kF_RX7_23 : Kw (.fieldLink RX7 23 "SteppedSamplesModel" "text" "[I") := ⟨List.mem_append_right _ (List.mem_of_getElem? (i := 874) (by decide +kernel)), by decide +kernel⟩
theorem kF_RX7_125 : Kw (.fieldLink RX7 125 "SteppedSamplesModel" "length" "I") := ⟨List.mem_append_right _ (List.mem_of_getElem? (i := 875) (by decide +kernel)), by decide +kernel⟩
theorem kc_X7_isSample : Kw (.code yX7_isSample cX7_isSample 2 (some .boolean)) := ⟨List.mem_append_right _ (List.mem_of_getElem? (i := 959) (by decide +kernel)), by decide +kernel⟩
theorem ki_X7_isSample : Kw (.instanceMethod yX7_isSample) := ⟨List.mem_append_right _ (List.mem_of_getElem? (i := 958) (by decide +kernel)), by decide +kernel⟩
theorem kz_X7_isSample : Kw (.selects yX7_isSample.cls yX7_isSample yX7_isSample) := ⟨List.mem_append_left _ (List.mem_of_getElem? (i := 27) (by decide +kernel)), by decide +kernel⟩
theorem kb_X7_isSample : VB yX7_isSample cX7_isSample 2 (some .boolean) 1 := ⟨⟨kI_RX7, kc_X7_isSample, ⟨by decide +kernel, by decide +kernel⟩, by decide +kernel⟩, ki_X7_isSample, kz_X7_isSample⟩
theorem kM_RX7_63 : Kw (.methodLink RX7 63 yX7_isSample) := ⟨List.mem_append_right _ (List.mem_of_getElem? (i := 956) (by decide +kernel)), by decide +kernel⟩
theorem kF_RX7_26 : Kw (.fieldLink RX7 26 "SteppedSamplesModel" "table" "[I") := ⟨List.mem_append_right _ (List.mem_of_getElem? (i := 876) (by decide +kernel)), by decide +kernel⟩
theorem kc_X7_codeFor : Kw (.code yX7_codeFor cX7_codeFor 7 (some .int)) := ⟨List.mem_append_right _ (List.mem_of_getElem? (i := 1020) (by decide +kernel)), by decide +kernel⟩
theorem ki_X7_codeFor : Kw (.instanceMethod yX7_codeFor) := ⟨List.mem_append_right _ (List.mem_of_getElem? (i := 1019) (by decide +kernel)), by decide +kernel⟩
theorem kz_X7_codeFor : Kw (.selects yX7_codeFor.cls yX7_codeFor yX7_codeFor) := ⟨List.mem_append_left _ (List.mem_of_getElem? (i := 36) (by decide +kernel)), by decide +kernel⟩
theorem kb_X7_codeFor : VB yX7_codeFor cX7_codeFor 7 (some .int) 3 := ⟨⟨kI_RX7, kc_X7_codeFor, ⟨by decide +kernel, by decide +kernel⟩, by decide +kernel⟩, ki_X7_codeFor, kz_X7_codeFor⟩
theorem kM_RX7_71 : Kw (.methodLink RX7 71 yX7_codeFor) := ⟨List.mem_append_right _ (List.mem_of_getElem? (i := 1017) (by decide +kernel)), by decide +kernel⟩
theorem kc_X7_nextGuess : Kw (.code yX7_nextGuess cX7_nextGuess 6 (some .int)) := ⟨List.mem_append_right _ (List.mem_of_getElem? (i := 985) (by decide +kernel)), by decide +kernel⟩
theorem ki_X7_nextGuess : Kw (.instanceMethod yX7_nextGuess) := ⟨List.mem_append_right _ (List.mem_of_getElem? (i := 984) (by decide +kernel)), by decide +kernel⟩
theorem kz_X7_nextGuess : Kw (.selects yX7_nextGuess.cls yX7_nextGuess yX7_nextGuess) := ⟨List.mem_append_left _ (List.mem_of_getElem? (i := 30) (by decide +kernel)), by decide +kernel⟩
theorem kb_X7_nextGuess : VB yX7_nextGuess cX7_nextGuess 6 (some .int) 3 := ⟨⟨kI_RX7, kc_X7_nextGuess, ⟨by decide +kernel, by decide +kernel⟩, by decide +kernel⟩, ki_X7_nextGuess, kz_X7_nextGuess⟩
theorem kM_RX7_75 : Kw (.methodLink RX7 75 yX7_nextGuess) := ⟨List.mem_append_right _ (List.mem_of_getElem? (i := 982) (by decide +kernel)), by decide +kernel⟩
theorem kc_X7_nextNumber : Kw (.code yX7_nextNumber cX7_nextNumber 4 (some .int)) := ⟨List.mem_append_right _ (List.mem_of_getElem? (i := 988) (by decide +kernel)), by decide +kernel⟩
theorem ks_X7_nextNumber : Kw (.static yX7_nextNumber) := ⟨List.mem_append_right _ (List.mem_of_getElem? (i := 987) (by decide +kernel)), by decide +kernel⟩
theorem kb_X7_nextNumber : SB yX7_nextNumber cX7_nextNumber 4 (some .int) 2 := ⟨⟨kI_RX7, kc_X7_nextNumber, ⟨by decide +kernel, by decide +kernel⟩, by decide +kernel⟩, ks_X7_nextNumber⟩
theorem kM_RX7_78 : Kw (.methodLink RX7 78 yX7_nextNumber) := ⟨List.mem_append_right _ (List.mem_of_getElem? (i := 986) (by decide +kernel)), by decide +kernel⟩
theorem kc_X7_square : Kw (.code yX7_square cX7_square 1 (some .int)) := ⟨List.mem_append_right _ (List.mem_of_getElem? (i := 1023) (by decide +kernel)), by decide +kernel⟩
theorem ks_X7_square : Kw (.static yX7_square) := ⟨List.mem_append_right _ (List.mem_of_getElem? (i := 1022) (by decide +kernel)), by decide +kernel⟩
theorem kb_X7_square : SB yX7_square cX7_square 1 (some .int) 1 := ⟨⟨kI_RX7, kc_X7_square, ⟨by decide +kernel, by decide +kernel⟩, by decide +kernel⟩, ks_X7_square⟩
theorem kM_RX7_82 : Kw (.methodLink RX7 82 yX7_square) := ⟨List.mem_append_right _ (List.mem_of_getElem? (i := 1021) (by decide +kernel)), by decide +kernel⟩
theorem kc_X7_errorOf : Kw (.code yX7_errorOf cX7_errorOf 9 (some .int)) := ⟨List.mem_append_right _ (List.mem_of_getElem? (i := 1016) (by decide +kernel)), by decide +kernel⟩
theorem ki_X7_errorOf : Kw (.instanceMethod yX7_errorOf) := ⟨List.mem_append_right _ (List.mem_of_getElem? (i := 1015) (by decide +kernel)), by decide +kernel⟩
theorem kz_X7_errorOf : Kw (.selects yX7_errorOf.cls yX7_errorOf yX7_errorOf) := ⟨List.mem_append_left _ (List.mem_of_getElem? (i := 35) (by decide +kernel)), by decide +kernel⟩
theorem kb_X7_errorOf : VB yX7_errorOf cX7_errorOf 9 (some .int) 3 := ⟨⟨kI_RX7, kc_X7_errorOf, ⟨by decide +kernel, by decide +kernel⟩, by decide +kernel⟩, ki_X7_errorOf, kz_X7_errorOf⟩
theorem kM_RX7_85 : Kw (.methodLink RX7 85 yX7_errorOf) := ⟨List.mem_append_right _ (List.mem_of_getElem? (i := 1013) (by decide +kernel)), by decide +kernel⟩
theorem kc_X7_best : Kw (.code yX7_best cX7_best 5 (some .int)) := ⟨List.mem_append_right _ (List.mem_of_getElem? (i := 1012) (by decide +kernel)), by decide +kernel⟩
theorem ki_X7_best : Kw (.instanceMethod yX7_best) := ⟨List.mem_append_right _ (List.mem_of_getElem? (i := 1011) (by decide +kernel)), by decide +kernel⟩
theorem kz_X7_best : Kw (.selects yX7_best.cls yX7_best yX7_best) := ⟨List.mem_append_left _ (List.mem_of_getElem? (i := 34) (by decide +kernel)), by decide +kernel⟩
theorem kb_X7_best : VB yX7_best cX7_best 5 (some .int) 2 := ⟨⟨kI_RX7, kc_X7_best, ⟨by decide +kernel, by decide +kernel⟩, by decide +kernel⟩, ki_X7_best, kz_X7_best⟩
theorem kM_RX7_110 : Kw (.methodLink RX7 110 yX7_best) := ⟨List.mem_append_right _ (List.mem_of_getElem? (i := 1009) (by decide +kernel)), by decide +kernel⟩
theorem kc_X7_areSamples : Kw (.code yX7_areSamples cX7_areSamples 3 (some .boolean)) := ⟨List.mem_append_right _ (List.mem_of_getElem? (i := 1171) (by decide +kernel)), by decide +kernel⟩
theorem ki_X7_areSamples : Kw (.instanceMethod yX7_areSamples) := ⟨List.mem_append_right _ (List.mem_of_getElem? (i := 1170) (by decide +kernel)), by decide +kernel⟩
theorem kz_X7_areSamples : Kw (.selects yX7_areSamples.cls yX7_areSamples yX7_areSamples) := ⟨List.mem_append_left _ (List.mem_of_getElem? (i := 56) (by decide +kernel)), by decide +kernel⟩
theorem kb_X7_areSamples : VB yX7_areSamples cX7_areSamples 3 (some .boolean) 2 := ⟨⟨kI_RX7, kc_X7_areSamples, ⟨by decide +kernel, by decide +kernel⟩, by decide +kernel⟩, ki_X7_areSamples, kz_X7_areSamples⟩
theorem kM_RX7_191 : Kw (.methodLink RX7 191 yX7_areSamples) := ⟨List.mem_append_right _ (List.mem_of_getElem? (i := 1168) (by decide +kernel)), by decide +kernel⟩
theorem kC_RX7_208 : Kw (.constantDouble RX7 208 (4611686018427387904)) := ⟨List.mem_append_right _ (List.mem_of_getElem? (i := 1219) (by decide +kernel)), by decide +kernel⟩
theorem kC_RX7_212 : Kw (.constantLong RX7 212 (4503599627370496)) := ⟨List.mem_append_right _ (List.mem_of_getElem? (i := 1221) (by decide +kernel)), by decide +kernel⟩
theorem kC_RX7_214 : Kw (.constantDouble RX7 214 (4841369599423283200)) := ⟨List.mem_append_right _ (List.mem_of_getElem? (i := 1222) (by decide +kernel)), by decide +kernel⟩
theorem kC_RX7_210 : Kw (.constantDouble RX7 210 (4602678819172646912)) := ⟨List.mem_append_right _ (List.mem_of_getElem? (i := 1220) (by decide +kernel)), by decide +kernel⟩
theorem kC_RX7_206 : Kw (.constantLong RX7 206 (1023)) := ⟨List.mem_append_right _ (List.mem_of_getElem? (i := 1218) (by decide +kernel)), by decide +kernel⟩
theorem kc_X7_isCoded : Kw (.code yX7_isCoded cX7_isCoded 1 (some .boolean)) := ⟨List.mem_append_right _ (List.mem_of_getElem? (i := 977) (by decide +kernel)), by decide +kernel⟩
theorem ki_X7_isCoded : Kw (.instanceMethod yX7_isCoded) := ⟨List.mem_append_right _ (List.mem_of_getElem? (i := 976) (by decide +kernel)), by decide +kernel⟩
theorem kz_X7_isCoded : Kw (.selects yX7_isCoded.cls yX7_isCoded yX7_isCoded) := ⟨List.mem_append_left _ (List.mem_of_getElem? (i := 28) (by decide +kernel)), by decide +kernel⟩
theorem kb_X7_isCoded : VB yX7_isCoded cX7_isCoded 1 (some .boolean) 0 := ⟨⟨kI_RX7, kc_X7_isCoded, ⟨by decide +kernel, by decide +kernel⟩, by decide +kernel⟩, ki_X7_isCoded, kz_X7_isCoded⟩
theorem kM_RX7_55 : Kw (.methodLink RX7 55 yX7_isCoded) := ⟨List.mem_append_right _ (List.mem_of_getElem? (i := 974) (by decide +kernel)), by decide +kernel⟩
theorem kc_X7_blocks : Kw (.code yX7_blocks cX7_blocks 1 (some .int)) := ⟨List.mem_append_right _ (List.mem_of_getElem? (i := 1004) (by decide +kernel)), by decide +kernel⟩
theorem ki_X7_blocks : Kw (.instanceMethod yX7_blocks) := ⟨List.mem_append_right _ (List.mem_of_getElem? (i := 1003) (by decide +kernel)), by decide +kernel⟩
theorem kz_X7_blocks : Kw (.selects yX7_blocks.cls yX7_blocks yX7_blocks) := ⟨List.mem_append_left _ (List.mem_of_getElem? (i := 32) (by decide +kernel)), by decide +kernel⟩
theorem kb_X7_blocks : VB yX7_blocks cX7_blocks 1 (some .int) 0 := ⟨⟨kI_RX7, kc_X7_blocks, ⟨by decide +kernel, by decide +kernel⟩, by decide +kernel⟩, ki_X7_blocks, kz_X7_blocks⟩
theorem kM_RX7_59 : Kw (.methodLink RX7 59 yX7_blocks) := ⟨List.mem_append_right _ (List.mem_of_getElem? (i := 1001) (by decide +kernel)), by decide +kernel⟩
theorem kF_RX7_32 : Kw (.fieldLink RX7 32 "SteppedSamplesModel" "behind" "[I") := ⟨List.mem_append_right _ (List.mem_of_getElem? (i := 878) (by decide +kernel)), by decide +kernel⟩
theorem kF_RX7_35 : Kw (.fieldLink RX7 35 "SteppedSamplesModel" "leads" "[I") := ⟨List.mem_append_right _ (List.mem_of_getElem? (i := 879) (by decide +kernel)), by decide +kernel⟩
theorem kc_X7_filled : Kw (.code yX7_filled cX7_filled 4 (some .int)) := ⟨List.mem_append_right _ (List.mem_of_getElem? (i := 992) (by decide +kernel)), by decide +kernel⟩
theorem ki_X7_filled : Kw (.instanceMethod yX7_filled) := ⟨List.mem_append_right _ (List.mem_of_getElem? (i := 991) (by decide +kernel)), by decide +kernel⟩
theorem kz_X7_filled : Kw (.selects yX7_filled.cls yX7_filled yX7_filled) := ⟨List.mem_append_left _ (List.mem_of_getElem? (i := 31) (by decide +kernel)), by decide +kernel⟩
theorem kb_X7_filled : VB yX7_filled cX7_filled 4 (some .int) 1 := ⟨⟨kI_RX7, kc_X7_filled, ⟨by decide +kernel, by decide +kernel⟩, by decide +kernel⟩, ki_X7_filled, kz_X7_filled⟩
theorem kM_RX7_91 : Kw (.methodLink RX7 91 yX7_filled) := ⟨List.mem_append_right _ (List.mem_of_getElem? (i := 989) (by decide +kernel)), by decide +kernel⟩
theorem kc_X7_decodes : Kw (.code yX7_decodes cX7_decodes 6 none) := ⟨List.mem_append_right _ (List.mem_of_getElem? (i := 981) (by decide +kernel)), by decide +kernel⟩
theorem ki_X7_decodes : Kw (.instanceMethod yX7_decodes) := ⟨List.mem_append_right _ (List.mem_of_getElem? (i := 980) (by decide +kernel)), by decide +kernel⟩
theorem kz_X7_decodes : Kw (.selects yX7_decodes.cls yX7_decodes yX7_decodes) := ⟨List.mem_append_left _ (List.mem_of_getElem? (i := 29) (by decide +kernel)), by decide +kernel⟩
theorem kb_X7_decodes : VB yX7_decodes cX7_decodes 6 none 0 := ⟨⟨kI_RX7, kc_X7_decodes, ⟨by decide +kernel, by decide +kernel⟩, by decide +kernel⟩, ki_X7_decodes, kz_X7_decodes⟩
theorem kM_RX7_94 : Kw (.methodLink RX7 94 yX7_decodes) := ⟨List.mem_append_right _ (List.mem_of_getElem? (i := 978) (by decide +kernel)), by decide +kernel⟩
theorem kc_X7_endOf : Kw (.code yX7_endOf cX7_endOf 3 (some .int)) := ⟨List.mem_append_right _ (List.mem_of_getElem? (i := 1008) (by decide +kernel)), by decide +kernel⟩
theorem ki_X7_endOf : Kw (.instanceMethod yX7_endOf) := ⟨List.mem_append_right _ (List.mem_of_getElem? (i := 1007) (by decide +kernel)), by decide +kernel⟩
theorem kz_X7_endOf : Kw (.selects yX7_endOf.cls yX7_endOf yX7_endOf) := ⟨List.mem_append_left _ (List.mem_of_getElem? (i := 33) (by decide +kernel)), by decide +kernel⟩
theorem kb_X7_endOf : VB yX7_endOf cX7_endOf 3 (some .int) 1 := ⟨⟨kI_RX7, kc_X7_endOf, ⟨by decide +kernel, by decide +kernel⟩, by decide +kernel⟩, ki_X7_endOf, kz_X7_endOf⟩
theorem kM_RX7_88 : Kw (.methodLink RX7 88 yX7_endOf) := ⟨List.mem_append_right _ (List.mem_of_getElem? (i := 1005) (by decide +kernel)), by decide +kernel⟩
theorem kc_X7_errorMade : Kw (.code yX7_errorMade cX7_errorMade 5 (some .int)) := ⟨List.mem_append_right _ (List.mem_of_getElem? (i := 1135) (by decide +kernel)), by decide +kernel⟩
theorem ki_X7_errorMade : Kw (.instanceMethod yX7_errorMade) := ⟨List.mem_append_right _ (List.mem_of_getElem? (i := 1134) (by decide +kernel)), by decide +kernel⟩
theorem kz_X7_errorMade : Kw (.selects yX7_errorMade.cls yX7_errorMade yX7_errorMade) := ⟨List.mem_append_left _ (List.mem_of_getElem? (i := 51) (by decide +kernel)), by decide +kernel⟩
theorem kb_X7_errorMade : VB yX7_errorMade cX7_errorMade 5 (some .int) 2 := ⟨⟨kI_RX7, kc_X7_errorMade, ⟨by decide +kernel, by decide +kernel⟩, by decide +kernel⟩, ki_X7_errorMade, kz_X7_errorMade⟩
theorem kM_RX7_173 : Kw (.methodLink RX7 173 yX7_errorMade) := ⟨List.mem_append_right _ (List.mem_of_getElem? (i := 1132) (by decide +kernel)), by decide +kernel⟩
theorem kc_X7_toldOfBlock : Kw (.code yX7_toldOfBlock cX7_toldOfBlock 4 (some .int)) := ⟨List.mem_append_right _ (List.mem_of_getElem? (i := 1131) (by decide +kernel)), by decide +kernel⟩
theorem ki_X7_toldOfBlock : Kw (.instanceMethod yX7_toldOfBlock) := ⟨List.mem_append_right _ (List.mem_of_getElem? (i := 1130) (by decide +kernel)), by decide +kernel⟩
theorem kz_X7_toldOfBlock : Kw (.selects yX7_toldOfBlock.cls yX7_toldOfBlock yX7_toldOfBlock) := ⟨List.mem_append_left _ (List.mem_of_getElem? (i := 50) (by decide +kernel)), by decide +kernel⟩
theorem kb_X7_toldOfBlock : VB yX7_toldOfBlock cX7_toldOfBlock 4 (some .int) 2 := ⟨⟨kI_RX7, kc_X7_toldOfBlock, ⟨by decide +kernel, by decide +kernel⟩, by decide +kernel⟩, ki_X7_toldOfBlock, kz_X7_toldOfBlock⟩
theorem kM_RX7_176 : Kw (.methodLink RX7 176 yX7_toldOfBlock) := ⟨List.mem_append_right _ (List.mem_of_getElem? (i := 1128) (by decide +kernel)), by decide +kernel⟩
theorem kc_X7_isBlock : Kw (.code yX7_isBlock cX7_isBlock 2 (some .boolean)) := ⟨List.mem_append_right _ (List.mem_of_getElem? (i := 1035) (by decide +kernel)), by decide +kernel⟩
theorem ki_X7_isBlock : Kw (.instanceMethod yX7_isBlock) := ⟨List.mem_append_right _ (List.mem_of_getElem? (i := 1034) (by decide +kernel)), by decide +kernel⟩
theorem kz_X7_isBlock : Kw (.selects yX7_isBlock.cls yX7_isBlock yX7_isBlock) := ⟨List.mem_append_left _ (List.mem_of_getElem? (i := 38) (by decide +kernel)), by decide +kernel⟩
theorem kb_X7_isBlock : VB yX7_isBlock cX7_isBlock 2 (some .boolean) 1 := ⟨⟨kI_RX7, kc_X7_isBlock, ⟨by decide +kernel, by decide +kernel⟩, by decide +kernel⟩, ki_X7_isBlock, kz_X7_isBlock⟩
theorem kM_RX7_116 : Kw (.methodLink RX7 116 yX7_isBlock) := ⟨List.mem_append_right _ (List.mem_of_getElem? (i := 1032) (by decide +kernel)), by decide +kernel⟩
theorem kc_X7_codes : Kw (.code yX7_codes cX7_codes 8 (some .int)) := ⟨List.mem_append_right _ (List.mem_of_getElem? (i := 1027) (by decide +kernel)), by decide +kernel⟩
theorem ki_X7_codes : Kw (.instanceMethod yX7_codes) := ⟨List.mem_append_right _ (List.mem_of_getElem? (i := 1026) (by decide +kernel)), by decide +kernel⟩
theorem kz_X7_codes : Kw (.selects yX7_codes.cls yX7_codes yX7_codes) := ⟨List.mem_append_left _ (List.mem_of_getElem? (i := 37) (by decide +kernel)), by decide +kernel⟩
theorem kb_X7_codes : VB yX7_codes cX7_codes 8 (some .int) 2 := ⟨⟨kI_RX7, kc_X7_codes, ⟨by decide +kernel, by decide +kernel⟩, by decide +kernel⟩, ki_X7_codes, kz_X7_codes⟩
theorem kM_RX7_113 : Kw (.methodLink RX7 113 yX7_codes) := ⟨List.mem_append_right _ (List.mem_of_getElem? (i := 1024) (by decide +kernel)), by decide +kernel⟩
theorem kc_X7_lost : Kw (.code yX7_lost cX7_lost 3 (some .int)) := ⟨List.mem_append_right _ (List.mem_of_getElem? (i := 1039) (by decide +kernel)), by decide +kernel⟩
theorem ki_X7_lost : Kw (.instanceMethod yX7_lost) := ⟨List.mem_append_right _ (List.mem_of_getElem? (i := 1038) (by decide +kernel)), by decide +kernel⟩
theorem kz_X7_lost : Kw (.selects yX7_lost.cls yX7_lost yX7_lost) := ⟨List.mem_append_left _ (List.mem_of_getElem? (i := 39) (by decide +kernel)), by decide +kernel⟩
theorem kb_X7_lost : VB yX7_lost cX7_lost 3 (some .int) 0 := ⟨⟨kI_RX7, kc_X7_lost, ⟨by decide +kernel, by decide +kernel⟩, by decide +kernel⟩, ki_X7_lost, kz_X7_lost⟩
theorem kM_RX7_119 : Kw (.methodLink RX7 119 yX7_lost) := ⟨List.mem_append_right _ (List.mem_of_getElem? (i := 1036) (by decide +kernel)), by decide +kernel⟩
theorem kc_X7_errorOfAll : Kw (.code yX7_errorOfAll cX7_errorOfAll 1 (some .int)) := ⟨List.mem_append_right _ (List.mem_of_getElem? (i := 1147) (by decide +kernel)), by decide +kernel⟩
theorem ki_X7_errorOfAll : Kw (.instanceMethod yX7_errorOfAll) := ⟨List.mem_append_right _ (List.mem_of_getElem? (i := 1146) (by decide +kernel)), by decide +kernel⟩
theorem kz_X7_errorOfAll : Kw (.selects yX7_errorOfAll.cls yX7_errorOfAll yX7_errorOfAll) := ⟨List.mem_append_left _ (List.mem_of_getElem? (i := 53) (by decide +kernel)), by decide +kernel⟩
theorem kb_X7_errorOfAll : VB yX7_errorOfAll cX7_errorOfAll 1 (some .int) 0 := ⟨⟨kI_RX7, kc_X7_errorOfAll, ⟨by decide +kernel, by decide +kernel⟩, by decide +kernel⟩, ki_X7_errorOfAll, kz_X7_errorOfAll⟩
theorem kM_RX7_179 : Kw (.methodLink RX7 179 yX7_errorOfAll) := ⟨List.mem_append_right _ (List.mem_of_getElem? (i := 1144) (by decide +kernel)), by decide +kernel⟩
theorem kc_X7_greatest : Kw (.code yX7_greatest cX7_greatest 4 (some .int)) := ⟨List.mem_append_right _ (List.mem_of_getElem? (i := 1151) (by decide +kernel)), by decide +kernel⟩
theorem ki_X7_greatest : Kw (.instanceMethod yX7_greatest) := ⟨List.mem_append_right _ (List.mem_of_getElem? (i := 1150) (by decide +kernel)), by decide +kernel⟩
theorem kz_X7_greatest : Kw (.selects yX7_greatest.cls yX7_greatest yX7_greatest) := ⟨List.mem_append_left _ (List.mem_of_getElem? (i := 54) (by decide +kernel)), by decide +kernel⟩
theorem kb_X7_greatest : VB yX7_greatest cX7_greatest 4 (some .int) 0 := ⟨⟨kI_RX7, kc_X7_greatest, ⟨by decide +kernel, by decide +kernel⟩, by decide +kernel⟩, ki_X7_greatest, kz_X7_greatest⟩
theorem kM_RX7_182 : Kw (.methodLink RX7 182 yX7_greatest) := ⟨List.mem_append_right _ (List.mem_of_getElem? (i := 1148) (by decide +kernel)), by decide +kernel⟩
theorem kc_X7_alike : Kw (.code yX7_alike cX7_alike 3 (some .int)) := ⟨List.mem_append_right _ (List.mem_of_getElem? (i := 1155) (by decide +kernel)), by decide +kernel⟩
theorem ki_X7_alike : Kw (.instanceMethod yX7_alike) := ⟨List.mem_append_right _ (List.mem_of_getElem? (i := 1154) (by decide +kernel)), by decide +kernel⟩
theorem kz_X7_alike : Kw (.selects yX7_alike.cls yX7_alike yX7_alike) := ⟨List.mem_append_left _ (List.mem_of_getElem? (i := 55) (by decide +kernel)), by decide +kernel⟩
theorem kb_X7_alike : VB yX7_alike cX7_alike 3 (some .int) 0 := ⟨⟨kI_RX7, kc_X7_alike, ⟨by decide +kernel, by decide +kernel⟩, by decide +kernel⟩, ki_X7_alike, kz_X7_alike⟩
theorem kM_RX7_185 : Kw (.methodLink RX7 185 yX7_alike) := ⟨List.mem_append_right _ (List.mem_of_getElem? (i := 1152) (by decide +kernel)), by decide +kernel⟩
theorem kc_X7_counted : Kw (.code yX7_counted cX7_counted 2 (some .int)) := ⟨List.mem_append_right _ (List.mem_of_getElem? (i := 1143) (by decide +kernel)), by decide +kernel⟩
theorem ki_X7_counted : Kw (.instanceMethod yX7_counted) := ⟨List.mem_append_right _ (List.mem_of_getElem? (i := 1142) (by decide +kernel)), by decide +kernel⟩
theorem kz_X7_counted : Kw (.selects yX7_counted.cls yX7_counted yX7_counted) := ⟨List.mem_append_left _ (List.mem_of_getElem? (i := 52) (by decide +kernel)), by decide +kernel⟩
theorem kb_X7_counted : VB yX7_counted cX7_counted 2 (some .int) 1 := ⟨⟨kI_RX7, kc_X7_counted, ⟨by decide +kernel, by decide +kernel⟩, by decide +kernel⟩, ki_X7_counted, kz_X7_counted⟩
theorem kM_RX7_188 : Kw (.methodLink RX7 188 yX7_counted) := ⟨List.mem_append_right _ (List.mem_of_getElem? (i := 1140) (by decide +kernel)), by decide +kernel⟩
theorem kF_RX7_38 : Kw (.fieldLink RX7 38 "SteppedSamplesModel" "before" "[I") := ⟨List.mem_append_right _ (List.mem_of_getElem? (i := 880) (by decide +kernel)), by decide +kernel⟩
theorem kC_RX7_220 : Kw (.constantLong RX7 220 (31)) := ⟨List.mem_append_right _ (List.mem_of_getElem? (i := 1210) (by decide +kernel)), by decide +kernel⟩
theorem kF_RX7_222 : Kw (.fieldLink RX7 222 "SteppedSamplesModel" "digested" "J") := ⟨List.mem_append_right _ (List.mem_of_getElem? (i := 887) (by decide +kernel)), by decide +kernel⟩
theorem kc_X7_hasCode : Kw (.code yX7_hasCode cX7_hasCode 2 (some .boolean)) := ⟨List.mem_append_right _ (List.mem_of_getElem? (i := 1047) (by decide +kernel)), by decide +kernel⟩
theorem ki_X7_hasCode : Kw (.instanceMethod yX7_hasCode) := ⟨List.mem_append_right _ (List.mem_of_getElem? (i := 1046) (by decide +kernel)), by decide +kernel⟩
theorem kz_X7_hasCode : Kw (.selects yX7_hasCode.cls yX7_hasCode yX7_hasCode) := ⟨List.mem_append_left _ (List.mem_of_getElem? (i := 40) (by decide +kernel)), by decide +kernel⟩
theorem kb_X7_hasCode : VB yX7_hasCode cX7_hasCode 2 (some .boolean) 1 := ⟨⟨kI_RX7, kc_X7_hasCode, ⟨by decide +kernel, by decide +kernel⟩, by decide +kernel⟩, ki_X7_hasCode, kz_X7_hasCode⟩
theorem kM_RX7_122 : Kw (.methodLink RX7 122 yX7_hasCode) := ⟨List.mem_append_right _ (List.mem_of_getElem? (i := 1044) (by decide +kernel)), by decide +kernel⟩
theorem kc_X7_decodesBefore : Kw (.code yX7_decodesBefore cX7_decodesBefore 2 none) := ⟨List.mem_append_right _ (List.mem_of_getElem? (i := 1083) (by decide +kernel)), by decide +kernel⟩
theorem ki_X7_decodesBefore : Kw (.instanceMethod yX7_decodesBefore) := ⟨List.mem_append_right _ (List.mem_of_getElem? (i := 1082) (by decide +kernel)), by decide +kernel⟩
theorem kz_X7_decodesBefore : Kw (.selects yX7_decodesBefore.cls yX7_decodesBefore yX7_decodesBefore) := ⟨List.mem_append_left _ (List.mem_of_getElem? (i := 45) (by decide +kernel)), by decide +kernel⟩
theorem kb_X7_decodesBefore : VB yX7_decodesBefore cX7_decodesBefore 2 none 0 := ⟨⟨kI_RX7, kc_X7_decodesBefore, ⟨by decide +kernel, by decide +kernel⟩, by decide +kernel⟩, ki_X7_decodesBefore, kz_X7_decodesBefore⟩
theorem kM_RX7_157 : Kw (.methodLink RX7 157 yX7_decodesBefore) := ⟨List.mem_append_right _ (List.mem_of_getElem? (i := 1080) (by decide +kernel)), by decide +kernel⟩
theorem kc_X7_others : Kw (.code yX7_others cX7_others 3 (some .int)) := ⟨List.mem_append_right _ (List.mem_of_getElem? (i := 1087) (by decide +kernel)), by decide +kernel⟩
theorem ki_X7_others : Kw (.instanceMethod yX7_others) := ⟨List.mem_append_right _ (List.mem_of_getElem? (i := 1086) (by decide +kernel)), by decide +kernel⟩
theorem kz_X7_others : Kw (.selects yX7_others.cls yX7_others yX7_others) := ⟨List.mem_append_left _ (List.mem_of_getElem? (i := 46) (by decide +kernel)), by decide +kernel⟩
theorem kb_X7_others : VB yX7_others cX7_others 3 (some .int) 0 := ⟨⟨kI_RX7, kc_X7_others, ⟨by decide +kernel, by decide +kernel⟩, by decide +kernel⟩, ki_X7_others, kz_X7_others⟩
theorem kM_RX7_160 : Kw (.methodLink RX7 160 yX7_others) := ⟨List.mem_append_right _ (List.mem_of_getElem? (i := 1084) (by decide +kernel)), by decide +kernel⟩
theorem kc_X7_spreads : Kw (.code yX7_spreads cX7_spreads 4 (some .int)) := ⟨List.mem_append_right _ (List.mem_of_getElem? (i := 1183) (by decide +kernel)), by decide +kernel⟩
theorem ki_X7_spreads : Kw (.instanceMethod yX7_spreads) := ⟨List.mem_append_right _ (List.mem_of_getElem? (i := 1182) (by decide +kernel)), by decide +kernel⟩
theorem kz_X7_spreads : Kw (.selects yX7_spreads.cls yX7_spreads yX7_spreads) := ⟨List.mem_append_left _ (List.mem_of_getElem? (i := 57) (by decide +kernel)), by decide +kernel⟩
theorem kb_X7_spreads : VB yX7_spreads cX7_spreads 4 (some .int) 2 := ⟨⟨kI_RX7, kc_X7_spreads, ⟨by decide +kernel, by decide +kernel⟩, by decide +kernel⟩, ki_X7_spreads, kz_X7_spreads⟩
theorem kM_RX7_194 : Kw (.methodLink RX7 194 yX7_spreads) := ⟨List.mem_append_right _ (List.mem_of_getElem? (i := 1180) (by decide +kernel)), by decide +kernel⟩
theorem kc_X7_digestOne : Kw (.code yX7_digestOne cX7_digestOne 3 none) := ⟨List.mem_append_right _ (List.mem_of_getElem? (i := 1209) (by decide +kernel)), by decide +kernel⟩
theorem ki_X7_digestOne : Kw (.instanceMethod yX7_digestOne) := ⟨List.mem_append_right _ (List.mem_of_getElem? (i := 1208) (by decide +kernel)), by decide +kernel⟩
theorem kz_X7_digestOne : Kw (.selects yX7_digestOne.cls yX7_digestOne yX7_digestOne) := ⟨List.mem_append_left _ (List.mem_of_getElem? (i := 60) (by decide +kernel)), by decide +kernel⟩
theorem kb_X7_digestOne : VB yX7_digestOne cX7_digestOne 3 none 1 := ⟨⟨kI_RX7, kc_X7_digestOne, ⟨by decide +kernel, by decide +kernel⟩, by decide +kernel⟩, ki_X7_digestOne, kz_X7_digestOne⟩
theorem kM_RX7_226 : Kw (.methodLink RX7 226 yX7_digestOne) := ⟨List.mem_append_right _ (List.mem_of_getElem? (i := 1206) (by decide +kernel)), by decide +kernel⟩
theorem kc_X7_toldOfSample : Kw (.code yX7_toldOfSample cX7_toldOfSample 3 (some .int)) := ⟨List.mem_append_right _ (List.mem_of_getElem? (i := 1123) (by decide +kernel)), by decide +kernel⟩
theorem ki_X7_toldOfSample : Kw (.instanceMethod yX7_toldOfSample) := ⟨List.mem_append_right _ (List.mem_of_getElem? (i := 1122) (by decide +kernel)), by decide +kernel⟩
theorem kz_X7_toldOfSample : Kw (.selects yX7_toldOfSample.cls yX7_toldOfSample yX7_toldOfSample) := ⟨List.mem_append_left _ (List.mem_of_getElem? (i := 49) (by decide +kernel)), by decide +kernel⟩
theorem kb_X7_toldOfSample : VB yX7_toldOfSample cX7_toldOfSample 3 (some .int) 2 := ⟨⟨kI_RX7, kc_X7_toldOfSample, ⟨by decide +kernel, by decide +kernel⟩, by decide +kernel⟩, ki_X7_toldOfSample, kz_X7_toldOfSample⟩
theorem kM_RX7_170 : Kw (.methodLink RX7 170 yX7_toldOfSample) := ⟨List.mem_append_right _ (List.mem_of_getElem? (i := 1120) (by decide +kernel)), by decide +kernel⟩
theorem kC_RX7_201 : Kw (.constantFloat RX7 201 (3212836864)) := ⟨List.mem_append_right _ (List.mem_of_getElem? (i := 1200) (by decide +kernel)), by decide +kernel⟩
theorem kC_RX7_217 : Kw (.constant RX7 217 (8388608)) := ⟨List.mem_append_right _ (List.mem_of_getElem? (i := 1227) (by decide +kernel)), by decide +kernel⟩
theorem kC_RX7_218 : Kw (.constantFloat RX7 218 (1258291200)) := ⟨List.mem_append_right _ (List.mem_of_getElem? (i := 1228) (by decide +kernel)), by decide +kernel⟩
theorem kC_RX7_219 : Kw (.constant RX7 219 (-2147483648)) := ⟨List.mem_append_right _ (List.mem_of_getElem? (i := 1229) (by decide +kernel)), by decide +kernel⟩
theorem kC_RX7_216 : Kw (.constantFloat RX7 216 (1056964608)) := ⟨List.mem_append_right _ (List.mem_of_getElem? (i := 1226) (by decide +kernel)), by decide +kernel⟩
theorem kF_RX7_19 : Kw (.fieldLink RX7 19 "SteppedSamplesModel" "isKept" "[Z") := ⟨List.mem_append_right _ (List.mem_of_getElem? (i := 873) (by decide +kernel)), by decide +kernel⟩
theorem kc_X7_digestWave : Kw (.code yX7_digestWave cX7_digestWave 3 none) := ⟨List.mem_append_right _ (List.mem_of_getElem? (i := 1214) (by decide +kernel)), by decide +kernel⟩
theorem ki_X7_digestWave : Kw (.instanceMethod yX7_digestWave) := ⟨List.mem_append_right _ (List.mem_of_getElem? (i := 1213) (by decide +kernel)), by decide +kernel⟩
theorem kz_X7_digestWave : Kw (.selects yX7_digestWave.cls yX7_digestWave yX7_digestWave) := ⟨List.mem_append_left _ (List.mem_of_getElem? (i := 61) (by decide +kernel)), by decide +kernel⟩
theorem kb_X7_digestWave : VB yX7_digestWave cX7_digestWave 3 none 0 := ⟨⟨kI_RX7, kc_X7_digestWave, ⟨by decide +kernel, by decide +kernel⟩, by decide +kernel⟩, ki_X7_digestWave, kz_X7_digestWave⟩
theorem kM_RX7_232 : Kw (.methodLink RX7 232 yX7_digestWave) := ⟨List.mem_append_right _ (List.mem_of_getElem? (i := 1211) (by decide +kernel)), by decide +kernel⟩
theorem kc_X7_mean : Kw (.code yX7_mean cX7_mean 1 (some .double)) := ⟨List.mem_append_right _ (List.mem_of_getElem? (i := 1191) (by decide +kernel)), by decide +kernel⟩
theorem ki_X7_mean : Kw (.instanceMethod yX7_mean) := ⟨List.mem_append_right _ (List.mem_of_getElem? (i := 1190) (by decide +kernel)), by decide +kernel⟩
theorem kz_X7_mean : Kw (.selects yX7_mean.cls yX7_mean yX7_mean) := ⟨List.mem_append_left _ (List.mem_of_getElem? (i := 58) (by decide +kernel)), by decide +kernel⟩
theorem kb_X7_mean : VB yX7_mean cX7_mean 1 (some .double) 0 := ⟨⟨kI_RX7, kc_X7_mean, ⟨by decide +kernel, by decide +kernel⟩, by decide +kernel⟩, ki_X7_mean, kz_X7_mean⟩
theorem kM_RX7_197 : Kw (.methodLink RX7 197 yX7_mean) := ⟨List.mem_append_right _ (List.mem_of_getElem? (i := 1188) (by decide +kernel)), by decide +kernel⟩
theorem kc_X7_bitsOf : Kw (.code yX7_bitsOf cX7_bitsOf 6 (some .long)) := ⟨List.mem_append_right _ (List.mem_of_getElem? (i := 1217) (by decide +kernel)), by decide +kernel⟩
theorem ks_X7_bitsOf : Kw (.static yX7_bitsOf) := ⟨List.mem_append_right _ (List.mem_of_getElem? (i := 1216) (by decide +kernel)), by decide +kernel⟩
theorem kb_X7_bitsOf : SB yX7_bitsOf cX7_bitsOf 6 (some .long) 1 := ⟨⟨kI_RX7, kc_X7_bitsOf, ⟨by decide +kernel, by decide +kernel⟩, by decide +kernel⟩, ks_X7_bitsOf⟩
theorem kM_RX7_235 : Kw (.methodLink RX7 235 yX7_bitsOf) := ⟨List.mem_append_right _ (List.mem_of_getElem? (i := 1215) (by decide +kernel)), by decide +kernel⟩
theorem kc_X7_loud : Kw (.code yX7_loud cX7_loud 4 (some .float)) := ⟨List.mem_append_right _ (List.mem_of_getElem? (i := 1199) (by decide +kernel)), by decide +kernel⟩
theorem ki_X7_loud : Kw (.instanceMethod yX7_loud) := ⟨List.mem_append_right _ (List.mem_of_getElem? (i := 1198) (by decide +kernel)), by decide +kernel⟩
theorem kz_X7_loud : Kw (.selects yX7_loud.cls yX7_loud yX7_loud) := ⟨List.mem_append_left _ (List.mem_of_getElem? (i := 59) (by decide +kernel)), by decide +kernel⟩
theorem kb_X7_loud : VB yX7_loud cX7_loud 4 (some .float) 0 := ⟨⟨kI_RX7, kc_X7_loud, ⟨by decide +kernel, by decide +kernel⟩, by decide +kernel⟩, ki_X7_loud, kz_X7_loud⟩
theorem kM_RX7_202 : Kw (.methodLink RX7 202 yX7_loud) := ⟨List.mem_append_right _ (List.mem_of_getElem? (i := 1196) (by decide +kernel)), by decide +kernel⟩
theorem kc_X7_floatBitsOf : Kw (.code yX7_floatBitsOf cX7_floatBitsOf 4 (some .int)) := ⟨List.mem_append_right _ (List.mem_of_getElem? (i := 1225) (by decide +kernel)), by decide +kernel⟩
theorem ks_X7_floatBitsOf : Kw (.static yX7_floatBitsOf) := ⟨List.mem_append_right _ (List.mem_of_getElem? (i := 1224) (by decide +kernel)), by decide +kernel⟩
theorem kb_X7_floatBitsOf : SB yX7_floatBitsOf cX7_floatBitsOf 4 (some .int) 1 := ⟨⟨kI_RX7, kc_X7_floatBitsOf, ⟨by decide +kernel, by decide +kernel⟩, by decide +kernel⟩, ks_X7_floatBitsOf⟩
theorem kM_RX7_239 : Kw (.methodLink RX7 239 yX7_floatBitsOf) := ⟨List.mem_append_right _ (List.mem_of_getElem? (i := 1223) (by decide +kernel)), by decide +kernel⟩
theorem kC_RX7_230 : Kw (.constantLong RX7 230 (3329)) := ⟨List.mem_append_right _ (List.mem_of_getElem? (i := 1205) (by decide +kernel)), by decide +kernel⟩
theorem kF_RX7_128 : Kw (.fieldLink RX7 128 "SteppedSamplesModel" "isWrong" "Z") := ⟨List.mem_append_right _ (List.mem_of_getElem? (i := 882) (by decide +kernel)), by decide +kernel⟩
theorem kF_RX7_132 : Kw (.fieldLink RX7 132 "SteppedSamplesModel" "position" "I") := ⟨List.mem_append_right _ (List.mem_of_getElem? (i := 881) (by decide +kernel)), by decide +kernel⟩
theorem kc_X7_takes : Kw (.code yX7_takes cX7_takes 4 (some .int)) := ⟨List.mem_append_right _ (List.mem_of_getElem? (i := 1075) (by decide +kernel)), by decide +kernel⟩
theorem ki_X7_takes : Kw (.instanceMethod yX7_takes) := ⟨List.mem_append_right _ (List.mem_of_getElem? (i := 1074) (by decide +kernel)), by decide +kernel⟩
theorem kz_X7_takes : Kw (.selects yX7_takes.cls yX7_takes yX7_takes) := ⟨List.mem_append_left _ (List.mem_of_getElem? (i := 44) (by decide +kernel)), by decide +kernel⟩
theorem kb_X7_takes : VB yX7_takes cX7_takes 4 (some .int) 2 := ⟨⟨kI_RX7, kc_X7_takes, ⟨by decide +kernel, by decide +kernel⟩, by decide +kernel⟩, ki_X7_takes, kz_X7_takes⟩
theorem kM_RX7_135 : Kw (.methodLink RX7 135 yX7_takes) := ⟨List.mem_append_right _ (List.mem_of_getElem? (i := 1072) (by decide +kernel)), by decide +kernel⟩
theorem kc_X7_isNext : Kw (.code yX7_isNext cX7_isNext 3 (some .boolean)) := ⟨List.mem_append_right _ (List.mem_of_getElem? (i := 1067) (by decide +kernel)), by decide +kernel⟩
theorem ki_X7_isNext : Kw (.instanceMethod yX7_isNext) := ⟨List.mem_append_right _ (List.mem_of_getElem? (i := 1066) (by decide +kernel)), by decide +kernel⟩
theorem kz_X7_isNext : Kw (.selects yX7_isNext.cls yX7_isNext yX7_isNext) := ⟨List.mem_append_left _ (List.mem_of_getElem? (i := 42) (by decide +kernel)), by decide +kernel⟩
theorem kb_X7_isNext : VB yX7_isNext cX7_isNext 3 (some .boolean) 2 := ⟨⟨kI_RX7, kc_X7_isNext, ⟨by decide +kernel, by decide +kernel⟩, by decide +kernel⟩, ki_X7_isNext, kz_X7_isNext⟩
theorem kM_RX7_138 : Kw (.methodLink RX7 138 yX7_isNext) := ⟨List.mem_append_right _ (List.mem_of_getElem? (i := 1064) (by decide +kernel)), by decide +kernel⟩
theorem kF_RX7_41 : Kw (.fieldLink RX7 41 "SteppedSamplesModel" "readCodes" "[I") := ⟨List.mem_append_right _ (List.mem_of_getElem? (i := 885) (by decide +kernel)), by decide +kernel⟩
theorem kF_RX7_142 : Kw (.fieldLink RX7 142 "SteppedSamplesModel" "reads" "I") := ⟨List.mem_append_right _ (List.mem_of_getElem? (i := 886) (by decide +kernel)), by decide +kernel⟩
theorem kF_RX7_148 : Kw (.fieldLink RX7 148 "SteppedSamplesModel" "readFirst" "I") := ⟨List.mem_append_right _ (List.mem_of_getElem? (i := 883) (by decide +kernel)), by decide +kernel⟩
theorem kc_X7_takesNumber : Kw (.code yX7_takesNumber cX7_takesNumber 5 (some .int)) := ⟨List.mem_append_right _ (List.mem_of_getElem? (i := 1071) (by decide +kernel)), by decide +kernel⟩
theorem ki_X7_takesNumber : Kw (.instanceMethod yX7_takesNumber) := ⟨List.mem_append_right _ (List.mem_of_getElem? (i := 1070) (by decide +kernel)), by decide +kernel⟩
theorem kz_X7_takesNumber : Kw (.selects yX7_takesNumber.cls yX7_takesNumber yX7_takesNumber) := ⟨List.mem_append_left _ (List.mem_of_getElem? (i := 43) (by decide +kernel)), by decide +kernel⟩
theorem kb_X7_takesNumber : VB yX7_takesNumber cX7_takesNumber 5 (some .int) 2 := ⟨⟨kI_RX7, kc_X7_takesNumber, ⟨by decide +kernel, by decide +kernel⟩, by decide +kernel⟩, ki_X7_takesNumber, kz_X7_takesNumber⟩
theorem kM_RX7_145 : Kw (.methodLink RX7 145 yX7_takesNumber) := ⟨List.mem_append_right _ (List.mem_of_getElem? (i := 1068) (by decide +kernel)), by decide +kernel⟩
theorem kF_RX7_151 : Kw (.fieldLink RX7 151 "SteppedSamplesModel" "readNumber" "I") := ⟨List.mem_append_right _ (List.mem_of_getElem? (i := 884) (by decide +kernel)), by decide +kernel⟩
theorem kc_X7_readAll : Kw (.code yX7_readAll cX7_readAll 6 none) := ⟨List.mem_append_right _ (List.mem_of_getElem? (i := 1063) (by decide +kernel)), by decide +kernel⟩
theorem ki_X7_readAll : Kw (.instanceMethod yX7_readAll) := ⟨List.mem_append_right _ (List.mem_of_getElem? (i := 1062) (by decide +kernel)), by decide +kernel⟩
theorem kz_X7_readAll : Kw (.selects yX7_readAll.cls yX7_readAll yX7_readAll) := ⟨List.mem_append_left _ (List.mem_of_getElem? (i := 41) (by decide +kernel)), by decide +kernel⟩
theorem kb_X7_readAll : VB yX7_readAll cX7_readAll 6 none 0 := ⟨⟨kI_RX7, kc_X7_readAll, ⟨by decide +kernel, by decide +kernel⟩, by decide +kernel⟩, ki_X7_readAll, kz_X7_readAll⟩
theorem kM_RX7_154 : Kw (.methodLink RX7 154 yX7_readAll) := ⟨List.mem_append_right _ (List.mem_of_getElem? (i := 1060) (by decide +kernel)), by decide +kernel⟩
theorem kF_RX7_16 : Kw (.fieldLink RX7 16 "SteppedSamplesModel" "slots" "[I") := ⟨List.mem_append_right _ (List.mem_of_getElem? (i := 872) (by decide +kernel)), by decide +kernel⟩
theorem kc_X7_writes : Kw (.code yX7_writes cX7_writes 2 none) := ⟨List.mem_append_right _ (List.mem_of_getElem? (i := 1095) (by decide +kernel)), by decide +kernel⟩
theorem ki_X7_writes : Kw (.instanceMethod yX7_writes) := ⟨List.mem_append_right _ (List.mem_of_getElem? (i := 1094) (by decide +kernel)), by decide +kernel⟩
theorem kz_X7_writes : Kw (.selects yX7_writes.cls yX7_writes yX7_writes) := ⟨List.mem_append_left _ (List.mem_of_getElem? (i := 47) (by decide +kernel)), by decide +kernel⟩
theorem kb_X7_writes : VB yX7_writes cX7_writes 2 none 1 := ⟨⟨kI_RX7, kc_X7_writes, ⟨by decide +kernel, by decide +kernel⟩, by decide +kernel⟩, ki_X7_writes, kz_X7_writes⟩
theorem kM_RX7_163 : Kw (.methodLink RX7 163 yX7_writes) := ⟨List.mem_append_right _ (List.mem_of_getElem? (i := 1092) (by decide +kernel)), by decide +kernel⟩
theorem kc_X7_writesNumber : Kw (.code yX7_writesNumber cX7_writesNumber 3 none) := ⟨List.mem_append_right _ (List.mem_of_getElem? (i := 1099) (by decide +kernel)), by decide +kernel⟩
theorem ki_X7_writesNumber : Kw (.instanceMethod yX7_writesNumber) := ⟨List.mem_append_right _ (List.mem_of_getElem? (i := 1098) (by decide +kernel)), by decide +kernel⟩
theorem kz_X7_writesNumber : Kw (.selects yX7_writesNumber.cls yX7_writesNumber yX7_writesNumber) := ⟨List.mem_append_left _ (List.mem_of_getElem? (i := 48) (by decide +kernel)), by decide +kernel⟩
theorem kb_X7_writesNumber : VB yX7_writesNumber cX7_writesNumber 3 none 1 := ⟨⟨kI_RX7, kc_X7_writesNumber, ⟨by decide +kernel, by decide +kernel⟩, by decide +kernel⟩, ki_X7_writesNumber, kz_X7_writesNumber⟩
theorem kM_RX7_167 : Kw (.methodLink RX7 167 yX7_writesNumber) := ⟨List.mem_append_right _ (List.mem_of_getElem? (i := 1096) (by decide +kernel)), by decide +kernel⟩
