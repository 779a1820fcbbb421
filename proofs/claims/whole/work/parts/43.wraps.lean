theorem kcw_L_wave : Kw (.codeWith yL_wave cL_wave 4 (some .int) [(0, 9, 12, 13)]) := ⟨List.mem_append_right _ (List.mem_of_getElem? (i := 611) (by decide +kernel)), by decide +kernel⟩
theorem kc_X6_wave : Kw (.code yX6_wave cX6_wave 3 (some .int)) := ⟨List.mem_append_right _ (List.mem_of_getElem? (i := 616) (by decide +kernel)), by decide +kernel⟩
theorem ki_X6_wave : Kw (.instanceMethod yX6_wave) := ⟨List.mem_append_right _ (List.mem_of_getElem? (i := 614) (by decide +kernel)), by decide +kernel⟩
theorem ks_X6_wave : Kw (.selects RX6 yX6_wave yX6_wave) := ⟨List.mem_append_right _ (List.mem_of_getElem? (i := 615) (by decide +kernel)), by decide +kernel⟩
theorem kM_RL_7 : Kw (.methodLink RL 7 yX6_wave) := ⟨List.mem_append_right _ (List.mem_of_getElem? (i := 613) (by decide +kernel)), by decide +kernel⟩
theorem kL_RL_13 : Kw (.classLink RL 13 (exN 0)) := ⟨List.mem_append_right _ (List.mem_of_getElem? (i := 612) (by decide +kernel)), by decide +kernel⟩
theorem kcw_L_sample : Kw (.codeWith yL_sample cL_sample 5 (some .int) [(0, 10, 13, 19), (0, 10, 17, 13)]) := ⟨List.mem_append_right _ (List.mem_of_getElem? (i := 628) (by decide +kernel)), by decide +kernel⟩
theorem kc_X6_sample : Kw (.code yX6_sample cX6_sample 4 (some .int)) := ⟨List.mem_append_right _ (List.mem_of_getElem? (i := 633) (by decide +kernel)), by decide +kernel⟩
theorem ki_X6_sample : Kw (.instanceMethod yX6_sample) := ⟨List.mem_append_right _ (List.mem_of_getElem? (i := 631) (by decide +kernel)), by decide +kernel⟩
theorem ks_X6_sample : Kw (.selects RX6 yX6_sample yX6_sample) := ⟨List.mem_append_right _ (List.mem_of_getElem? (i := 632) (by decide +kernel)), by decide +kernel⟩
theorem kM_RL_15 : Kw (.methodLink RL 15 yX6_sample) := ⟨List.mem_append_right _ (List.mem_of_getElem? (i := 630) (by decide +kernel)), by decide +kernel⟩
theorem kL_RL_19 : Kw (.classLink RL 19 (exN 1)) := ⟨List.mem_append_right _ (List.mem_of_getElem? (i := 629) (by decide +kernel)), by decide +kernel⟩
theorem kcw_L_add : Kw (.codeWith yL_add cL_add 6 (some .int) [(0, 12, 15, 13)]) := ⟨List.mem_append_right _ (List.mem_of_getElem? (i := 641) (by decide +kernel)), by decide +kernel⟩
theorem kc_X6_add : Kw (.code yX6_add cX6_add 7 (some .int)) := ⟨List.mem_append_right _ (List.mem_of_getElem? (i := 645) (by decide +kernel)), by decide +kernel⟩
theorem ki_X6_add : Kw (.instanceMethod yX6_add) := ⟨List.mem_append_right _ (List.mem_of_getElem? (i := 643) (by decide +kernel)), by decide +kernel⟩
theorem ks_X6_add : Kw (.selects RX6 yX6_add yX6_add) := ⟨List.mem_append_right _ (List.mem_of_getElem? (i := 644) (by decide +kernel)), by decide +kernel⟩
theorem kM_RL_21 : Kw (.methodLink RL 21 yX6_add) := ⟨List.mem_append_right _ (List.mem_of_getElem? (i := 642) (by decide +kernel)), by decide +kernel⟩
theorem kcw_L_take : Kw (.codeWith yL_take cL_take 3 (some .int) [(0, 8, 11, 29)]) := ⟨List.mem_append_right _ (List.mem_of_getElem? (i := 656) (by decide +kernel)), by decide +kernel⟩
theorem kc_X6_take : Kw (.code yX6_take cX6_take 2 (some .int)) := ⟨List.mem_append_right _ (List.mem_of_getElem? (i := 661) (by decide +kernel)), by decide +kernel⟩
theorem ki_X6_take : Kw (.instanceMethod yX6_take) := ⟨List.mem_append_right _ (List.mem_of_getElem? (i := 659) (by decide +kernel)), by decide +kernel⟩
theorem ks_X6_take : Kw (.selects RX6 yX6_take yX6_take) := ⟨List.mem_append_right _ (List.mem_of_getElem? (i := 660) (by decide +kernel)), by decide +kernel⟩
theorem kM_RL_25 : Kw (.methodLink RL 25 yX6_take) := ⟨List.mem_append_right _ (List.mem_of_getElem? (i := 658) (by decide +kernel)), by decide +kernel⟩
theorem kL_RL_29 : Kw (.classLink RL 29 (exN 2)) := ⟨List.mem_append_right _ (List.mem_of_getElem? (i := 657) (by decide +kernel)), by decide +kernel⟩
theorem kcw_L_set : Kw (.codeWith yL_set cL_set 5 (some .int) [(0, 10, 13, 19), (0, 10, 17, 13)]) := ⟨List.mem_append_right _ (List.mem_of_getElem? (i := 681) (by decide +kernel)), by decide +kernel⟩
theorem kc_X6_set : Kw (.code yX6_set cX6_set 4 (some .int)) := ⟨List.mem_append_right _ (List.mem_of_getElem? (i := 685) (by decide +kernel)), by decide +kernel⟩
theorem ki_X6_set : Kw (.instanceMethod yX6_set) := ⟨List.mem_append_right _ (List.mem_of_getElem? (i := 683) (by decide +kernel)), by decide +kernel⟩
theorem ks_X6_set : Kw (.selects RX6 yX6_set yX6_set) := ⟨List.mem_append_right _ (List.mem_of_getElem? (i := 684) (by decide +kernel)), by decide +kernel⟩
theorem kM_RL_31 : Kw (.methodLink RL 31 yX6_set) := ⟨List.mem_append_right _ (List.mem_of_getElem? (i := 682) (by decide +kernel)), by decide +kernel⟩
theorem kcw_L_lose : Kw (.codeWith yL_lose cL_lose 4 (some .int) [(0, 9, 12, 19)]) := ⟨List.mem_append_right _ (List.mem_of_getElem? (i := 699) (by decide +kernel)), by decide +kernel⟩
theorem kc_X6_lose : Kw (.code yX6_lose cX6_lose 2 (some .int)) := ⟨List.mem_append_right _ (List.mem_of_getElem? (i := 703) (by decide +kernel)), by decide +kernel⟩
theorem ki_X6_lose : Kw (.instanceMethod yX6_lose) := ⟨List.mem_append_right _ (List.mem_of_getElem? (i := 701) (by decide +kernel)), by decide +kernel⟩
theorem ks_X6_lose : Kw (.selects RX6 yX6_lose yX6_lose) := ⟨List.mem_append_right _ (List.mem_of_getElem? (i := 702) (by decide +kernel)), by decide +kernel⟩
theorem kM_RL_34 : Kw (.methodLink RL 34 yX6_lose) := ⟨List.mem_append_right _ (List.mem_of_getElem? (i := 700) (by decide +kernel)), by decide +kernel⟩
theorem kcw_L_spoil : Kw (.codeWith yL_spoil cL_spoil 5 (some .int) [(0, 10, 13, 19), (0, 10, 17, 13)]) := ⟨List.mem_append_right _ (List.mem_of_getElem? (i := 706) (by decide +kernel)), by decide +kernel⟩
theorem kc_X6_spoil : Kw (.code yX6_spoil cX6_spoil 3 (some .int)) := ⟨List.mem_append_right _ (List.mem_of_getElem? (i := 710) (by decide +kernel)), by decide +kernel⟩
theorem ki_X6_spoil : Kw (.instanceMethod yX6_spoil) := ⟨List.mem_append_right _ (List.mem_of_getElem? (i := 708) (by decide +kernel)), by decide +kernel⟩
theorem ks_X6_spoil : Kw (.selects RX6 yX6_spoil yX6_spoil) := ⟨List.mem_append_right _ (List.mem_of_getElem? (i := 709) (by decide +kernel)), by decide +kernel⟩
theorem kM_RL_37 : Kw (.methodLink RL 37 yX6_spoil) := ⟨List.mem_append_right _ (List.mem_of_getElem? (i := 707) (by decide +kernel)), by decide +kernel⟩
theorem kcw_L_append : Kw (.codeWith yL_append cL_append 4 (some .int) [(0, 9, 12, 13), (0, 9, 15, 29)]) := ⟨List.mem_append_right _ (List.mem_of_getElem? (i := 713) (by decide +kernel)), by decide +kernel⟩
theorem kc_X6_append : Kw (.code yX6_append cX6_append 2 (some .int)) := ⟨List.mem_append_right _ (List.mem_of_getElem? (i := 717) (by decide +kernel)), by decide +kernel⟩
theorem ki_X6_append : Kw (.instanceMethod yX6_append) := ⟨List.mem_append_right _ (List.mem_of_getElem? (i := 715) (by decide +kernel)), by decide +kernel⟩
theorem ks_X6_append : Kw (.selects RX6 yX6_append yX6_append) := ⟨List.mem_append_right _ (List.mem_of_getElem? (i := 716) (by decide +kernel)), by decide +kernel⟩
theorem kM_RL_40 : Kw (.methodLink RL 40 yX6_append) := ⟨List.mem_append_right _ (List.mem_of_getElem? (i := 714) (by decide +kernel)), by decide +kernel⟩
theorem kcw_L_load : Kw (.codeWith yL_load cL_load 4 (some .int) [(0, 9, 12, 19), (0, 9, 15, 13)]) := ⟨List.mem_append_right _ (List.mem_of_getElem? (i := 731) (by decide +kernel)), by decide +kernel⟩
theorem kc_X6_load : Kw (.code yX6_load cX6_load 2 (some .int)) := ⟨List.mem_append_right _ (List.mem_of_getElem? (i := 735) (by decide +kernel)), by decide +kernel⟩
theorem ki_X6_load : Kw (.instanceMethod yX6_load) := ⟨List.mem_append_right _ (List.mem_of_getElem? (i := 733) (by decide +kernel)), by decide +kernel⟩
theorem ks_X6_load : Kw (.selects RX6 yX6_load yX6_load) := ⟨List.mem_append_right _ (List.mem_of_getElem? (i := 734) (by decide +kernel)), by decide +kernel⟩
theorem kM_RL_43 : Kw (.methodLink RL 43 yX6_load) := ⟨List.mem_append_right _ (List.mem_of_getElem? (i := 732) (by decide +kernel)), by decide +kernel⟩
theorem kcw_L_write : Kw (.codeWith yL_write cL_write 4 (some .int) [(0, 9, 12, 19)]) := ⟨List.mem_append_right _ (List.mem_of_getElem? (i := 754) (by decide +kernel)), by decide +kernel⟩
theorem kc_X6_write : Kw (.code yX6_write cX6_write 2 (some .int)) := ⟨List.mem_append_right _ (List.mem_of_getElem? (i := 758) (by decide +kernel)), by decide +kernel⟩
theorem ki_X6_write : Kw (.instanceMethod yX6_write) := ⟨List.mem_append_right _ (List.mem_of_getElem? (i := 756) (by decide +kernel)), by decide +kernel⟩
theorem ks_X6_write : Kw (.selects RX6 yX6_write yX6_write) := ⟨List.mem_append_right _ (List.mem_of_getElem? (i := 757) (by decide +kernel)), by decide +kernel⟩
theorem kM_RL_46 : Kw (.methodLink RL 46 yX6_write) := ⟨List.mem_append_right _ (List.mem_of_getElem? (i := 755) (by decide +kernel)), by decide +kernel⟩
theorem kcw_L_keep : Kw (.codeWith yL_keep cL_keep 4 (some .int) [(0, 9, 12, 13)]) := ⟨List.mem_append_right _ (List.mem_of_getElem? (i := 773) (by decide +kernel)), by decide +kernel⟩
theorem kc_X6_keep : Kw (.code yX6_keep cX6_keep 2 (some .int)) := ⟨List.mem_append_right _ (List.mem_of_getElem? (i := 777) (by decide +kernel)), by decide +kernel⟩
theorem ki_X6_keep : Kw (.instanceMethod yX6_keep) := ⟨List.mem_append_right _ (List.mem_of_getElem? (i := 775) (by decide +kernel)), by decide +kernel⟩
theorem ks_X6_keep : Kw (.selects RX6 yX6_keep yX6_keep) := ⟨List.mem_append_right _ (List.mem_of_getElem? (i := 776) (by decide +kernel)), by decide +kernel⟩
theorem kM_RL_49 : Kw (.methodLink RL 49 yX6_keep) := ⟨List.mem_append_right _ (List.mem_of_getElem? (i := 774) (by decide +kernel)), by decide +kernel⟩
theorem kcw_L_goBack : Kw (.codeWith yL_goBack cL_goBack 4 (some .int) [(0, 9, 12, 13), (0, 9, 15, 29)]) := ⟨List.mem_append_right _ (List.mem_of_getElem? (i := 786) (by decide +kernel)), by decide +kernel⟩
theorem kc_X6_goBack : Kw (.code yX6_goBack cX6_goBack 2 (some .int)) := ⟨List.mem_append_right _ (List.mem_of_getElem? (i := 790) (by decide +kernel)), by decide +kernel⟩
theorem ki_X6_goBack : Kw (.instanceMethod yX6_goBack) := ⟨List.mem_append_right _ (List.mem_of_getElem? (i := 788) (by decide +kernel)), by decide +kernel⟩
theorem ks_X6_goBack : Kw (.selects RX6 yX6_goBack yX6_goBack) := ⟨List.mem_append_right _ (List.mem_of_getElem? (i := 789) (by decide +kernel)), by decide +kernel⟩
theorem kM_RL_52 : Kw (.methodLink RL 52 yX6_goBack) := ⟨List.mem_append_right _ (List.mem_of_getElem? (i := 787) (by decide +kernel)), by decide +kernel⟩
theorem kcw_L_undo : Kw (.codeWith yL_undo cL_undo 3 (some .int) [(0, 8, 11, 29)]) := ⟨List.mem_append_right _ (List.mem_of_getElem? (i := 794) (by decide +kernel)), by decide +kernel⟩
theorem kc_X6_undo : Kw (.code yX6_undo cX6_undo 1 (some .int)) := ⟨List.mem_append_right _ (List.mem_of_getElem? (i := 798) (by decide +kernel)), by decide +kernel⟩
theorem ki_X6_undo : Kw (.instanceMethod yX6_undo) := ⟨List.mem_append_right _ (List.mem_of_getElem? (i := 796) (by decide +kernel)), by decide +kernel⟩
theorem ks_X6_undo : Kw (.selects RX6 yX6_undo yX6_undo) := ⟨List.mem_append_right _ (List.mem_of_getElem? (i := 797) (by decide +kernel)), by decide +kernel⟩
theorem kM_RL_55 : Kw (.methodLink RL 55 yX6_undo) := ⟨List.mem_append_right _ (List.mem_of_getElem? (i := 795) (by decide +kernel)), by decide +kernel⟩
theorem kcw_L_step : Kw (.codeWith yL_step cL_step 4 (some .int) [(0, 9, 12, 19)]) := ⟨List.mem_append_right _ (List.mem_of_getElem? (i := 806) (by decide +kernel)), by decide +kernel⟩
theorem kc_X6_step : Kw (.code yX6_step cX6_step 2 (some .int)) := ⟨List.mem_append_right _ (List.mem_of_getElem? (i := 810) (by decide +kernel)), by decide +kernel⟩
theorem ki_X6_step : Kw (.instanceMethod yX6_step) := ⟨List.mem_append_right _ (List.mem_of_getElem? (i := 808) (by decide +kernel)), by decide +kernel⟩
theorem ks_X6_step : Kw (.selects RX6 yX6_step yX6_step) := ⟨List.mem_append_right _ (List.mem_of_getElem? (i := 809) (by decide +kernel)), by decide +kernel⟩
theorem kM_RL_58 : Kw (.methodLink RL 58 yX6_step) := ⟨List.mem_append_right _ (List.mem_of_getElem? (i := 807) (by decide +kernel)), by decide +kernel⟩
theorem kcw_L_sampleOf : Kw (.codeWith yL_sampleOf cL_sampleOf 5 (some .int) [(0, 10, 13, 19), (0, 10, 17, 13)]) := ⟨List.mem_append_right _ (List.mem_of_getElem? (i := 818) (by decide +kernel)), by decide +kernel⟩
theorem ks_X6_sampleOf : Kw (.selects RX6 yX6_sampleOf yX6_sampleOf) := ⟨List.mem_append_right _ (List.mem_of_getElem? (i := 516) (by decide +kernel)), by decide +kernel⟩
theorem kM_RL_61 : Kw (.methodLink RL 61 yX6_sampleOf) := ⟨List.mem_append_right _ (List.mem_of_getElem? (i := 819) (by decide +kernel)), by decide +kernel⟩
theorem kcw_L_blockOf : Kw (.codeWith yL_blockOf cL_blockOf 5 (some .int) [(0, 10, 13, 19), (0, 10, 17, 13)]) := ⟨List.mem_append_right _ (List.mem_of_getElem? (i := 822) (by decide +kernel)), by decide +kernel⟩
theorem ks_X6_blockOf : Kw (.selects RX6 yX6_blockOf yX6_blockOf) := ⟨List.mem_append_right _ (List.mem_of_getElem? (i := 541) (by decide +kernel)), by decide +kernel⟩
theorem kM_RL_64 : Kw (.methodLink RL 64 yX6_blockOf) := ⟨List.mem_append_right _ (List.mem_of_getElem? (i := 823) (by decide +kernel)), by decide +kernel⟩
theorem kcw_L_count : Kw (.codeWith yL_count cL_count 4 (some .int) [(0, 9, 12, 13)]) := ⟨List.mem_append_right _ (List.mem_of_getElem? (i := 826) (by decide +kernel)), by decide +kernel⟩
theorem ks_X6_count : Kw (.selects RX6 yX6_count yX6_count) := ⟨List.mem_append_right _ (List.mem_of_getElem? (i := 412) (by decide +kernel)), by decide +kernel⟩
theorem kM_RL_67 : Kw (.methodLink RL 67 yX6_count) := ⟨List.mem_append_right _ (List.mem_of_getElem? (i := 827) (by decide +kernel)), by decide +kernel⟩
theorem kcw_L_setting : Kw (.codeWith yL_setting cL_setting 4 (some .int) [(0, 9, 12, 19)]) := ⟨List.mem_append_right _ (List.mem_of_getElem? (i := 830) (by decide +kernel)), by decide +kernel⟩
theorem kc_X6_setting : Kw (.code yX6_setting cX6_setting 2 (some .int)) := ⟨List.mem_append_right _ (List.mem_of_getElem? (i := 834) (by decide +kernel)), by decide +kernel⟩
theorem ki_X6_setting : Kw (.instanceMethod yX6_setting) := ⟨List.mem_append_right _ (List.mem_of_getElem? (i := 832) (by decide +kernel)), by decide +kernel⟩
theorem ks_X6_setting : Kw (.selects RX6 yX6_setting yX6_setting) := ⟨List.mem_append_right _ (List.mem_of_getElem? (i := 833) (by decide +kernel)), by decide +kernel⟩
theorem kM_RL_70 : Kw (.methodLink RL 70 yX6_setting) := ⟨List.mem_append_right _ (List.mem_of_getElem? (i := 831) (by decide +kernel)), by decide +kernel⟩
theorem kcw_L_ifCoded : Kw (.codeWith yL_ifCoded cL_ifCoded 7 (some .int) [(0, 14, 17, 13)]) := ⟨List.mem_append_right _ (List.mem_of_getElem? (i := 837) (by decide +kernel)), by decide +kernel⟩
theorem kc_X6_ifCoded : Kw (.code yX6_ifCoded cX6_ifCoded 6 (some .int)) := ⟨List.mem_append_right _ (List.mem_of_getElem? (i := 841) (by decide +kernel)), by decide +kernel⟩
theorem ki_X6_ifCoded : Kw (.instanceMethod yX6_ifCoded) := ⟨List.mem_append_right _ (List.mem_of_getElem? (i := 839) (by decide +kernel)), by decide +kernel⟩
theorem ks_X6_ifCoded : Kw (.selects RX6 yX6_ifCoded yX6_ifCoded) := ⟨List.mem_append_right _ (List.mem_of_getElem? (i := 840) (by decide +kernel)), by decide +kernel⟩
theorem kM_RL_73 : Kw (.methodLink RL 73 yX6_ifCoded) := ⟨List.mem_append_right _ (List.mem_of_getElem? (i := 838) (by decide +kernel)), by decide +kernel⟩
theorem kcw_L_ifBlock : Kw (.codeWith yL_ifBlock cL_ifBlock 6 (some .int) [(0, 12, 15, 19), (0, 12, 19, 13)]) := ⟨List.mem_append_right _ (List.mem_of_getElem? (i := 848) (by decide +kernel)), by decide +kernel⟩
theorem kc_X6_ifBlock : Kw (.code yX6_ifBlock cX6_ifBlock 4 (some .int)) := ⟨List.mem_append_right _ (List.mem_of_getElem? (i := 852) (by decide +kernel)), by decide +kernel⟩
theorem ki_X6_ifBlock : Kw (.instanceMethod yX6_ifBlock) := ⟨List.mem_append_right _ (List.mem_of_getElem? (i := 850) (by decide +kernel)), by decide +kernel⟩
theorem ks_X6_ifBlock : Kw (.selects RX6 yX6_ifBlock yX6_ifBlock) := ⟨List.mem_append_right _ (List.mem_of_getElem? (i := 851) (by decide +kernel)), by decide +kernel⟩
theorem kM_RL_77 : Kw (.methodLink RL 77 yX6_ifBlock) := ⟨List.mem_append_right _ (List.mem_of_getElem? (i := 849) (by decide +kernel)), by decide +kernel⟩
theorem kcw_L_bestStep : Kw (.codeWith yL_bestStep cL_bestStep 5 (some .int) [(0, 10, 13, 19)]) := ⟨List.mem_append_right _ (List.mem_of_getElem? (i := 856) (by decide +kernel)), by decide +kernel⟩
theorem ks_X6_bestStep : Kw (.selects RX6 yX6_bestStep yX6_bestStep) := ⟨List.mem_append_right _ (List.mem_of_getElem? (i := 564) (by decide +kernel)), by decide +kernel⟩
theorem kM_RL_80 : Kw (.methodLink RL 80 yX6_bestStep) := ⟨List.mem_append_right _ (List.mem_of_getElem? (i := 857) (by decide +kernel)), by decide +kernel⟩
theorem kcw_L_ifSpoiled : Kw (.codeWith yL_ifSpoiled cL_ifSpoiled 5 (some .int) [(0, 10, 13, 19), (0, 10, 17, 13)]) := ⟨List.mem_append_right _ (List.mem_of_getElem? (i := 860) (by decide +kernel)), by decide +kernel⟩
theorem ks_X6_ifSpoiled : Kw (.selects RX6 yX6_ifSpoiled yX6_ifSpoiled) := ⟨List.mem_append_right _ (List.mem_of_getElem? (i := 580) (by decide +kernel)), by decide +kernel⟩
theorem kM_RL_83 : Kw (.methodLink RL 83 yX6_ifSpoiled) := ⟨List.mem_append_right _ (List.mem_of_getElem? (i := 861) (by decide +kernel)), by decide +kernel⟩
set_option maxHeartbeats 4000000 in
theorem wL_wave (l : Launch) (hfl : l.stackTraces = false) {E : En} {σ μ : Sg} {dg w : Int64} {a1 : Int32} {res : Int32 ⊕ Nat} {σ' : Sg} {kc : Int32} (hf : fX6_wave a1 σ = some (res, σ')) (hk : wcd [0] res = some kc) : vx_Met l yL_wave [.codeWith yL_wave cL_wave 4 (some .int) [(0, 9, 12, 13)]] (RmX res 7 166) (va_Pc [.ref (eA E 0), .int a1, .ref (eO E)] (Od E σ μ dg w)) (Qo E σ' μ dg (wout w res) kc) (Xo E) (xc res) (xs6 res) (cP E) := by
  refine ow_of (by decide) (Nat.le_of_ble_eq_true rfl) (fun p e s m below meth c hx hb hr hlk hml hown htab hK hW ls hl => ?_)
  have hown : s.vm.findClass RL = some m.cls := hown
  refine lv_aload_n hx hb dL_wave_0 rfl (lv_at hl 2 rfl) ?_
  refine lv_iconst (v := 0) hx hb dL_wave_1 (by decide) ?_
  refine lv_aload_n hx hb dL_wave_2 rfl (lv_at hl 0 rfl) ?_
  refine lv_iload_n hx hb dL_wave_3 rfl (lv_at hl 1 rfl) ?_
  refine ow_call (np := 1) (As := [.int a1]) (rest := [.int 0, .ref (eO E)]) (q := 0) (T := TX6) (N := 9) hx hb hml hown hK hW ⟨⟨kI_RX6, kc_X6_wave, ⟨by decide +kernel, by decide +kernel⟩, by decide +kernel⟩, ki_X6_wave, ks_X6_wave⟩ kM_RL_7 rfl (by decide) (c_fx (by decide)) (mX6_wave l hfl hf) rfl dL_wave_4 rfl hl.1 (Nat.le_of_ble_eq_true rfl) ⟨Nat.le_of_ble_eq_true rfl, Nat.le_of_ble_eq_true rfl⟩ ⟨Nat.le_refl _, Nat.le_refl _⟩ (fun k hres H locs ce q9 hW hce hcv hcl => ?_) (fun r hres H locs hW => ?_)
  · subst hres
    have hk1 : k = 0 ∧ kc = 1 := by
      simp only [wcd] at hk
      split at hk
      · exact ⟨by assumption, (Option.some.inj hk).symm⟩
      · cases hk
    obtain ⟨rfl, rfl⟩ := hk1
    refine vx_catch (own := RL) (name := exN 0) (E := exN 0) hown [] ⟨0, 9, 12, 13⟩ [] htab (fun _ h => absurd h List.not_mem_nil) (by decide) (by decide) (hK.1.2.1.at kL_RL_13 _) (va_Nw.use rfl (hK.1.2.2.2.2.2.1.1 _ (List.mem_of_getElem? (i := 5) rfl))) hce hcv hcl ?_
    refine lv_astore_n hx hb dL_wave_12 rfl hl (by decide) rfl (fun ls hl => ?_)
    refine lv_iconst (v := 1) hx hb dL_wave_13 (by decide) ?_
    exact ow_ret hx hb hr hlk hW rfl rfl dL_wave_14
  · subst hres
    obtain rfl : 0 = kc := Option.some.inj hk
    refine lv_i2l (v := r.toInt64) hx hb dL_wave_7 rfl ?_
    refine ow_last hx hb hK hW dL_wave_8 (fun H locs hW => ?_)
    refine lv_goto (tgt := 15) hx hb dL_wave_9 (by decide) ?_
    refine lv_iconst (v := 0) hx hb dL_wave_15 (by decide) ?_
    exact ow_ret hx hb hr hlk hW rfl rfl dL_wave_16
set_option maxHeartbeats 4000000 in
theorem wL_sample (l : Launch) (hfl : l.stackTraces = false) {E : En} {σ μ : Sg} {dg w : Int64} {a1 a2 : Int32} {res : Int32 ⊕ Nat} {σ' : Sg} {kc : Int32} (hf : fX6_sample a1 a2 σ = some (res, σ')) (hk : wcd [1, 0] res = some kc) : vx_Met l yL_sample [.codeWith yL_sample cL_sample 5 (some .int) [(0, 10, 13, 19), (0, 10, 17, 13)]] (RmX res 7 167) (va_Pc [.ref (eA E 0), .int a1, .int a2, .ref (eO E)] (Od E σ μ dg w)) (Qo E σ' μ dg (wout w res) kc) (Xo E) (xc res) (xs6 res) (cP E) := by
  refine ow_of (by decide) (Nat.le_of_ble_eq_true rfl) (fun p e s m below meth c hx hb hr hlk hml hown htab hK hW ls hl => ?_)
  have hown : s.vm.findClass RL = some m.cls := hown
  refine lv_aload_n hx hb dL_sample_0 rfl (lv_at hl 3 rfl) ?_
  refine lv_iconst (v := 0) hx hb dL_sample_1 (by decide) ?_
  refine lv_aload_n hx hb dL_sample_2 rfl (lv_at hl 0 rfl) ?_
  refine lv_iload_n hx hb dL_sample_3 rfl (lv_at hl 1 rfl) ?_
  refine lv_iload_n hx hb dL_sample_4 rfl (lv_at hl 2 rfl) ?_
  refine ow_call (np := 2) (As := [.int a1, .int a2]) (rest := [.int 0, .ref (eO E)]) (q := 0) (T := TX6) (N := 9) hx hb hml hown hK hW ⟨⟨kI_RX6, kc_X6_sample, ⟨by decide +kernel, by decide +kernel⟩, by decide +kernel⟩, ki_X6_sample, ks_X6_sample⟩ kM_RL_15 rfl (by decide) (c_fx (by decide)) (mX6_sample l hfl hf) rfl dL_sample_5 rfl hl.1 (Nat.le_of_ble_eq_true rfl) ⟨Nat.le_of_ble_eq_true rfl, Nat.le_of_ble_eq_true rfl⟩ ⟨Nat.le_refl _, Nat.le_refl _⟩ (fun k hres H locs ce q9 hW hce hcv hcl => ?_) (fun r hres H locs hW => ?_)
  · subst hres
    have hk1 : (k = 1 ∧ kc = 1) ∨ (k = 0 ∧ kc = 2) := by
      simp only [wcd] at hk
      split at hk
      · exact Or.inl ⟨by assumption, (Option.some.inj hk).symm⟩
      · split at hk
        · exact Or.inr ⟨by assumption, (Option.some.inj hk).symm⟩
        · cases hk
    rcases hk1 with ⟨rfl, rfl⟩ | ⟨rfl, rfl⟩
    · refine vx_catch (own := RL) (name := exN 1) (E := exN 1) hown [] ⟨0, 10, 13, 19⟩ [⟨0, 10, 17, 13⟩] htab (fun _ h => absurd h List.not_mem_nil) (by decide) (by decide) (hK.1.2.1.at kL_RL_19 _) (va_Nw.use rfl (hK.1.2.2.2.2.2.1.1 _ (List.mem_of_getElem? (i := 6) rfl))) hce hcv hcl ?_
      refine lv_astore hx hb dL_sample_13 hl (by decide) rfl (fun ls hl => ?_)
      refine lv_iconst (v := 1) hx hb dL_sample_15 (by decide) ?_
      exact ow_ret hx hb hr hlk hW rfl rfl dL_sample_16
    · refine vx_catch (own := RL) (name := exN 0) (E := exN 0) hown [⟨0, 10, 13, 19⟩] ⟨0, 10, 17, 13⟩ [] htab (fun z hz => by
        cases List.mem_singleton.mp hz
        exact Or.inr ⟨by decide, exN 1, hK.1.2.1.at kL_RL_19 _, hK.1.2.2.2.2.2.1.2 _ (List.mem_of_getElem? (i := 0) rfl)⟩) (by decide) (by decide) (hK.1.2.1.at kL_RL_13 _) (va_Nw.use rfl (hK.1.2.2.2.2.2.1.1 _ (List.mem_of_getElem? (i := 5) rfl))) hce hcv hcl ?_
      refine lv_astore hx hb dL_sample_17 hl (by decide) rfl (fun ls hl => ?_)
      refine lv_iconst (v := 2) hx hb dL_sample_19 (by decide) ?_
      exact ow_ret hx hb hr hlk hW rfl rfl dL_sample_20
  · subst hres
    obtain rfl : 0 = kc := Option.some.inj hk
    refine lv_i2l (v := r.toInt64) hx hb dL_sample_8 rfl ?_
    refine ow_last hx hb hK hW dL_sample_9 (fun H locs hW => ?_)
    refine lv_goto (tgt := 21) hx hb dL_sample_10 (by decide) ?_
    refine lv_iconst (v := 0) hx hb dL_sample_21 (by decide) ?_
    exact ow_ret hx hb hr hlk hW rfl rfl dL_sample_22
set_option maxHeartbeats 4000000 in
theorem wL_add (l : Launch) (hfl : l.stackTraces = false) {E : En} {σ μ : Sg} {dg w : Int64} {a1 a2 a3 : Int32} {res : Int32 ⊕ Nat} {σ' : Sg} {kc : Int32} (hf : fX6_add a1 a2 a3 σ = some (res, σ')) (hk : wcd [0] res = some kc) : vx_Met l yL_add [.codeWith yL_add cL_add 6 (some .int) [(0, 12, 15, 13)]] (RmX res 7 170) (va_Pc [.ref (eA E 0), .int a1, .int a2, .int a3, .ref (eO E)] (Od E σ μ dg w)) (Qo E σ' μ dg (wout w res) kc) (Xo E) (xc res) (xs6 res) (cP E) := by
  refine ow_of (by decide) (Nat.le_of_ble_eq_true rfl) (fun p e s m below meth c hx hb hr hlk hml hown htab hK hW ls hl => ?_)
  have hown : s.vm.findClass RL = some m.cls := hown
  refine lv_aload hx hb dL_add_0 (lv_at hl 4 rfl) ?_
  refine lv_iconst (v := 0) hx hb dL_add_2 (by decide) ?_
  refine lv_aload_n hx hb dL_add_3 rfl (lv_at hl 0 rfl) ?_
  refine lv_iload_n hx hb dL_add_4 rfl (lv_at hl 1 rfl) ?_
  refine lv_iload_n hx hb dL_add_5 rfl (lv_at hl 2 rfl) ?_
  refine lv_iload_n hx hb dL_add_6 rfl (lv_at hl 3 rfl) ?_
  refine ow_call (np := 3) (As := [.int a1, .int a2, .int a3]) (rest := [.int 0, .ref (eO E)]) (q := 0) (T := TX6) (N := 9) hx hb hml hown hK hW ⟨⟨kI_RX6, kc_X6_add, ⟨by decide +kernel, by decide +kernel⟩, by decide +kernel⟩, ki_X6_add, ks_X6_add⟩ kM_RL_21 rfl (by decide) (c_fx (by decide)) (mX6_add l hfl hf) rfl dL_add_7 rfl hl.1 (Nat.le_of_ble_eq_true rfl) ⟨Nat.le_of_ble_eq_true rfl, Nat.le_of_ble_eq_true rfl⟩ ⟨Nat.le_refl _, Nat.le_refl _⟩ (fun k hres H locs ce q9 hW hce hcv hcl => ?_) (fun r hres H locs hW => ?_)
  · subst hres
    have hk1 : k = 0 ∧ kc = 1 := by
      simp only [wcd] at hk
      split at hk
      · exact ⟨by assumption, (Option.some.inj hk).symm⟩
      · cases hk
    obtain ⟨rfl, rfl⟩ := hk1
    refine vx_catch (own := RL) (name := exN 0) (E := exN 0) hown [] ⟨0, 12, 15, 13⟩ [] htab (fun _ h => absurd h List.not_mem_nil) (by decide) (by decide) (hK.1.2.1.at kL_RL_13 _) (va_Nw.use rfl (hK.1.2.2.2.2.2.1.1 _ (List.mem_of_getElem? (i := 5) rfl))) hce hcv hcl ?_
    refine lv_astore hx hb dL_add_15 hl (by decide) rfl (fun ls hl => ?_)
    refine lv_iconst (v := 1) hx hb dL_add_17 (by decide) ?_
    exact ow_ret hx hb hr hlk hW rfl rfl dL_add_18
  · subst hres
    obtain rfl : 0 = kc := Option.some.inj hk
    refine lv_i2l (v := r.toInt64) hx hb dL_add_10 rfl ?_
    refine ow_last hx hb hK hW dL_add_11 (fun H locs hW => ?_)
    refine lv_goto (tgt := 19) hx hb dL_add_12 (by decide) ?_
    refine lv_iconst (v := 0) hx hb dL_add_19 (by decide) ?_
    exact ow_ret hx hb hr hlk hW rfl rfl dL_add_20
set_option maxHeartbeats 4000000 in
theorem wL_take (l : Launch) (hfl : l.stackTraces = false) {E : En} {σ μ : Sg} {dg w : Int64} {res : Int32 ⊕ Nat} {σ' : Sg} {kc : Int32} (hf : fX6_take σ = some (res, σ')) (hk : wcd [2] res = some kc) : vx_Met l yL_take [.codeWith yL_take cL_take 3 (some .int) [(0, 8, 11, 29)]] (RmX res 7 165) (va_Pc [.ref (eA E 0), .ref (eO E)] (Od E σ μ dg w)) (Qo E σ' μ dg (wout w res) kc) (Xo E) (xc res) (xs6 res) (cP E) := by
  refine ow_of (by decide) (Nat.le_of_ble_eq_true rfl) (fun p e s m below meth c hx hb hr hlk hml hown htab hK hW ls hl => ?_)
  have hown : s.vm.findClass RL = some m.cls := hown
  refine lv_aload_n hx hb dL_take_0 rfl (lv_at hl 1 rfl) ?_
  refine lv_iconst (v := 0) hx hb dL_take_1 (by decide) ?_
  refine lv_aload_n hx hb dL_take_2 rfl (lv_at hl 0 rfl) ?_
  refine ow_call (np := 0) (As := []) (rest := [.int 0, .ref (eO E)]) (q := 0) (T := TX6) (N := 9) hx hb hml hown hK hW ⟨⟨kI_RX6, kc_X6_take, ⟨by decide +kernel, by decide +kernel⟩, by decide +kernel⟩, ki_X6_take, ks_X6_take⟩ kM_RL_25 rfl (by decide) (c_fx (by decide)) (mX6_take l hfl hf) rfl dL_take_3 rfl hl.1 (Nat.le_of_ble_eq_true rfl) ⟨Nat.le_of_ble_eq_true rfl, Nat.le_of_ble_eq_true rfl⟩ ⟨Nat.le_refl _, Nat.le_refl _⟩ (fun k hres H locs ce q9 hW hce hcv hcl => ?_) (fun r hres H locs hW => ?_)
  · subst hres
    have hk1 : k = 2 ∧ kc = 1 := by
      simp only [wcd] at hk
      split at hk
      · exact ⟨by assumption, (Option.some.inj hk).symm⟩
      · cases hk
    obtain ⟨rfl, rfl⟩ := hk1
    refine vx_catch (own := RL) (name := exN 2) (E := exN 2) hown [] ⟨0, 8, 11, 29⟩ [] htab (fun _ h => absurd h List.not_mem_nil) (by decide) (by decide) (hK.1.2.1.at kL_RL_29 _) (va_Nw.use rfl (hK.1.2.2.2.2.2.1.1 _ (List.mem_of_getElem? (i := 7) rfl))) hce hcv hcl ?_
    refine lv_astore_n hx hb dL_take_11 rfl hl (by decide) rfl (fun ls hl => ?_)
    refine lv_iconst (v := 1) hx hb dL_take_12 (by decide) ?_
    exact ow_ret hx hb hr hlk hW rfl rfl dL_take_13
  · subst hres
    obtain rfl : 0 = kc := Option.some.inj hk
    refine lv_i2l (v := r.toInt64) hx hb dL_take_6 rfl ?_
    refine ow_last hx hb hK hW dL_take_7 (fun H locs hW => ?_)
    refine lv_goto (tgt := 14) hx hb dL_take_8 (by decide) ?_
    refine lv_iconst (v := 0) hx hb dL_take_14 (by decide) ?_
    exact ow_ret hx hb hr hlk hW rfl rfl dL_take_15
set_option maxHeartbeats 4000000 in
theorem wL_set (l : Launch) (hfl : l.stackTraces = false) {E : En} {σ μ : Sg} {dg w : Int64} {a1 a2 : Int32} {res : Int32 ⊕ Nat} {σ' : Sg} {kc : Int32} (hf : fX6_set a1 a2 σ = some (res, σ')) (hk : wcd [1, 0] res = some kc) : vx_Met l yL_set [.codeWith yL_set cL_set 5 (some .int) [(0, 10, 13, 19), (0, 10, 17, 13)]] (RmX res 7 167) (va_Pc [.ref (eA E 0), .int a1, .int a2, .ref (eO E)] (Od E σ μ dg w)) (Qo E σ' μ dg (wout w res) kc) (Xo E) (xc res) (xs6 res) (cP E) := by
  refine ow_of (by decide) (Nat.le_of_ble_eq_true rfl) (fun p e s m below meth c hx hb hr hlk hml hown htab hK hW ls hl => ?_)
  have hown : s.vm.findClass RL = some m.cls := hown
  refine lv_aload_n hx hb dL_set_0 rfl (lv_at hl 3 rfl) ?_
  refine lv_iconst (v := 0) hx hb dL_set_1 (by decide) ?_
  refine lv_aload_n hx hb dL_set_2 rfl (lv_at hl 0 rfl) ?_
  refine lv_iload_n hx hb dL_set_3 rfl (lv_at hl 1 rfl) ?_
  refine lv_iload_n hx hb dL_set_4 rfl (lv_at hl 2 rfl) ?_
  refine ow_call (np := 2) (As := [.int a1, .int a2]) (rest := [.int 0, .ref (eO E)]) (q := 0) (T := TX6) (N := 9) hx hb hml hown hK hW ⟨⟨kI_RX6, kc_X6_set, ⟨by decide +kernel, by decide +kernel⟩, by decide +kernel⟩, ki_X6_set, ks_X6_set⟩ kM_RL_31 rfl (by decide) (c_fx (by decide)) (mX6_set l hfl hf) rfl dL_set_5 rfl hl.1 (Nat.le_of_ble_eq_true rfl) ⟨Nat.le_of_ble_eq_true rfl, Nat.le_of_ble_eq_true rfl⟩ ⟨Nat.le_refl _, Nat.le_refl _⟩ (fun k hres H locs ce q9 hW hce hcv hcl => ?_) (fun r hres H locs hW => ?_)
  · subst hres
    have hk1 : (k = 1 ∧ kc = 1) ∨ (k = 0 ∧ kc = 2) := by
      simp only [wcd] at hk
      split at hk
      · exact Or.inl ⟨by assumption, (Option.some.inj hk).symm⟩
      · split at hk
        · exact Or.inr ⟨by assumption, (Option.some.inj hk).symm⟩
        · cases hk
    rcases hk1 with ⟨rfl, rfl⟩ | ⟨rfl, rfl⟩
    · refine vx_catch (own := RL) (name := exN 1) (E := exN 1) hown [] ⟨0, 10, 13, 19⟩ [⟨0, 10, 17, 13⟩] htab (fun _ h => absurd h List.not_mem_nil) (by decide) (by decide) (hK.1.2.1.at kL_RL_19 _) (va_Nw.use rfl (hK.1.2.2.2.2.2.1.1 _ (List.mem_of_getElem? (i := 6) rfl))) hce hcv hcl ?_
      refine lv_astore hx hb dL_set_13 hl (by decide) rfl (fun ls hl => ?_)
      refine lv_iconst (v := 1) hx hb dL_set_15 (by decide) ?_
      exact ow_ret hx hb hr hlk hW rfl rfl dL_set_16
    · refine vx_catch (own := RL) (name := exN 0) (E := exN 0) hown [⟨0, 10, 13, 19⟩] ⟨0, 10, 17, 13⟩ [] htab (fun z hz => by
        cases List.mem_singleton.mp hz
        exact Or.inr ⟨by decide, exN 1, hK.1.2.1.at kL_RL_19 _, hK.1.2.2.2.2.2.1.2 _ (List.mem_of_getElem? (i := 0) rfl)⟩) (by decide) (by decide) (hK.1.2.1.at kL_RL_13 _) (va_Nw.use rfl (hK.1.2.2.2.2.2.1.1 _ (List.mem_of_getElem? (i := 5) rfl))) hce hcv hcl ?_
      refine lv_astore hx hb dL_set_17 hl (by decide) rfl (fun ls hl => ?_)
      refine lv_iconst (v := 2) hx hb dL_set_19 (by decide) ?_
      exact ow_ret hx hb hr hlk hW rfl rfl dL_set_20
  · subst hres
    obtain rfl : 0 = kc := Option.some.inj hk
    refine lv_i2l (v := r.toInt64) hx hb dL_set_8 rfl ?_
    refine ow_last hx hb hK hW dL_set_9 (fun H locs hW => ?_)
    refine lv_goto (tgt := 21) hx hb dL_set_10 (by decide) ?_
    refine lv_iconst (v := 0) hx hb dL_set_21 (by decide) ?_
    exact ow_ret hx hb hr hlk hW rfl rfl dL_set_22
set_option maxHeartbeats 4000000 in
theorem wL_lose (l : Launch) (hfl : l.stackTraces = false) {E : En} {σ μ : Sg} {dg w : Int64} {a1 : Int32} {res : Int32 ⊕ Nat} {σ' : Sg} {kc : Int32} (hf : fX6_lose a1 σ = some (res, σ')) (hk : wcd [1] res = some kc) : vx_Met l yL_lose [.codeWith yL_lose cL_lose 4 (some .int) [(0, 9, 12, 19)]] (RmX res 8 165) (va_Pc [.ref (eA E 0), .int a1, .ref (eO E)] (Od E σ μ dg w)) (Qo E σ' μ dg (wout w res) kc) (Xo E) (xc res) (xs6 res) (cP E) := by
  refine ow_of (by decide) (Nat.le_of_ble_eq_true rfl) (fun p e s m below meth c hx hb hr hlk hml hown htab hK hW ls hl => ?_)
  have hown : s.vm.findClass RL = some m.cls := hown
  refine lv_aload_n hx hb dL_lose_0 rfl (lv_at hl 2 rfl) ?_
  refine lv_iconst (v := 0) hx hb dL_lose_1 (by decide) ?_
  refine lv_aload_n hx hb dL_lose_2 rfl (lv_at hl 0 rfl) ?_
  refine lv_iload_n hx hb dL_lose_3 rfl (lv_at hl 1 rfl) ?_
  refine ow_call (np := 1) (As := [.int a1]) (rest := [.int 0, .ref (eO E)]) (q := 0) (T := TX6) (N := 9) hx hb hml hown hK hW ⟨⟨kI_RX6, kc_X6_lose, ⟨by decide +kernel, by decide +kernel⟩, by decide +kernel⟩, ki_X6_lose, ks_X6_lose⟩ kM_RL_34 rfl (by decide) (c_fx (by decide)) (mX6_lose l hfl hf) rfl dL_lose_4 rfl hl.1 (Nat.le_of_ble_eq_true rfl) ⟨Nat.le_of_ble_eq_true rfl, Nat.le_of_ble_eq_true rfl⟩ ⟨Nat.le_refl _, Nat.le_refl _⟩ (fun k hres H locs ce q9 hW hce hcv hcl => ?_) (fun r hres H locs hW => ?_)
  · subst hres
    have hk1 : k = 1 ∧ kc = 1 := by
      simp only [wcd] at hk
      split at hk
      · exact ⟨by assumption, (Option.some.inj hk).symm⟩
      · cases hk
    obtain ⟨rfl, rfl⟩ := hk1
    refine vx_catch (own := RL) (name := exN 1) (E := exN 1) hown [] ⟨0, 9, 12, 19⟩ [] htab (fun _ h => absurd h List.not_mem_nil) (by decide) (by decide) (hK.1.2.1.at kL_RL_19 _) (va_Nw.use rfl (hK.1.2.2.2.2.2.1.1 _ (List.mem_of_getElem? (i := 6) rfl))) hce hcv hcl ?_
    refine lv_astore_n hx hb dL_lose_12 rfl hl (by decide) rfl (fun ls hl => ?_)
    refine lv_iconst (v := 1) hx hb dL_lose_13 (by decide) ?_
    exact ow_ret hx hb hr hlk hW rfl rfl dL_lose_14
  · subst hres
    obtain rfl : 0 = kc := Option.some.inj hk
    refine lv_i2l (v := r.toInt64) hx hb dL_lose_7 rfl ?_
    refine ow_last hx hb hK hW dL_lose_8 (fun H locs hW => ?_)
    refine lv_goto (tgt := 15) hx hb dL_lose_9 (by decide) ?_
    refine lv_iconst (v := 0) hx hb dL_lose_15 (by decide) ?_
    exact ow_ret hx hb hr hlk hW rfl rfl dL_lose_16
set_option maxHeartbeats 4000000 in
theorem wL_spoil (l : Launch) (hfl : l.stackTraces = false) {E : En} {σ μ : Sg} {dg w : Int64} {a1 a2 : Int32} {res : Int32 ⊕ Nat} {σ' : Sg} {kc : Int32} (hf : fX6_spoil a1 a2 σ = some (res, σ')) (hk : wcd [1, 0] res = some kc) : vx_Met l yL_spoil [.codeWith yL_spoil cL_spoil 5 (some .int) [(0, 10, 13, 19), (0, 10, 17, 13)]] (RmX res 8 166) (va_Pc [.ref (eA E 0), .int a1, .int a2, .ref (eO E)] (Od E σ μ dg w)) (Qo E σ' μ dg (wout w res) kc) (Xo E) (xc res) (xs6 res) (cP E) := by
  refine ow_of (by decide) (Nat.le_of_ble_eq_true rfl) (fun p e s m below meth c hx hb hr hlk hml hown htab hK hW ls hl => ?_)
  have hown : s.vm.findClass RL = some m.cls := hown
  refine lv_aload_n hx hb dL_spoil_0 rfl (lv_at hl 3 rfl) ?_
  refine lv_iconst (v := 0) hx hb dL_spoil_1 (by decide) ?_
  refine lv_aload_n hx hb dL_spoil_2 rfl (lv_at hl 0 rfl) ?_
  refine lv_iload_n hx hb dL_spoil_3 rfl (lv_at hl 1 rfl) ?_
  refine lv_iload_n hx hb dL_spoil_4 rfl (lv_at hl 2 rfl) ?_
  refine ow_call (np := 2) (As := [.int a1, .int a2]) (rest := [.int 0, .ref (eO E)]) (q := 0) (T := TX6) (N := 9) hx hb hml hown hK hW ⟨⟨kI_RX6, kc_X6_spoil, ⟨by decide +kernel, by decide +kernel⟩, by decide +kernel⟩, ki_X6_spoil, ks_X6_spoil⟩ kM_RL_37 rfl (by decide) (c_fx (by decide)) (mX6_spoil l hfl hf) rfl dL_spoil_5 rfl hl.1 (Nat.le_of_ble_eq_true rfl) ⟨Nat.le_of_ble_eq_true rfl, Nat.le_of_ble_eq_true rfl⟩ ⟨Nat.le_refl _, Nat.le_refl _⟩ (fun k hres H locs ce q9 hW hce hcv hcl => ?_) (fun r hres H locs hW => ?_)
  · subst hres
    have hk1 : (k = 1 ∧ kc = 1) ∨ (k = 0 ∧ kc = 2) := by
      simp only [wcd] at hk
      split at hk
      · exact Or.inl ⟨by assumption, (Option.some.inj hk).symm⟩
      · split at hk
        · exact Or.inr ⟨by assumption, (Option.some.inj hk).symm⟩
        · cases hk
    rcases hk1 with ⟨rfl, rfl⟩ | ⟨rfl, rfl⟩
    · refine vx_catch (own := RL) (name := exN 1) (E := exN 1) hown [] ⟨0, 10, 13, 19⟩ [⟨0, 10, 17, 13⟩] htab (fun _ h => absurd h List.not_mem_nil) (by decide) (by decide) (hK.1.2.1.at kL_RL_19 _) (va_Nw.use rfl (hK.1.2.2.2.2.2.1.1 _ (List.mem_of_getElem? (i := 6) rfl))) hce hcv hcl ?_
      refine lv_astore hx hb dL_spoil_13 hl (by decide) rfl (fun ls hl => ?_)
      refine lv_iconst (v := 1) hx hb dL_spoil_15 (by decide) ?_
      exact ow_ret hx hb hr hlk hW rfl rfl dL_spoil_16
    · refine vx_catch (own := RL) (name := exN 0) (E := exN 0) hown [⟨0, 10, 13, 19⟩] ⟨0, 10, 17, 13⟩ [] htab (fun z hz => by
        cases List.mem_singleton.mp hz
        exact Or.inr ⟨by decide, exN 1, hK.1.2.1.at kL_RL_19 _, hK.1.2.2.2.2.2.1.2 _ (List.mem_of_getElem? (i := 0) rfl)⟩) (by decide) (by decide) (hK.1.2.1.at kL_RL_13 _) (va_Nw.use rfl (hK.1.2.2.2.2.2.1.1 _ (List.mem_of_getElem? (i := 5) rfl))) hce hcv hcl ?_
      refine lv_astore hx hb dL_spoil_17 hl (by decide) rfl (fun ls hl => ?_)
      refine lv_iconst (v := 2) hx hb dL_spoil_19 (by decide) ?_
      exact ow_ret hx hb hr hlk hW rfl rfl dL_spoil_20
  · subst hres
    obtain rfl : 0 = kc := Option.some.inj hk
    refine lv_i2l (v := r.toInt64) hx hb dL_spoil_8 rfl ?_
    refine ow_last hx hb hK hW dL_spoil_9 (fun H locs hW => ?_)
    refine lv_goto (tgt := 21) hx hb dL_spoil_10 (by decide) ?_
    refine lv_iconst (v := 0) hx hb dL_spoil_21 (by decide) ?_
    exact ow_ret hx hb hr hlk hW rfl rfl dL_spoil_22
set_option maxHeartbeats 4000000 in
theorem wL_append (l : Launch) (hfl : l.stackTraces = false) {E : En} {σ μ : Sg} {dg w : Int64} {a1 : Int32} {res : Int32 ⊕ Nat} {σ' : Sg} {kc : Int32} (hf : fX6_append a1 σ = some (res, σ')) (hk : wcd [0, 2] res = some kc) : vx_Met l yL_append [.codeWith yL_append cL_append 4 (some .int) [(0, 9, 12, 13), (0, 9, 15, 29)]] (RmX res 7 111) (va_Pc [.ref (eA E 0), .int a1, .ref (eO E)] (Od E σ μ dg w)) (Qo E σ' μ dg (wout w res) kc) (Xo E) (xc res) (xs6 res) (cP E) := by
  refine ow_of (by decide) (Nat.le_of_ble_eq_true rfl) (fun p e s m below meth c hx hb hr hlk hml hown htab hK hW ls hl => ?_)
  have hown : s.vm.findClass RL = some m.cls := hown
  refine lv_aload_n hx hb dL_append_0 rfl (lv_at hl 2 rfl) ?_
  refine lv_iconst (v := 0) hx hb dL_append_1 (by decide) ?_
  refine lv_aload_n hx hb dL_append_2 rfl (lv_at hl 0 rfl) ?_
  refine lv_iload_n hx hb dL_append_3 rfl (lv_at hl 1 rfl) ?_
  refine ow_call (np := 1) (As := [.int a1]) (rest := [.int 0, .ref (eO E)]) (q := 0) (T := TX6) (N := 9) hx hb hml hown hK hW ⟨⟨kI_RX6, kc_X6_append, ⟨by decide +kernel, by decide +kernel⟩, by decide +kernel⟩, ki_X6_append, ks_X6_append⟩ kM_RL_40 rfl (by decide) (c_fx (by decide)) (mX6_append l hfl hf) rfl dL_append_4 rfl hl.1 (Nat.le_of_ble_eq_true rfl) ⟨Nat.le_of_ble_eq_true rfl, Nat.le_of_ble_eq_true rfl⟩ ⟨Nat.le_refl _, Nat.le_refl _⟩ (fun k hres H locs ce q9 hW hce hcv hcl => ?_) (fun r hres H locs hW => ?_)
  · subst hres
    have hk1 : (k = 0 ∧ kc = 1) ∨ (k = 2 ∧ kc = 2) := by
      simp only [wcd] at hk
      split at hk
      · exact Or.inl ⟨by assumption, (Option.some.inj hk).symm⟩
      · split at hk
        · exact Or.inr ⟨by assumption, (Option.some.inj hk).symm⟩
        · cases hk
    rcases hk1 with ⟨rfl, rfl⟩ | ⟨rfl, rfl⟩
    · refine vx_catch (own := RL) (name := exN 0) (E := exN 0) hown [] ⟨0, 9, 12, 13⟩ [⟨0, 9, 15, 29⟩] htab (fun _ h => absurd h List.not_mem_nil) (by decide) (by decide) (hK.1.2.1.at kL_RL_13 _) (va_Nw.use rfl (hK.1.2.2.2.2.2.1.1 _ (List.mem_of_getElem? (i := 5) rfl))) hce hcv hcl ?_
      refine lv_astore_n hx hb dL_append_12 rfl hl (by decide) rfl (fun ls hl => ?_)
      refine lv_iconst (v := 1) hx hb dL_append_13 (by decide) ?_
      exact ow_ret hx hb hr hlk hW rfl rfl dL_append_14
    · refine vx_catch (own := RL) (name := exN 2) (E := exN 2) hown [⟨0, 9, 12, 13⟩] ⟨0, 9, 15, 29⟩ [] htab (fun z hz => by
        cases List.mem_singleton.mp hz
        exact Or.inr ⟨by decide, exN 0, hK.1.2.1.at kL_RL_13 _, hK.1.2.2.2.2.2.1.2 _ (List.mem_of_getElem? (i := 1) rfl)⟩) (by decide) (by decide) (hK.1.2.1.at kL_RL_29 _) (va_Nw.use rfl (hK.1.2.2.2.2.2.1.1 _ (List.mem_of_getElem? (i := 7) rfl))) hce hcv hcl ?_
      refine lv_astore_n hx hb dL_append_15 rfl hl (by decide) rfl (fun ls hl => ?_)
      refine lv_iconst (v := 2) hx hb dL_append_16 (by decide) ?_
      exact ow_ret hx hb hr hlk hW rfl rfl dL_append_17
  · subst hres
    obtain rfl : 0 = kc := Option.some.inj hk
    refine lv_i2l (v := r.toInt64) hx hb dL_append_7 rfl ?_
    refine ow_last hx hb hK hW dL_append_8 (fun H locs hW => ?_)
    refine lv_goto (tgt := 18) hx hb dL_append_9 (by decide) ?_
    refine lv_iconst (v := 0) hx hb dL_append_18 (by decide) ?_
    exact ow_ret hx hb hr hlk hW rfl rfl dL_append_19
set_option maxHeartbeats 4000000 in
theorem wL_load (l : Launch) (hfl : l.stackTraces = false) {E : En} {σ μ : Sg} {dg w : Int64} {a1 : Int32} {res : Int32 ⊕ Nat} {σ' : Sg} {kc : Int32} (hf : fX6_load a1 σ = some (res, σ')) (hk : wcd [1, 0] res = some kc) : vx_Met l yL_load [.codeWith yL_load cL_load 4 (some .int) [(0, 9, 12, 19), (0, 9, 15, 13)]] (RmX res 8 165) (va_Pc [.ref (eA E 0), .int a1, .ref (eO E)] (Od E σ μ dg w)) (Qo E σ' μ dg (wout w res) kc) (Xo E) (xc res) (xs6 res) (cP E) := by
  refine ow_of (by decide) (Nat.le_of_ble_eq_true rfl) (fun p e s m below meth c hx hb hr hlk hml hown htab hK hW ls hl => ?_)
  have hown : s.vm.findClass RL = some m.cls := hown
  refine lv_aload_n hx hb dL_load_0 rfl (lv_at hl 2 rfl) ?_
  refine lv_iconst (v := 0) hx hb dL_load_1 (by decide) ?_
  refine lv_aload_n hx hb dL_load_2 rfl (lv_at hl 0 rfl) ?_
  refine lv_iload_n hx hb dL_load_3 rfl (lv_at hl 1 rfl) ?_
  refine ow_call (np := 1) (As := [.int a1]) (rest := [.int 0, .ref (eO E)]) (q := 0) (T := TX6) (N := 9) hx hb hml hown hK hW ⟨⟨kI_RX6, kc_X6_load, ⟨by decide +kernel, by decide +kernel⟩, by decide +kernel⟩, ki_X6_load, ks_X6_load⟩ kM_RL_43 rfl (by decide) (c_fx (by decide)) (mX6_load l hfl hf) rfl dL_load_4 rfl hl.1 (Nat.le_of_ble_eq_true rfl) ⟨Nat.le_of_ble_eq_true rfl, Nat.le_of_ble_eq_true rfl⟩ ⟨Nat.le_refl _, Nat.le_refl _⟩ (fun k hres H locs ce q9 hW hce hcv hcl => ?_) (fun r hres H locs hW => ?_)
  · subst hres
    have hk1 : (k = 1 ∧ kc = 1) ∨ (k = 0 ∧ kc = 2) := by
      simp only [wcd] at hk
      split at hk
      · exact Or.inl ⟨by assumption, (Option.some.inj hk).symm⟩
      · split at hk
        · exact Or.inr ⟨by assumption, (Option.some.inj hk).symm⟩
        · cases hk
    rcases hk1 with ⟨rfl, rfl⟩ | ⟨rfl, rfl⟩
    · refine vx_catch (own := RL) (name := exN 1) (E := exN 1) hown [] ⟨0, 9, 12, 19⟩ [⟨0, 9, 15, 13⟩] htab (fun _ h => absurd h List.not_mem_nil) (by decide) (by decide) (hK.1.2.1.at kL_RL_19 _) (va_Nw.use rfl (hK.1.2.2.2.2.2.1.1 _ (List.mem_of_getElem? (i := 6) rfl))) hce hcv hcl ?_
      refine lv_astore_n hx hb dL_load_12 rfl hl (by decide) rfl (fun ls hl => ?_)
      refine lv_iconst (v := 1) hx hb dL_load_13 (by decide) ?_
      exact ow_ret hx hb hr hlk hW rfl rfl dL_load_14
    · refine vx_catch (own := RL) (name := exN 0) (E := exN 0) hown [⟨0, 9, 12, 19⟩] ⟨0, 9, 15, 13⟩ [] htab (fun z hz => by
        cases List.mem_singleton.mp hz
        exact Or.inr ⟨by decide, exN 1, hK.1.2.1.at kL_RL_19 _, hK.1.2.2.2.2.2.1.2 _ (List.mem_of_getElem? (i := 0) rfl)⟩) (by decide) (by decide) (hK.1.2.1.at kL_RL_13 _) (va_Nw.use rfl (hK.1.2.2.2.2.2.1.1 _ (List.mem_of_getElem? (i := 5) rfl))) hce hcv hcl ?_
      refine lv_astore_n hx hb dL_load_15 rfl hl (by decide) rfl (fun ls hl => ?_)
      refine lv_iconst (v := 2) hx hb dL_load_16 (by decide) ?_
      exact ow_ret hx hb hr hlk hW rfl rfl dL_load_17
  · subst hres
    obtain rfl : 0 = kc := Option.some.inj hk
    refine lv_i2l (v := r.toInt64) hx hb dL_load_7 rfl ?_
    refine ow_last hx hb hK hW dL_load_8 (fun H locs hW => ?_)
    refine lv_goto (tgt := 18) hx hb dL_load_9 (by decide) ?_
    refine lv_iconst (v := 0) hx hb dL_load_18 (by decide) ?_
    exact ow_ret hx hb hr hlk hW rfl rfl dL_load_19
set_option maxHeartbeats 4000000 in
theorem wL_write (l : Launch) (hfl : l.stackTraces = false) {E : En} {σ μ : Sg} {dg w : Int64} {a1 : Int32} {res : Int32 ⊕ Nat} {σ' : Sg} {kc : Int32} (hf : fX6_write a1 σ = some (res, σ')) (hk : wcd [1] res = some kc) : vx_Met l yL_write [.codeWith yL_write cL_write 4 (some .int) [(0, 9, 12, 19)]] (RmX res 8 132) (va_Pc [.ref (eA E 0), .int a1, .ref (eO E)] (Od E σ μ dg w)) (Qo E σ' μ dg (wout w res) kc) (Xo E) (xc res) (xs6 res) (cP E) := by
  refine ow_of (by decide) (Nat.le_of_ble_eq_true rfl) (fun p e s m below meth c hx hb hr hlk hml hown htab hK hW ls hl => ?_)
  have hown : s.vm.findClass RL = some m.cls := hown
  refine lv_aload_n hx hb dL_write_0 rfl (lv_at hl 2 rfl) ?_
  refine lv_iconst (v := 0) hx hb dL_write_1 (by decide) ?_
  refine lv_aload_n hx hb dL_write_2 rfl (lv_at hl 0 rfl) ?_
  refine lv_iload_n hx hb dL_write_3 rfl (lv_at hl 1 rfl) ?_
  refine ow_call (np := 1) (As := [.int a1]) (rest := [.int 0, .ref (eO E)]) (q := 0) (T := TX6) (N := 9) hx hb hml hown hK hW ⟨⟨kI_RX6, kc_X6_write, ⟨by decide +kernel, by decide +kernel⟩, by decide +kernel⟩, ki_X6_write, ks_X6_write⟩ kM_RL_46 rfl (by decide) (c_fx (by decide)) (mX6_write l hfl hf) rfl dL_write_4 rfl hl.1 (Nat.le_of_ble_eq_true rfl) ⟨Nat.le_of_ble_eq_true rfl, Nat.le_of_ble_eq_true rfl⟩ ⟨Nat.le_refl _, Nat.le_refl _⟩ (fun k hres H locs ce q9 hW hce hcv hcl => ?_) (fun r hres H locs hW => ?_)
  · subst hres
    have hk1 : k = 1 ∧ kc = 1 := by
      simp only [wcd] at hk
      split at hk
      · exact ⟨by assumption, (Option.some.inj hk).symm⟩
      · cases hk
    obtain ⟨rfl, rfl⟩ := hk1
    refine vx_catch (own := RL) (name := exN 1) (E := exN 1) hown [] ⟨0, 9, 12, 19⟩ [] htab (fun _ h => absurd h List.not_mem_nil) (by decide) (by decide) (hK.1.2.1.at kL_RL_19 _) (va_Nw.use rfl (hK.1.2.2.2.2.2.1.1 _ (List.mem_of_getElem? (i := 6) rfl))) hce hcv hcl ?_
    refine lv_astore_n hx hb dL_write_12 rfl hl (by decide) rfl (fun ls hl => ?_)
    refine lv_iconst (v := 1) hx hb dL_write_13 (by decide) ?_
    exact ow_ret hx hb hr hlk hW rfl rfl dL_write_14
  · subst hres
    obtain rfl : 0 = kc := Option.some.inj hk
    refine lv_i2l (v := r.toInt64) hx hb dL_write_7 rfl ?_
    refine ow_last hx hb hK hW dL_write_8 (fun H locs hW => ?_)
    refine lv_goto (tgt := 15) hx hb dL_write_9 (by decide) ?_
    refine lv_iconst (v := 0) hx hb dL_write_15 (by decide) ?_
    exact ow_ret hx hb hr hlk hW rfl rfl dL_write_16
set_option maxHeartbeats 4000000 in
theorem wL_keep (l : Launch) (hfl : l.stackTraces = false) {E : En} {σ μ : Sg} {dg w : Int64} {a1 : Int32} {res : Int32 ⊕ Nat} {σ' : Sg} {kc : Int32} (hf : fX6_keep a1 σ = some (res, σ')) (hk : wcd [0] res = some kc) : vx_Met l yL_keep [.codeWith yL_keep cL_keep 4 (some .int) [(0, 9, 12, 13)]] (RmX res 8 132) (va_Pc [.ref (eA E 0), .int a1, .ref (eO E)] (Od E σ μ dg w)) (Qo E σ' μ dg (wout w res) kc) (Xo E) (xc res) (xs6 res) (cP E) := by
  refine ow_of (by decide) (Nat.le_of_ble_eq_true rfl) (fun p e s m below meth c hx hb hr hlk hml hown htab hK hW ls hl => ?_)
  have hown : s.vm.findClass RL = some m.cls := hown
  refine lv_aload_n hx hb dL_keep_0 rfl (lv_at hl 2 rfl) ?_
  refine lv_iconst (v := 0) hx hb dL_keep_1 (by decide) ?_
  refine lv_aload_n hx hb dL_keep_2 rfl (lv_at hl 0 rfl) ?_
  refine lv_iload_n hx hb dL_keep_3 rfl (lv_at hl 1 rfl) ?_
  refine ow_call (np := 1) (As := [.int a1]) (rest := [.int 0, .ref (eO E)]) (q := 0) (T := TX6) (N := 9) hx hb hml hown hK hW ⟨⟨kI_RX6, kc_X6_keep, ⟨by decide +kernel, by decide +kernel⟩, by decide +kernel⟩, ki_X6_keep, ks_X6_keep⟩ kM_RL_49 rfl (by decide) (c_fx (by decide)) (mX6_keep l hfl hf) rfl dL_keep_4 rfl hl.1 (Nat.le_of_ble_eq_true rfl) ⟨Nat.le_of_ble_eq_true rfl, Nat.le_of_ble_eq_true rfl⟩ ⟨Nat.le_refl _, Nat.le_refl _⟩ (fun k hres H locs ce q9 hW hce hcv hcl => ?_) (fun r hres H locs hW => ?_)
  · subst hres
    have hk1 : k = 0 ∧ kc = 1 := by
      simp only [wcd] at hk
      split at hk
      · exact ⟨by assumption, (Option.some.inj hk).symm⟩
      · cases hk
    obtain ⟨rfl, rfl⟩ := hk1
    refine vx_catch (own := RL) (name := exN 0) (E := exN 0) hown [] ⟨0, 9, 12, 13⟩ [] htab (fun _ h => absurd h List.not_mem_nil) (by decide) (by decide) (hK.1.2.1.at kL_RL_13 _) (va_Nw.use rfl (hK.1.2.2.2.2.2.1.1 _ (List.mem_of_getElem? (i := 5) rfl))) hce hcv hcl ?_
    refine lv_astore_n hx hb dL_keep_12 rfl hl (by decide) rfl (fun ls hl => ?_)
    refine lv_iconst (v := 1) hx hb dL_keep_13 (by decide) ?_
    exact ow_ret hx hb hr hlk hW rfl rfl dL_keep_14
  · subst hres
    obtain rfl : 0 = kc := Option.some.inj hk
    refine lv_i2l (v := r.toInt64) hx hb dL_keep_7 rfl ?_
    refine ow_last hx hb hK hW dL_keep_8 (fun H locs hW => ?_)
    refine lv_goto (tgt := 15) hx hb dL_keep_9 (by decide) ?_
    refine lv_iconst (v := 0) hx hb dL_keep_15 (by decide) ?_
    exact ow_ret hx hb hr hlk hW rfl rfl dL_keep_16
set_option maxHeartbeats 4000000 in
theorem wL_goBack (l : Launch) (hfl : l.stackTraces = false) {E : En} {σ μ : Sg} {dg w : Int64} {a1 : Int32} {res : Int32 ⊕ Nat} {σ' : Sg} {kc : Int32} (hf : fX6_goBack a1 σ = some (res, σ')) (hk : wcd [0, 2] res = some kc) : vx_Met l yL_goBack [.codeWith yL_goBack cL_goBack 4 (some .int) [(0, 9, 12, 13), (0, 9, 15, 29)]] (RmX res 8 165) (va_Pc [.ref (eA E 0), .int a1, .ref (eO E)] (Od E σ μ dg w)) (Qo E σ' μ dg (wout w res) kc) (Xo E) (xc res) (xs6 res) (cP E) := by
  refine ow_of (by decide) (Nat.le_of_ble_eq_true rfl) (fun p e s m below meth c hx hb hr hlk hml hown htab hK hW ls hl => ?_)
  have hown : s.vm.findClass RL = some m.cls := hown
  refine lv_aload_n hx hb dL_goBack_0 rfl (lv_at hl 2 rfl) ?_
  refine lv_iconst (v := 0) hx hb dL_goBack_1 (by decide) ?_
  refine lv_aload_n hx hb dL_goBack_2 rfl (lv_at hl 0 rfl) ?_
  refine lv_iload_n hx hb dL_goBack_3 rfl (lv_at hl 1 rfl) ?_
  refine ow_call (np := 1) (As := [.int a1]) (rest := [.int 0, .ref (eO E)]) (q := 0) (T := TX6) (N := 9) hx hb hml hown hK hW ⟨⟨kI_RX6, kc_X6_goBack, ⟨by decide +kernel, by decide +kernel⟩, by decide +kernel⟩, ki_X6_goBack, ks_X6_goBack⟩ kM_RL_52 rfl (by decide) (c_fx (by decide)) (mX6_goBack l hfl hf) rfl dL_goBack_4 rfl hl.1 (Nat.le_of_ble_eq_true rfl) ⟨Nat.le_of_ble_eq_true rfl, Nat.le_of_ble_eq_true rfl⟩ ⟨Nat.le_refl _, Nat.le_refl _⟩ (fun k hres H locs ce q9 hW hce hcv hcl => ?_) (fun r hres H locs hW => ?_)
  · subst hres
    have hk1 : (k = 0 ∧ kc = 1) ∨ (k = 2 ∧ kc = 2) := by
      simp only [wcd] at hk
      split at hk
      · exact Or.inl ⟨by assumption, (Option.some.inj hk).symm⟩
      · split at hk
        · exact Or.inr ⟨by assumption, (Option.some.inj hk).symm⟩
        · cases hk
    rcases hk1 with ⟨rfl, rfl⟩ | ⟨rfl, rfl⟩
    · refine vx_catch (own := RL) (name := exN 0) (E := exN 0) hown [] ⟨0, 9, 12, 13⟩ [⟨0, 9, 15, 29⟩] htab (fun _ h => absurd h List.not_mem_nil) (by decide) (by decide) (hK.1.2.1.at kL_RL_13 _) (va_Nw.use rfl (hK.1.2.2.2.2.2.1.1 _ (List.mem_of_getElem? (i := 5) rfl))) hce hcv hcl ?_
      refine lv_astore_n hx hb dL_goBack_12 rfl hl (by decide) rfl (fun ls hl => ?_)
      refine lv_iconst (v := 1) hx hb dL_goBack_13 (by decide) ?_
      exact ow_ret hx hb hr hlk hW rfl rfl dL_goBack_14
    · refine vx_catch (own := RL) (name := exN 2) (E := exN 2) hown [⟨0, 9, 12, 13⟩] ⟨0, 9, 15, 29⟩ [] htab (fun z hz => by
        cases List.mem_singleton.mp hz
        exact Or.inr ⟨by decide, exN 0, hK.1.2.1.at kL_RL_13 _, hK.1.2.2.2.2.2.1.2 _ (List.mem_of_getElem? (i := 1) rfl)⟩) (by decide) (by decide) (hK.1.2.1.at kL_RL_29 _) (va_Nw.use rfl (hK.1.2.2.2.2.2.1.1 _ (List.mem_of_getElem? (i := 7) rfl))) hce hcv hcl ?_
      refine lv_astore_n hx hb dL_goBack_15 rfl hl (by decide) rfl (fun ls hl => ?_)
      refine lv_iconst (v := 2) hx hb dL_goBack_16 (by decide) ?_
      exact ow_ret hx hb hr hlk hW rfl rfl dL_goBack_17
  · subst hres
    obtain rfl : 0 = kc := Option.some.inj hk
    refine lv_i2l (v := r.toInt64) hx hb dL_goBack_7 rfl ?_
    refine ow_last hx hb hK hW dL_goBack_8 (fun H locs hW => ?_)
    refine lv_goto (tgt := 18) hx hb dL_goBack_9 (by decide) ?_
    refine lv_iconst (v := 0) hx hb dL_goBack_18 (by decide) ?_
    exact ow_ret hx hb hr hlk hW rfl rfl dL_goBack_19
set_option maxHeartbeats 4000000 in
theorem wL_undo (l : Launch) (hfl : l.stackTraces = false) {E : En} {σ μ : Sg} {dg w : Int64} {res : Int32 ⊕ Nat} {σ' : Sg} {kc : Int32} (hf : fX6_undo σ = some (res, σ')) (hk : wcd [2] res = some kc) : vx_Met l yL_undo [.codeWith yL_undo cL_undo 3 (some .int) [(0, 8, 11, 29)]] (RmX res 7 144) (va_Pc [.ref (eA E 0), .ref (eO E)] (Od E σ μ dg w)) (Qo E σ' μ dg (wout w res) kc) (Xo E) (xc res) (xs6 res) (cP E) := by
  refine ow_of (by decide) (Nat.le_of_ble_eq_true rfl) (fun p e s m below meth c hx hb hr hlk hml hown htab hK hW ls hl => ?_)
  have hown : s.vm.findClass RL = some m.cls := hown
  refine lv_aload_n hx hb dL_undo_0 rfl (lv_at hl 1 rfl) ?_
  refine lv_iconst (v := 0) hx hb dL_undo_1 (by decide) ?_
  refine lv_aload_n hx hb dL_undo_2 rfl (lv_at hl 0 rfl) ?_
  refine ow_call (np := 0) (As := []) (rest := [.int 0, .ref (eO E)]) (q := 0) (T := TX6) (N := 9) hx hb hml hown hK hW ⟨⟨kI_RX6, kc_X6_undo, ⟨by decide +kernel, by decide +kernel⟩, by decide +kernel⟩, ki_X6_undo, ks_X6_undo⟩ kM_RL_55 rfl (by decide) (c_fx (by decide)) (mX6_undo l hfl hf) rfl dL_undo_3 rfl hl.1 (Nat.le_of_ble_eq_true rfl) ⟨Nat.le_of_ble_eq_true rfl, Nat.le_of_ble_eq_true rfl⟩ ⟨Nat.le_refl _, Nat.le_refl _⟩ (fun k hres H locs ce q9 hW hce hcv hcl => ?_) (fun r hres H locs hW => ?_)
  · subst hres
    have hk1 : k = 2 ∧ kc = 1 := by
      simp only [wcd] at hk
      split at hk
      · exact ⟨by assumption, (Option.some.inj hk).symm⟩
      · cases hk
    obtain ⟨rfl, rfl⟩ := hk1
    refine vx_catch (own := RL) (name := exN 2) (E := exN 2) hown [] ⟨0, 8, 11, 29⟩ [] htab (fun _ h => absurd h List.not_mem_nil) (by decide) (by decide) (hK.1.2.1.at kL_RL_29 _) (va_Nw.use rfl (hK.1.2.2.2.2.2.1.1 _ (List.mem_of_getElem? (i := 7) rfl))) hce hcv hcl ?_
    refine lv_astore_n hx hb dL_undo_11 rfl hl (by decide) rfl (fun ls hl => ?_)
    refine lv_iconst (v := 1) hx hb dL_undo_12 (by decide) ?_
    exact ow_ret hx hb hr hlk hW rfl rfl dL_undo_13
  · subst hres
    obtain rfl : 0 = kc := Option.some.inj hk
    refine lv_i2l (v := r.toInt64) hx hb dL_undo_6 rfl ?_
    refine ow_last hx hb hK hW dL_undo_7 (fun H locs hW => ?_)
    refine lv_goto (tgt := 14) hx hb dL_undo_8 (by decide) ?_
    refine lv_iconst (v := 0) hx hb dL_undo_14 (by decide) ?_
    exact ow_ret hx hb hr hlk hW rfl rfl dL_undo_15
set_option maxHeartbeats 4000000 in
theorem wL_step (l : Launch) (hfl : l.stackTraces = false) {E : En} {σ μ : Sg} {dg w : Int64} {a1 : Int32} {res : Int32 ⊕ Nat} {σ' : Sg} {kc : Int32} (hf : fX6_step a1 σ = some (res, σ')) (hk : wcd [1] res = some kc) : vx_Met l yL_step [.codeWith yL_step cL_step 4 (some .int) [(0, 9, 12, 19)]] (RmX res 7 111) (va_Pc [.ref (eA E 0), .int a1, .ref (eO E)] (Od E σ μ dg w)) (Qo E σ' μ dg (wout w res) kc) (Xo E) (xc res) (xs6 res) (cP E) := by
  refine ow_of (by decide) (Nat.le_of_ble_eq_true rfl) (fun p e s m below meth c hx hb hr hlk hml hown htab hK hW ls hl => ?_)
  have hown : s.vm.findClass RL = some m.cls := hown
  refine lv_aload_n hx hb dL_step_0 rfl (lv_at hl 2 rfl) ?_
  refine lv_iconst (v := 0) hx hb dL_step_1 (by decide) ?_
  refine lv_aload_n hx hb dL_step_2 rfl (lv_at hl 0 rfl) ?_
  refine lv_iload_n hx hb dL_step_3 rfl (lv_at hl 1 rfl) ?_
  refine ow_call (np := 1) (As := [.int a1]) (rest := [.int 0, .ref (eO E)]) (q := 0) (T := TX6) (N := 9) hx hb hml hown hK hW ⟨⟨kI_RX6, kc_X6_step, ⟨by decide +kernel, by decide +kernel⟩, by decide +kernel⟩, ki_X6_step, ks_X6_step⟩ kM_RL_58 rfl (by decide) (c_fx (by decide)) (mX6_step l hfl hf) rfl dL_step_4 rfl hl.1 (Nat.le_of_ble_eq_true rfl) ⟨Nat.le_of_ble_eq_true rfl, Nat.le_of_ble_eq_true rfl⟩ ⟨Nat.le_refl _, Nat.le_refl _⟩ (fun k hres H locs ce q9 hW hce hcv hcl => ?_) (fun r hres H locs hW => ?_)
  · subst hres
    have hk1 : k = 1 ∧ kc = 1 := by
      simp only [wcd] at hk
      split at hk
      · exact ⟨by assumption, (Option.some.inj hk).symm⟩
      · cases hk
    obtain ⟨rfl, rfl⟩ := hk1
    refine vx_catch (own := RL) (name := exN 1) (E := exN 1) hown [] ⟨0, 9, 12, 19⟩ [] htab (fun _ h => absurd h List.not_mem_nil) (by decide) (by decide) (hK.1.2.1.at kL_RL_19 _) (va_Nw.use rfl (hK.1.2.2.2.2.2.1.1 _ (List.mem_of_getElem? (i := 6) rfl))) hce hcv hcl ?_
    refine lv_astore_n hx hb dL_step_12 rfl hl (by decide) rfl (fun ls hl => ?_)
    refine lv_iconst (v := 1) hx hb dL_step_13 (by decide) ?_
    exact ow_ret hx hb hr hlk hW rfl rfl dL_step_14
  · subst hres
    obtain rfl : 0 = kc := Option.some.inj hk
    refine lv_i2l (v := r.toInt64) hx hb dL_step_7 rfl ?_
    refine ow_last hx hb hK hW dL_step_8 (fun H locs hW => ?_)
    refine lv_goto (tgt := 15) hx hb dL_step_9 (by decide) ?_
    refine lv_iconst (v := 0) hx hb dL_step_15 (by decide) ?_
    exact ow_ret hx hb hr hlk hW rfl rfl dL_step_16
set_option maxHeartbeats 4000000 in
theorem wL_sampleOf (l : Launch) (hfl : l.stackTraces = false) {E : En} {σ μ : Sg} {dg w : Int64} {a1 a2 : Int32} {res : Int32 ⊕ Nat} {σ' : Sg} {kc : Int32} (hf : fX6_sampleOf a1 a2 σ = some (res, σ')) (hk : wcd [1, 0] res = some kc) : vx_Met l yL_sampleOf [.codeWith yL_sampleOf cL_sampleOf 5 (some .int) [(0, 10, 13, 19), (0, 10, 17, 13)]] (RmX res 7 133) (va_Pc [.ref (eA E 0), .int a1, .int a2, .ref (eO E)] (Od E σ μ dg w)) (Qo E σ' μ dg (wout w res) kc) (Xo E) (xc res) (xs6 res) (cP E) := by
  refine ow_of (by decide) (Nat.le_of_ble_eq_true rfl) (fun p e s m below meth c hx hb hr hlk hml hown htab hK hW ls hl => ?_)
  have hown : s.vm.findClass RL = some m.cls := hown
  refine lv_aload_n hx hb dL_sampleOf_0 rfl (lv_at hl 3 rfl) ?_
  refine lv_iconst (v := 0) hx hb dL_sampleOf_1 (by decide) ?_
  refine lv_aload_n hx hb dL_sampleOf_2 rfl (lv_at hl 0 rfl) ?_
  refine lv_iload_n hx hb dL_sampleOf_3 rfl (lv_at hl 1 rfl) ?_
  refine lv_iload_n hx hb dL_sampleOf_4 rfl (lv_at hl 2 rfl) ?_
  refine ow_call (np := 2) (As := [.int a1, .int a2]) (rest := [.int 0, .ref (eO E)]) (q := 0) (T := TX6) (N := 9) hx hb hml hown hK hW ⟨⟨kI_RX6, kc_X6_sampleOf, ⟨by decide +kernel, by decide +kernel⟩, by decide +kernel⟩, ki_X6_sampleOf, ks_X6_sampleOf⟩ kM_RL_61 rfl (by decide) (c_fx (by decide)) (mX6_sampleOf l hfl hf) rfl dL_sampleOf_5 rfl hl.1 (Nat.le_of_ble_eq_true rfl) ⟨Nat.le_of_ble_eq_true rfl, Nat.le_of_ble_eq_true rfl⟩ ⟨Nat.le_refl _, Nat.le_refl _⟩ (fun k hres H locs ce q9 hW hce hcv hcl => ?_) (fun r hres H locs hW => ?_)
  · subst hres
    have hk1 : (k = 1 ∧ kc = 1) ∨ (k = 0 ∧ kc = 2) := by
      simp only [wcd] at hk
      split at hk
      · exact Or.inl ⟨by assumption, (Option.some.inj hk).symm⟩
      · split at hk
        · exact Or.inr ⟨by assumption, (Option.some.inj hk).symm⟩
        · cases hk
    rcases hk1 with ⟨rfl, rfl⟩ | ⟨rfl, rfl⟩
    · refine vx_catch (own := RL) (name := exN 1) (E := exN 1) hown [] ⟨0, 10, 13, 19⟩ [⟨0, 10, 17, 13⟩] htab (fun _ h => absurd h List.not_mem_nil) (by decide) (by decide) (hK.1.2.1.at kL_RL_19 _) (va_Nw.use rfl (hK.1.2.2.2.2.2.1.1 _ (List.mem_of_getElem? (i := 6) rfl))) hce hcv hcl ?_
      refine lv_astore hx hb dL_sampleOf_13 hl (by decide) rfl (fun ls hl => ?_)
      refine lv_iconst (v := 1) hx hb dL_sampleOf_15 (by decide) ?_
      exact ow_ret hx hb hr hlk hW rfl rfl dL_sampleOf_16
    · refine vx_catch (own := RL) (name := exN 0) (E := exN 0) hown [⟨0, 10, 13, 19⟩] ⟨0, 10, 17, 13⟩ [] htab (fun z hz => by
        cases List.mem_singleton.mp hz
        exact Or.inr ⟨by decide, exN 1, hK.1.2.1.at kL_RL_19 _, hK.1.2.2.2.2.2.1.2 _ (List.mem_of_getElem? (i := 0) rfl)⟩) (by decide) (by decide) (hK.1.2.1.at kL_RL_13 _) (va_Nw.use rfl (hK.1.2.2.2.2.2.1.1 _ (List.mem_of_getElem? (i := 5) rfl))) hce hcv hcl ?_
      refine lv_astore hx hb dL_sampleOf_17 hl (by decide) rfl (fun ls hl => ?_)
      refine lv_iconst (v := 2) hx hb dL_sampleOf_19 (by decide) ?_
      exact ow_ret hx hb hr hlk hW rfl rfl dL_sampleOf_20
  · subst hres
    obtain rfl : 0 = kc := Option.some.inj hk
    refine lv_i2l (v := r.toInt64) hx hb dL_sampleOf_8 rfl ?_
    refine ow_last hx hb hK hW dL_sampleOf_9 (fun H locs hW => ?_)
    refine lv_goto (tgt := 21) hx hb dL_sampleOf_10 (by decide) ?_
    refine lv_iconst (v := 0) hx hb dL_sampleOf_21 (by decide) ?_
    exact ow_ret hx hb hr hlk hW rfl rfl dL_sampleOf_22
set_option maxHeartbeats 4000000 in
theorem wL_blockOf (l : Launch) (hfl : l.stackTraces = false) {E : En} {σ μ : Sg} {dg w : Int64} {a1 a2 : Int32} {res : Int32 ⊕ Nat} {σ' : Sg} {kc : Int32} (hf : fX6_blockOf a1 a2 σ = some (res, σ')) (hk : wcd [1, 0] res = some kc) : vx_Met l yL_blockOf [.codeWith yL_blockOf cL_blockOf 5 (some .int) [(0, 10, 13, 19), (0, 10, 17, 13)]] (RmX res 8 133) (va_Pc [.ref (eA E 0), .int a1, .int a2, .ref (eO E)] (Od E σ μ dg w)) (Qo E σ' μ dg (wout w res) kc) (Xo E) (xc res) (xs6 res) (cP E) := by
  refine ow_of (by decide) (Nat.le_of_ble_eq_true rfl) (fun p e s m below meth c hx hb hr hlk hml hown htab hK hW ls hl => ?_)
  have hown : s.vm.findClass RL = some m.cls := hown
  refine lv_aload_n hx hb dL_blockOf_0 rfl (lv_at hl 3 rfl) ?_
  refine lv_iconst (v := 0) hx hb dL_blockOf_1 (by decide) ?_
  refine lv_aload_n hx hb dL_blockOf_2 rfl (lv_at hl 0 rfl) ?_
  refine lv_iload_n hx hb dL_blockOf_3 rfl (lv_at hl 1 rfl) ?_
  refine lv_iload_n hx hb dL_blockOf_4 rfl (lv_at hl 2 rfl) ?_
  refine ow_call (np := 2) (As := [.int a1, .int a2]) (rest := [.int 0, .ref (eO E)]) (q := 0) (T := TX6) (N := 9) hx hb hml hown hK hW ⟨⟨kI_RX6, kc_X6_blockOf, ⟨by decide +kernel, by decide +kernel⟩, by decide +kernel⟩, ki_X6_blockOf, ks_X6_blockOf⟩ kM_RL_64 rfl (by decide) (c_fx (by decide)) (mX6_blockOf l hfl hf) rfl dL_blockOf_5 rfl hl.1 (Nat.le_of_ble_eq_true rfl) ⟨Nat.le_of_ble_eq_true rfl, Nat.le_of_ble_eq_true rfl⟩ ⟨Nat.le_refl _, Nat.le_refl _⟩ (fun k hres H locs ce q9 hW hce hcv hcl => ?_) (fun r hres H locs hW => ?_)
  · subst hres
    have hk1 : (k = 1 ∧ kc = 1) ∨ (k = 0 ∧ kc = 2) := by
      simp only [wcd] at hk
      split at hk
      · exact Or.inl ⟨by assumption, (Option.some.inj hk).symm⟩
      · split at hk
        · exact Or.inr ⟨by assumption, (Option.some.inj hk).symm⟩
        · cases hk
    rcases hk1 with ⟨rfl, rfl⟩ | ⟨rfl, rfl⟩
    · refine vx_catch (own := RL) (name := exN 1) (E := exN 1) hown [] ⟨0, 10, 13, 19⟩ [⟨0, 10, 17, 13⟩] htab (fun _ h => absurd h List.not_mem_nil) (by decide) (by decide) (hK.1.2.1.at kL_RL_19 _) (va_Nw.use rfl (hK.1.2.2.2.2.2.1.1 _ (List.mem_of_getElem? (i := 6) rfl))) hce hcv hcl ?_
      refine lv_astore hx hb dL_blockOf_13 hl (by decide) rfl (fun ls hl => ?_)
      refine lv_iconst (v := 1) hx hb dL_blockOf_15 (by decide) ?_
      exact ow_ret hx hb hr hlk hW rfl rfl dL_blockOf_16
    · refine vx_catch (own := RL) (name := exN 0) (E := exN 0) hown [⟨0, 10, 13, 19⟩] ⟨0, 10, 17, 13⟩ [] htab (fun z hz => by
        cases List.mem_singleton.mp hz
        exact Or.inr ⟨by decide, exN 1, hK.1.2.1.at kL_RL_19 _, hK.1.2.2.2.2.2.1.2 _ (List.mem_of_getElem? (i := 0) rfl)⟩) (by decide) (by decide) (hK.1.2.1.at kL_RL_13 _) (va_Nw.use rfl (hK.1.2.2.2.2.2.1.1 _ (List.mem_of_getElem? (i := 5) rfl))) hce hcv hcl ?_
      refine lv_astore hx hb dL_blockOf_17 hl (by decide) rfl (fun ls hl => ?_)
      refine lv_iconst (v := 2) hx hb dL_blockOf_19 (by decide) ?_
      exact ow_ret hx hb hr hlk hW rfl rfl dL_blockOf_20
  · subst hres
    obtain rfl : 0 = kc := Option.some.inj hk
    refine lv_i2l (v := r.toInt64) hx hb dL_blockOf_8 rfl ?_
    refine ow_last hx hb hK hW dL_blockOf_9 (fun H locs hW => ?_)
    refine lv_goto (tgt := 21) hx hb dL_blockOf_10 (by decide) ?_
    refine lv_iconst (v := 0) hx hb dL_blockOf_21 (by decide) ?_
    exact ow_ret hx hb hr hlk hW rfl rfl dL_blockOf_22
set_option maxHeartbeats 4000000 in
theorem wL_count (l : Launch) (hfl : l.stackTraces = false) {E : En} {σ μ : Sg} {dg w : Int64} {a1 : Int32} {res : Int32 ⊕ Nat} {σ' : Sg} {kc : Int32} (hf : fX6_count a1 σ = some (res, σ')) (hk : wcd [0] res = some kc) : vx_Met l yL_count [.codeWith yL_count cL_count 4 (some .int) [(0, 9, 12, 13)]] (RmX res 7 153) (va_Pc [.ref (eA E 0), .int a1, .ref (eO E)] (Od E σ μ dg w)) (Qo E σ' μ dg (wout w res) kc) (Xo E) (xc res) (xs6 res) (cP E) := by
  refine ow_of (by decide) (Nat.le_of_ble_eq_true rfl) (fun p e s m below meth c hx hb hr hlk hml hown htab hK hW ls hl => ?_)
  have hown : s.vm.findClass RL = some m.cls := hown
  refine lv_aload_n hx hb dL_count_0 rfl (lv_at hl 2 rfl) ?_
  refine lv_iconst (v := 0) hx hb dL_count_1 (by decide) ?_
  refine lv_aload_n hx hb dL_count_2 rfl (lv_at hl 0 rfl) ?_
  refine lv_iload_n hx hb dL_count_3 rfl (lv_at hl 1 rfl) ?_
  refine ow_call (np := 1) (As := [.int a1]) (rest := [.int 0, .ref (eO E)]) (q := 0) (T := TX6) (N := 9) hx hb hml hown hK hW ⟨⟨kI_RX6, kc_X6_count, ⟨by decide +kernel, by decide +kernel⟩, by decide +kernel⟩, ki_X6_count, ks_X6_count⟩ kM_RL_67 rfl (by decide) (c_fx (by decide)) (mX6_count l hfl hf) rfl dL_count_4 rfl hl.1 (Nat.le_of_ble_eq_true rfl) ⟨Nat.le_of_ble_eq_true rfl, Nat.le_of_ble_eq_true rfl⟩ ⟨Nat.le_refl _, Nat.le_refl _⟩ (fun k hres H locs ce q9 hW hce hcv hcl => ?_) (fun r hres H locs hW => ?_)
  · subst hres
    have hk1 : k = 0 ∧ kc = 1 := by
      simp only [wcd] at hk
      split at hk
      · exact ⟨by assumption, (Option.some.inj hk).symm⟩
      · cases hk
    obtain ⟨rfl, rfl⟩ := hk1
    refine vx_catch (own := RL) (name := exN 0) (E := exN 0) hown [] ⟨0, 9, 12, 13⟩ [] htab (fun _ h => absurd h List.not_mem_nil) (by decide) (by decide) (hK.1.2.1.at kL_RL_13 _) (va_Nw.use rfl (hK.1.2.2.2.2.2.1.1 _ (List.mem_of_getElem? (i := 5) rfl))) hce hcv hcl ?_
    refine lv_astore_n hx hb dL_count_12 rfl hl (by decide) rfl (fun ls hl => ?_)
    refine lv_iconst (v := 1) hx hb dL_count_13 (by decide) ?_
    exact ow_ret hx hb hr hlk hW rfl rfl dL_count_14
  · subst hres
    obtain rfl : 0 = kc := Option.some.inj hk
    refine lv_i2l (v := r.toInt64) hx hb dL_count_7 rfl ?_
    refine ow_last hx hb hK hW dL_count_8 (fun H locs hW => ?_)
    refine lv_goto (tgt := 15) hx hb dL_count_9 (by decide) ?_
    refine lv_iconst (v := 0) hx hb dL_count_15 (by decide) ?_
    exact ow_ret hx hb hr hlk hW rfl rfl dL_count_16
set_option maxHeartbeats 4000000 in
theorem wL_setting (l : Launch) (hfl : l.stackTraces = false) {E : En} {σ μ : Sg} {dg w : Int64} {a1 : Int32} {res : Int32 ⊕ Nat} {σ' : Sg} {kc : Int32} (hf : fX6_setting a1 σ = some (res, σ')) (hk : wcd [1] res = some kc) : vx_Met l yL_setting [.codeWith yL_setting cL_setting 4 (some .int) [(0, 9, 12, 19)]] (RmX res 7 111) (va_Pc [.ref (eA E 0), .int a1, .ref (eO E)] (Od E σ μ dg w)) (Qo E σ' μ dg (wout w res) kc) (Xo E) (xc res) (xs6 res) (cP E) := by
  refine ow_of (by decide) (Nat.le_of_ble_eq_true rfl) (fun p e s m below meth c hx hb hr hlk hml hown htab hK hW ls hl => ?_)
  have hown : s.vm.findClass RL = some m.cls := hown
  refine lv_aload_n hx hb dL_setting_0 rfl (lv_at hl 2 rfl) ?_
  refine lv_iconst (v := 0) hx hb dL_setting_1 (by decide) ?_
  refine lv_aload_n hx hb dL_setting_2 rfl (lv_at hl 0 rfl) ?_
  refine lv_iload_n hx hb dL_setting_3 rfl (lv_at hl 1 rfl) ?_
  refine ow_call (np := 1) (As := [.int a1]) (rest := [.int 0, .ref (eO E)]) (q := 0) (T := TX6) (N := 9) hx hb hml hown hK hW ⟨⟨kI_RX6, kc_X6_setting, ⟨by decide +kernel, by decide +kernel⟩, by decide +kernel⟩, ki_X6_setting, ks_X6_setting⟩ kM_RL_70 rfl (by decide) (c_fx (by decide)) (mX6_setting l hfl hf) rfl dL_setting_4 rfl hl.1 (Nat.le_of_ble_eq_true rfl) ⟨Nat.le_of_ble_eq_true rfl, Nat.le_of_ble_eq_true rfl⟩ ⟨Nat.le_refl _, Nat.le_refl _⟩ (fun k hres H locs ce q9 hW hce hcv hcl => ?_) (fun r hres H locs hW => ?_)
  · subst hres
    have hk1 : k = 1 ∧ kc = 1 := by
      simp only [wcd] at hk
      split at hk
      · exact ⟨by assumption, (Option.some.inj hk).symm⟩
      · cases hk
    obtain ⟨rfl, rfl⟩ := hk1
    refine vx_catch (own := RL) (name := exN 1) (E := exN 1) hown [] ⟨0, 9, 12, 19⟩ [] htab (fun _ h => absurd h List.not_mem_nil) (by decide) (by decide) (hK.1.2.1.at kL_RL_19 _) (va_Nw.use rfl (hK.1.2.2.2.2.2.1.1 _ (List.mem_of_getElem? (i := 6) rfl))) hce hcv hcl ?_
    refine lv_astore_n hx hb dL_setting_12 rfl hl (by decide) rfl (fun ls hl => ?_)
    refine lv_iconst (v := 1) hx hb dL_setting_13 (by decide) ?_
    exact ow_ret hx hb hr hlk hW rfl rfl dL_setting_14
  · subst hres
    obtain rfl : 0 = kc := Option.some.inj hk
    refine lv_i2l (v := r.toInt64) hx hb dL_setting_7 rfl ?_
    refine ow_last hx hb hK hW dL_setting_8 (fun H locs hW => ?_)
    refine lv_goto (tgt := 15) hx hb dL_setting_9 (by decide) ?_
    refine lv_iconst (v := 0) hx hb dL_setting_15 (by decide) ?_
    exact ow_ret hx hb hr hlk hW rfl rfl dL_setting_16
set_option maxHeartbeats 4000000 in
theorem wL_ifCoded (l : Launch) (hfl : l.stackTraces = false) {E : En} {σ μ : Sg} {dg w : Int64} {a1 a2 a3 a4 : Int32} {res : Int32 ⊕ Nat} {σ' : Sg} {kc : Int32} (hf : fX6_ifCoded a1 a2 a3 a4 σ = some (res, σ')) (hk : wcd [0] res = some kc) : vx_Met l yL_ifCoded [.codeWith yL_ifCoded cL_ifCoded 7 (some .int) [(0, 14, 17, 13)]] (RmX res 7 115) (va_Pc [.ref (eA E 0), .int a1, .int a2, .int a3, .int a4, .ref (eO E)] (Od E σ μ dg w)) (Qo E σ' μ dg (wout w res) kc) (Xo E) (xc res) (xs6 res) (cP E) := by
  refine ow_of (by decide) (Nat.le_of_ble_eq_true rfl) (fun p e s m below meth c hx hb hr hlk hml hown htab hK hW ls hl => ?_)
  have hown : s.vm.findClass RL = some m.cls := hown
  refine lv_aload hx hb dL_ifCoded_0 (lv_at hl 5 rfl) ?_
  refine lv_iconst (v := 0) hx hb dL_ifCoded_2 (by decide) ?_
  refine lv_aload_n hx hb dL_ifCoded_3 rfl (lv_at hl 0 rfl) ?_
  refine lv_iload_n hx hb dL_ifCoded_4 rfl (lv_at hl 1 rfl) ?_
  refine lv_iload_n hx hb dL_ifCoded_5 rfl (lv_at hl 2 rfl) ?_
  refine lv_iload_n hx hb dL_ifCoded_6 rfl (lv_at hl 3 rfl) ?_
  refine lv_iload hx hb dL_ifCoded_7 (lv_at hl 4 rfl) ?_
  refine ow_call (np := 4) (As := [.int a1, .int a2, .int a3, .int a4]) (rest := [.int 0, .ref (eO E)]) (q := 0) (T := TX6) (N := 9) hx hb hml hown hK hW ⟨⟨kI_RX6, kc_X6_ifCoded, ⟨by decide +kernel, by decide +kernel⟩, by decide +kernel⟩, ki_X6_ifCoded, ks_X6_ifCoded⟩ kM_RL_73 rfl (by decide) (c_fx (by decide)) (mX6_ifCoded l hfl hf) rfl dL_ifCoded_9 rfl hl.1 (Nat.le_of_ble_eq_true rfl) ⟨Nat.le_of_ble_eq_true rfl, Nat.le_of_ble_eq_true rfl⟩ ⟨Nat.le_refl _, Nat.le_refl _⟩ (fun k hres H locs ce q9 hW hce hcv hcl => ?_) (fun r hres H locs hW => ?_)
  · subst hres
    have hk1 : k = 0 ∧ kc = 1 := by
      simp only [wcd] at hk
      split at hk
      · exact ⟨by assumption, (Option.some.inj hk).symm⟩
      · cases hk
    obtain ⟨rfl, rfl⟩ := hk1
    refine vx_catch (own := RL) (name := exN 0) (E := exN 0) hown [] ⟨0, 14, 17, 13⟩ [] htab (fun _ h => absurd h List.not_mem_nil) (by decide) (by decide) (hK.1.2.1.at kL_RL_13 _) (va_Nw.use rfl (hK.1.2.2.2.2.2.1.1 _ (List.mem_of_getElem? (i := 5) rfl))) hce hcv hcl ?_
    refine lv_astore hx hb dL_ifCoded_17 hl (by decide) rfl (fun ls hl => ?_)
    refine lv_iconst (v := 1) hx hb dL_ifCoded_19 (by decide) ?_
    exact ow_ret hx hb hr hlk hW rfl rfl dL_ifCoded_20
  · subst hres
    obtain rfl : 0 = kc := Option.some.inj hk
    refine lv_i2l (v := r.toInt64) hx hb dL_ifCoded_12 rfl ?_
    refine ow_last hx hb hK hW dL_ifCoded_13 (fun H locs hW => ?_)
    refine lv_goto (tgt := 21) hx hb dL_ifCoded_14 (by decide) ?_
    refine lv_iconst (v := 0) hx hb dL_ifCoded_21 (by decide) ?_
    exact ow_ret hx hb hr hlk hW rfl rfl dL_ifCoded_22
set_option maxHeartbeats 4000000 in
theorem wL_ifBlock (l : Launch) (hfl : l.stackTraces = false) {E : En} {σ μ : Sg} {dg w : Int64} {a1 a2 a3 : Int32} {res : Int32 ⊕ Nat} {σ' : Sg} {kc : Int32} (hf : fX6_ifBlock a1 a2 a3 σ = some (res, σ')) (hk : wcd [1, 0] res = some kc) : vx_Met l yL_ifBlock [.codeWith yL_ifBlock cL_ifBlock 6 (some .int) [(0, 12, 15, 19), (0, 12, 19, 13)]] (RmX res 8 135) (va_Pc [.ref (eA E 0), .int a1, .int a2, .int a3, .ref (eO E)] (Od E σ μ dg w)) (Qo E σ' μ dg (wout w res) kc) (Xo E) (xc res) (xs6 res) (cP E) := by
  refine ow_of (by decide) (Nat.le_of_ble_eq_true rfl) (fun p e s m below meth c hx hb hr hlk hml hown htab hK hW ls hl => ?_)
  have hown : s.vm.findClass RL = some m.cls := hown
  refine lv_aload hx hb dL_ifBlock_0 (lv_at hl 4 rfl) ?_
  refine lv_iconst (v := 0) hx hb dL_ifBlock_2 (by decide) ?_
  refine lv_aload_n hx hb dL_ifBlock_3 rfl (lv_at hl 0 rfl) ?_
  refine lv_iload_n hx hb dL_ifBlock_4 rfl (lv_at hl 1 rfl) ?_
  refine lv_iload_n hx hb dL_ifBlock_5 rfl (lv_at hl 2 rfl) ?_
  refine lv_iload_n hx hb dL_ifBlock_6 rfl (lv_at hl 3 rfl) ?_
  refine ow_call (np := 3) (As := [.int a1, .int a2, .int a3]) (rest := [.int 0, .ref (eO E)]) (q := 0) (T := TX6) (N := 9) hx hb hml hown hK hW ⟨⟨kI_RX6, kc_X6_ifBlock, ⟨by decide +kernel, by decide +kernel⟩, by decide +kernel⟩, ki_X6_ifBlock, ks_X6_ifBlock⟩ kM_RL_77 rfl (by decide) (c_fx (by decide)) (mX6_ifBlock l hfl hf) rfl dL_ifBlock_7 rfl hl.1 (Nat.le_of_ble_eq_true rfl) ⟨Nat.le_of_ble_eq_true rfl, Nat.le_of_ble_eq_true rfl⟩ ⟨Nat.le_refl _, Nat.le_refl _⟩ (fun k hres H locs ce q9 hW hce hcv hcl => ?_) (fun r hres H locs hW => ?_)
  · subst hres
    have hk1 : (k = 1 ∧ kc = 1) ∨ (k = 0 ∧ kc = 2) := by
      simp only [wcd] at hk
      split at hk
      · exact Or.inl ⟨by assumption, (Option.some.inj hk).symm⟩
      · split at hk
        · exact Or.inr ⟨by assumption, (Option.some.inj hk).symm⟩
        · cases hk
    rcases hk1 with ⟨rfl, rfl⟩ | ⟨rfl, rfl⟩
    · refine vx_catch (own := RL) (name := exN 1) (E := exN 1) hown [] ⟨0, 12, 15, 19⟩ [⟨0, 12, 19, 13⟩] htab (fun _ h => absurd h List.not_mem_nil) (by decide) (by decide) (hK.1.2.1.at kL_RL_19 _) (va_Nw.use rfl (hK.1.2.2.2.2.2.1.1 _ (List.mem_of_getElem? (i := 6) rfl))) hce hcv hcl ?_
      refine lv_astore hx hb dL_ifBlock_15 hl (by decide) rfl (fun ls hl => ?_)
      refine lv_iconst (v := 1) hx hb dL_ifBlock_17 (by decide) ?_
      exact ow_ret hx hb hr hlk hW rfl rfl dL_ifBlock_18
    · refine vx_catch (own := RL) (name := exN 0) (E := exN 0) hown [⟨0, 12, 15, 19⟩] ⟨0, 12, 19, 13⟩ [] htab (fun z hz => by
        cases List.mem_singleton.mp hz
        exact Or.inr ⟨by decide, exN 1, hK.1.2.1.at kL_RL_19 _, hK.1.2.2.2.2.2.1.2 _ (List.mem_of_getElem? (i := 0) rfl)⟩) (by decide) (by decide) (hK.1.2.1.at kL_RL_13 _) (va_Nw.use rfl (hK.1.2.2.2.2.2.1.1 _ (List.mem_of_getElem? (i := 5) rfl))) hce hcv hcl ?_
      refine lv_astore hx hb dL_ifBlock_19 hl (by decide) rfl (fun ls hl => ?_)
      refine lv_iconst (v := 2) hx hb dL_ifBlock_21 (by decide) ?_
      exact ow_ret hx hb hr hlk hW rfl rfl dL_ifBlock_22
  · subst hres
    obtain rfl : 0 = kc := Option.some.inj hk
    refine lv_i2l (v := r.toInt64) hx hb dL_ifBlock_10 rfl ?_
    refine ow_last hx hb hK hW dL_ifBlock_11 (fun H locs hW => ?_)
    refine lv_goto (tgt := 23) hx hb dL_ifBlock_12 (by decide) ?_
    refine lv_iconst (v := 0) hx hb dL_ifBlock_23 (by decide) ?_
    exact ow_ret hx hb hr hlk hW rfl rfl dL_ifBlock_24
set_option maxHeartbeats 4000000 in
theorem wL_bestStep (l : Launch) (hfl : l.stackTraces = false) {E : En} {σ μ : Sg} {dg w : Int64} {a1 a2 : Int32} {res : Int32 ⊕ Nat} {σ' : Sg} {kc : Int32} (hf : fX6_bestStep a1 a2 σ = some (res, σ')) (hk : wcd [1] res = some kc) : vx_Met l yL_bestStep [.codeWith yL_bestStep cL_bestStep 5 (some .int) [(0, 10, 13, 19)]] (RmX res 8 141) (va_Pc [.ref (eA E 0), .int a1, .int a2, .ref (eO E)] (Od E σ μ dg w)) (Qo E σ' μ dg (wout w res) kc) (Xo E) (xc res) (xs6 res) (cP E) := by
  refine ow_of (by decide) (Nat.le_of_ble_eq_true rfl) (fun p e s m below meth c hx hb hr hlk hml hown htab hK hW ls hl => ?_)
  have hown : s.vm.findClass RL = some m.cls := hown
  refine lv_aload_n hx hb dL_bestStep_0 rfl (lv_at hl 3 rfl) ?_
  refine lv_iconst (v := 0) hx hb dL_bestStep_1 (by decide) ?_
  refine lv_aload_n hx hb dL_bestStep_2 rfl (lv_at hl 0 rfl) ?_
  refine lv_iload_n hx hb dL_bestStep_3 rfl (lv_at hl 1 rfl) ?_
  refine lv_iload_n hx hb dL_bestStep_4 rfl (lv_at hl 2 rfl) ?_
  refine ow_call (np := 2) (As := [.int a1, .int a2]) (rest := [.int 0, .ref (eO E)]) (q := 0) (T := TX6) (N := 9) hx hb hml hown hK hW ⟨⟨kI_RX6, kc_X6_bestStep, ⟨by decide +kernel, by decide +kernel⟩, by decide +kernel⟩, ki_X6_bestStep, ks_X6_bestStep⟩ kM_RL_80 rfl (by decide) (c_fx (by decide)) (mX6_bestStep l hfl hf) rfl dL_bestStep_5 rfl hl.1 (Nat.le_of_ble_eq_true rfl) ⟨Nat.le_of_ble_eq_true rfl, Nat.le_of_ble_eq_true rfl⟩ ⟨Nat.le_refl _, Nat.le_refl _⟩ (fun k hres H locs ce q9 hW hce hcv hcl => ?_) (fun r hres H locs hW => ?_)
  · subst hres
    have hk1 : k = 1 ∧ kc = 1 := by
      simp only [wcd] at hk
      split at hk
      · exact ⟨by assumption, (Option.some.inj hk).symm⟩
      · cases hk
    obtain ⟨rfl, rfl⟩ := hk1
    refine vx_catch (own := RL) (name := exN 1) (E := exN 1) hown [] ⟨0, 10, 13, 19⟩ [] htab (fun _ h => absurd h List.not_mem_nil) (by decide) (by decide) (hK.1.2.1.at kL_RL_19 _) (va_Nw.use rfl (hK.1.2.2.2.2.2.1.1 _ (List.mem_of_getElem? (i := 6) rfl))) hce hcv hcl ?_
    refine lv_astore hx hb dL_bestStep_13 hl (by decide) rfl (fun ls hl => ?_)
    refine lv_iconst (v := 1) hx hb dL_bestStep_15 (by decide) ?_
    exact ow_ret hx hb hr hlk hW rfl rfl dL_bestStep_16
  · subst hres
    obtain rfl : 0 = kc := Option.some.inj hk
    refine lv_i2l (v := r.toInt64) hx hb dL_bestStep_8 rfl ?_
    refine ow_last hx hb hK hW dL_bestStep_9 (fun H locs hW => ?_)
    refine lv_goto (tgt := 17) hx hb dL_bestStep_10 (by decide) ?_
    refine lv_iconst (v := 0) hx hb dL_bestStep_17 (by decide) ?_
    exact ow_ret hx hb hr hlk hW rfl rfl dL_bestStep_18
set_option maxHeartbeats 4000000 in
theorem wL_ifSpoiled (l : Launch) (hfl : l.stackTraces = false) {E : En} {σ μ : Sg} {dg w : Int64} {a1 a2 : Int32} {res : Int32 ⊕ Nat} {σ' : Sg} {kc : Int32} (hf : fX6_ifSpoiled a1 a2 σ = some (res, σ')) (hk : wcd [1, 0] res = some kc) : vx_Met l yL_ifSpoiled [.codeWith yL_ifSpoiled cL_ifSpoiled 5 (some .int) [(0, 10, 13, 19), (0, 10, 17, 13)]] (RmX res 8 134) (va_Pc [.ref (eA E 0), .int a1, .int a2, .ref (eO E)] (Od E σ μ dg w)) (Qo E σ' μ dg (wout w res) kc) (Xo E) (xc res) (xs6 res) (cP E) := by
  refine ow_of (by decide) (Nat.le_of_ble_eq_true rfl) (fun p e s m below meth c hx hb hr hlk hml hown htab hK hW ls hl => ?_)
  have hown : s.vm.findClass RL = some m.cls := hown
  refine lv_aload_n hx hb dL_ifSpoiled_0 rfl (lv_at hl 3 rfl) ?_
  refine lv_iconst (v := 0) hx hb dL_ifSpoiled_1 (by decide) ?_
  refine lv_aload_n hx hb dL_ifSpoiled_2 rfl (lv_at hl 0 rfl) ?_
  refine lv_iload_n hx hb dL_ifSpoiled_3 rfl (lv_at hl 1 rfl) ?_
  refine lv_iload_n hx hb dL_ifSpoiled_4 rfl (lv_at hl 2 rfl) ?_
  refine ow_call (np := 2) (As := [.int a1, .int a2]) (rest := [.int 0, .ref (eO E)]) (q := 0) (T := TX6) (N := 9) hx hb hml hown hK hW ⟨⟨kI_RX6, kc_X6_ifSpoiled, ⟨by decide +kernel, by decide +kernel⟩, by decide +kernel⟩, ki_X6_ifSpoiled, ks_X6_ifSpoiled⟩ kM_RL_83 rfl (by decide) (c_fx (by decide)) (mX6_ifSpoiled l hfl hf) rfl dL_ifSpoiled_5 rfl hl.1 (Nat.le_of_ble_eq_true rfl) ⟨Nat.le_of_ble_eq_true rfl, Nat.le_of_ble_eq_true rfl⟩ ⟨Nat.le_refl _, Nat.le_refl _⟩ (fun k hres H locs ce q9 hW hce hcv hcl => ?_) (fun r hres H locs hW => ?_)
  · subst hres
    have hk1 : (k = 1 ∧ kc = 1) ∨ (k = 0 ∧ kc = 2) := by
      simp only [wcd] at hk
      split at hk
      · exact Or.inl ⟨by assumption, (Option.some.inj hk).symm⟩
      · split at hk
        · exact Or.inr ⟨by assumption, (Option.some.inj hk).symm⟩
        · cases hk
    rcases hk1 with ⟨rfl, rfl⟩ | ⟨rfl, rfl⟩
    · refine vx_catch (own := RL) (name := exN 1) (E := exN 1) hown [] ⟨0, 10, 13, 19⟩ [⟨0, 10, 17, 13⟩] htab (fun _ h => absurd h List.not_mem_nil) (by decide) (by decide) (hK.1.2.1.at kL_RL_19 _) (va_Nw.use rfl (hK.1.2.2.2.2.2.1.1 _ (List.mem_of_getElem? (i := 6) rfl))) hce hcv hcl ?_
      refine lv_astore hx hb dL_ifSpoiled_13 hl (by decide) rfl (fun ls hl => ?_)
      refine lv_iconst (v := 1) hx hb dL_ifSpoiled_15 (by decide) ?_
      exact ow_ret hx hb hr hlk hW rfl rfl dL_ifSpoiled_16
    · refine vx_catch (own := RL) (name := exN 0) (E := exN 0) hown [⟨0, 10, 13, 19⟩] ⟨0, 10, 17, 13⟩ [] htab (fun z hz => by
        cases List.mem_singleton.mp hz
        exact Or.inr ⟨by decide, exN 1, hK.1.2.1.at kL_RL_19 _, hK.1.2.2.2.2.2.1.2 _ (List.mem_of_getElem? (i := 0) rfl)⟩) (by decide) (by decide) (hK.1.2.1.at kL_RL_13 _) (va_Nw.use rfl (hK.1.2.2.2.2.2.1.1 _ (List.mem_of_getElem? (i := 5) rfl))) hce hcv hcl ?_
      refine lv_astore hx hb dL_ifSpoiled_17 hl (by decide) rfl (fun ls hl => ?_)
      refine lv_iconst (v := 2) hx hb dL_ifSpoiled_19 (by decide) ?_
      exact ow_ret hx hb hr hlk hW rfl rfl dL_ifSpoiled_20
  · subst hres
    obtain rfl : 0 = kc := Option.some.inj hk
    refine lv_i2l (v := r.toInt64) hx hb dL_ifSpoiled_8 rfl ?_
    refine ow_last hx hb hK hW dL_ifSpoiled_9 (fun H locs hW => ?_)
    refine lv_goto (tgt := 21) hx hb dL_ifSpoiled_10 (by decide) ?_
    refine lv_iconst (v := 0) hx hb dL_ifSpoiled_21 (by decide) ?_
    exact ow_ret hx hb hr hlk hW rfl rfl dL_ifSpoiled_22
