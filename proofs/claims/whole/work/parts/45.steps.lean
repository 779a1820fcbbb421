theorem kM_RL_90 : Kw (.methodLink RL 90 yL_wave) := ⟨List.mem_append_right _ (List.mem_of_getElem? (i := 609) (by decide +kernel)), by decide +kernel⟩
theorem kI_RL : Kw (.initialized RL) := ⟨List.mem_append_right _ (List.mem_of_getElem? (i := 0) (by decide +kernel)), by decide +kernel⟩
theorem kst_L_wave : Kw (.static yL_wave) := ⟨List.mem_append_right _ (List.mem_of_getElem? (i := 610) (by decide +kernel)), by decide +kernel⟩
theorem kM_RL_95 : Kw (.methodLink RL 95 yX7_wave) := ⟨List.mem_append_right _ (List.mem_of_getElem? (i := 933) (by decide +kernel)), by decide +kernel⟩
theorem kc_X7_wave : Kw (.code yX7_wave cX7_wave 4 (some .int)) := ⟨List.mem_append_right _ (List.mem_of_getElem? (i := 936) (by decide +kernel)), by decide +kernel⟩
theorem ki_X7_wave : Kw (.instanceMethod yX7_wave) := ⟨List.mem_append_right _ (List.mem_of_getElem? (i := 934) (by decide +kernel)), by decide +kernel⟩
theorem ks_X7_wave : Kw (.selects RX7 yX7_wave yX7_wave) := ⟨List.mem_append_right _ (List.mem_of_getElem? (i := 935) (by decide +kernel)), by decide +kernel⟩
theorem kM_RL_96 : Kw (.methodLink RL 96 yX7_thrown) := ⟨List.mem_append_right _ (List.mem_of_getElem? (i := 929) (by decide +kernel)), by decide +kernel⟩
theorem kc_X7_thrown : Kw (.code yX7_thrown cX7_thrown 1 (some .int)) := ⟨List.mem_append_right _ (List.mem_of_getElem? (i := 932) (by decide +kernel)), by decide +kernel⟩
theorem ki_X7_thrown : Kw (.instanceMethod yX7_thrown) := ⟨List.mem_append_right _ (List.mem_of_getElem? (i := 930) (by decide +kernel)), by decide +kernel⟩
theorem ks_X7_thrown : Kw (.selects RX7 yX7_thrown yX7_thrown) := ⟨List.mem_append_right _ (List.mem_of_getElem? (i := 931) (by decide +kernel)), by decide +kernel⟩
theorem kM_RL_99 : Kw (.methodLink RL 99 yL_sample) := ⟨List.mem_append_right _ (List.mem_of_getElem? (i := 626) (by decide +kernel)), by decide +kernel⟩
theorem kst_L_sample : Kw (.static yL_sample) := ⟨List.mem_append_right _ (List.mem_of_getElem? (i := 627) (by decide +kernel)), by decide +kernel⟩
theorem kM_RL_102 : Kw (.methodLink RL 102 yX7_sample) := ⟨List.mem_append_right _ (List.mem_of_getElem? (i := 952) (by decide +kernel)), by decide +kernel⟩
theorem kc_X7_sample : Kw (.code yX7_sample cX7_sample 4 (some .int)) := ⟨List.mem_append_right _ (List.mem_of_getElem? (i := 955) (by decide +kernel)), by decide +kernel⟩
theorem ki_X7_sample : Kw (.instanceMethod yX7_sample) := ⟨List.mem_append_right _ (List.mem_of_getElem? (i := 953) (by decide +kernel)), by decide +kernel⟩
theorem ks_X7_sample : Kw (.selects RX7 yX7_sample yX7_sample) := ⟨List.mem_append_right _ (List.mem_of_getElem? (i := 954) (by decide +kernel)), by decide +kernel⟩
theorem kM_RL_103 : Kw (.methodLink RL 103 yL_add) := ⟨List.mem_append_right _ (List.mem_of_getElem? (i := 639) (by decide +kernel)), by decide +kernel⟩
theorem kst_L_add : Kw (.static yL_add) := ⟨List.mem_append_right _ (List.mem_of_getElem? (i := 640) (by decide +kernel)), by decide +kernel⟩
theorem kM_RL_106 : Kw (.methodLink RL 106 yX7_add) := ⟨List.mem_append_right _ (List.mem_of_getElem? (i := 960) (by decide +kernel)), by decide +kernel⟩
theorem kc_X7_add : Kw (.code yX7_add cX7_add 7 (some .int)) := ⟨List.mem_append_right _ (List.mem_of_getElem? (i := 963) (by decide +kernel)), by decide +kernel⟩
theorem ki_X7_add : Kw (.instanceMethod yX7_add) := ⟨List.mem_append_right _ (List.mem_of_getElem? (i := 961) (by decide +kernel)), by decide +kernel⟩
theorem ks_X7_add : Kw (.selects RX7 yX7_add yX7_add) := ⟨List.mem_append_right _ (List.mem_of_getElem? (i := 962) (by decide +kernel)), by decide +kernel⟩
theorem kM_RL_107 : Kw (.methodLink RL 107 yL_take) := ⟨List.mem_append_right _ (List.mem_of_getElem? (i := 654) (by decide +kernel)), by decide +kernel⟩
theorem kst_L_take : Kw (.static yL_take) := ⟨List.mem_append_right _ (List.mem_of_getElem? (i := 655) (by decide +kernel)), by decide +kernel⟩
theorem kM_RL_110 : Kw (.methodLink RL 110 yX7_take) := ⟨List.mem_append_right _ (List.mem_of_getElem? (i := 970) (by decide +kernel)), by decide +kernel⟩
theorem kc_X7_take : Kw (.code yX7_take cX7_take 3 (some .int)) := ⟨List.mem_append_right _ (List.mem_of_getElem? (i := 973) (by decide +kernel)), by decide +kernel⟩
theorem ki_X7_take : Kw (.instanceMethod yX7_take) := ⟨List.mem_append_right _ (List.mem_of_getElem? (i := 971) (by decide +kernel)), by decide +kernel⟩
theorem ks_X7_take : Kw (.selects RX7 yX7_take yX7_take) := ⟨List.mem_append_right _ (List.mem_of_getElem? (i := 972) (by decide +kernel)), by decide +kernel⟩
theorem kM_RL_111 : Kw (.methodLink RL 111 yL_set) := ⟨List.mem_append_right _ (List.mem_of_getElem? (i := 679) (by decide +kernel)), by decide +kernel⟩
theorem kst_L_set : Kw (.static yL_set) := ⟨List.mem_append_right _ (List.mem_of_getElem? (i := 680) (by decide +kernel)), by decide +kernel⟩
theorem kM_RL_113 : Kw (.methodLink RL 113 yX7_set) := ⟨List.mem_append_right _ (List.mem_of_getElem? (i := 993) (by decide +kernel)), by decide +kernel⟩
theorem kc_X7_set : Kw (.code yX7_set cX7_set 5 (some .int)) := ⟨List.mem_append_right _ (List.mem_of_getElem? (i := 996) (by decide +kernel)), by decide +kernel⟩
theorem ki_X7_set : Kw (.instanceMethod yX7_set) := ⟨List.mem_append_right _ (List.mem_of_getElem? (i := 994) (by decide +kernel)), by decide +kernel⟩
theorem ks_X7_set : Kw (.selects RX7 yX7_set yX7_set) := ⟨List.mem_append_right _ (List.mem_of_getElem? (i := 995) (by decide +kernel)), by decide +kernel⟩
theorem kM_RL_114 : Kw (.methodLink RL 114 yX6_code) := ⟨List.mem_append_right _ (List.mem_of_getElem? (i := 242) (by decide +kernel)), by decide +kernel⟩
theorem kc_X6_code : Kw (.code yX6_code cX6_code 1 (some .int)) := ⟨List.mem_append_right _ (List.mem_of_getElem? (i := 245) (by decide +kernel)), by decide +kernel⟩
theorem ki_X6_code : Kw (.instanceMethod yX6_code) := ⟨List.mem_append_right _ (List.mem_of_getElem? (i := 243) (by decide +kernel)), by decide +kernel⟩
theorem ks_X6_code : Kw (.selects RX6 yX6_code yX6_code) := ⟨List.mem_append_right _ (List.mem_of_getElem? (i := 244) (by decide +kernel)), by decide +kernel⟩
theorem kM_RL_117 : Kw (.methodLink RL 117 yX7_code) := ⟨List.mem_append_right _ (List.mem_of_getElem? (i := 997) (by decide +kernel)), by decide +kernel⟩
theorem kc_X7_code : Kw (.code yX7_code cX7_code 4 (some .int)) := ⟨List.mem_append_right _ (List.mem_of_getElem? (i := 1000) (by decide +kernel)), by decide +kernel⟩
theorem ki_X7_code : Kw (.instanceMethod yX7_code) := ⟨List.mem_append_right _ (List.mem_of_getElem? (i := 998) (by decide +kernel)), by decide +kernel⟩
theorem ks_X7_code : Kw (.selects RX7 yX7_code yX7_code) := ⟨List.mem_append_right _ (List.mem_of_getElem? (i := 999) (by decide +kernel)), by decide +kernel⟩
theorem kM_RL_118 : Kw (.methodLink RL 118 yL_lose) := ⟨List.mem_append_right _ (List.mem_of_getElem? (i := 697) (by decide +kernel)), by decide +kernel⟩
theorem kst_L_lose : Kw (.static yL_lose) := ⟨List.mem_append_right _ (List.mem_of_getElem? (i := 698) (by decide +kernel)), by decide +kernel⟩
theorem kM_RL_120 : Kw (.methodLink RL 120 yX7_lose) := ⟨List.mem_append_right _ (List.mem_of_getElem? (i := 1028) (by decide +kernel)), by decide +kernel⟩
theorem kc_X7_lose : Kw (.code yX7_lose cX7_lose 2 (some .int)) := ⟨List.mem_append_right _ (List.mem_of_getElem? (i := 1031) (by decide +kernel)), by decide +kernel⟩
theorem ki_X7_lose : Kw (.instanceMethod yX7_lose) := ⟨List.mem_append_right _ (List.mem_of_getElem? (i := 1029) (by decide +kernel)), by decide +kernel⟩
theorem ks_X7_lose : Kw (.selects RX7 yX7_lose yX7_lose) := ⟨List.mem_append_right _ (List.mem_of_getElem? (i := 1030) (by decide +kernel)), by decide +kernel⟩
theorem kM_RL_121 : Kw (.methodLink RL 121 yL_spoil) := ⟨List.mem_append_right _ (List.mem_of_getElem? (i := 704) (by decide +kernel)), by decide +kernel⟩
theorem kst_L_spoil : Kw (.static yL_spoil) := ⟨List.mem_append_right _ (List.mem_of_getElem? (i := 705) (by decide +kernel)), by decide +kernel⟩
theorem kM_RL_123 : Kw (.methodLink RL 123 yX7_spoil) := ⟨List.mem_append_right _ (List.mem_of_getElem? (i := 1040) (by decide +kernel)), by decide +kernel⟩
theorem kc_X7_spoil : Kw (.code yX7_spoil cX7_spoil 3 (some .int)) := ⟨List.mem_append_right _ (List.mem_of_getElem? (i := 1043) (by decide +kernel)), by decide +kernel⟩
theorem ki_X7_spoil : Kw (.instanceMethod yX7_spoil) := ⟨List.mem_append_right _ (List.mem_of_getElem? (i := 1041) (by decide +kernel)), by decide +kernel⟩
theorem ks_X7_spoil : Kw (.selects RX7 yX7_spoil yX7_spoil) := ⟨List.mem_append_right _ (List.mem_of_getElem? (i := 1042) (by decide +kernel)), by decide +kernel⟩
theorem kM_RL_124 : Kw (.methodLink RL 124 yL_append) := ⟨List.mem_append_right _ (List.mem_of_getElem? (i := 711) (by decide +kernel)), by decide +kernel⟩
theorem kst_L_append : Kw (.static yL_append) := ⟨List.mem_append_right _ (List.mem_of_getElem? (i := 712) (by decide +kernel)), by decide +kernel⟩
theorem kM_RL_126 : Kw (.methodLink RL 126 yX7_append) := ⟨List.mem_append_right _ (List.mem_of_getElem? (i := 1048) (by decide +kernel)), by decide +kernel⟩
theorem kc_X7_append : Kw (.code yX7_append cX7_append 2 (some .int)) := ⟨List.mem_append_right _ (List.mem_of_getElem? (i := 1051) (by decide +kernel)), by decide +kernel⟩
theorem ki_X7_append : Kw (.instanceMethod yX7_append) := ⟨List.mem_append_right _ (List.mem_of_getElem? (i := 1049) (by decide +kernel)), by decide +kernel⟩
theorem ks_X7_append : Kw (.selects RX7 yX7_append yX7_append) := ⟨List.mem_append_right _ (List.mem_of_getElem? (i := 1050) (by decide +kernel)), by decide +kernel⟩
theorem kM_RL_127 : Kw (.methodLink RL 127 yX6_clearBuffer) := ⟨List.mem_append_right _ (List.mem_of_getElem? (i := 328) (by decide +kernel)), by decide +kernel⟩
theorem kc_X6_clearBuffer : Kw (.code yX6_clearBuffer cX6_clearBuffer 2 (some .int)) := ⟨List.mem_append_right _ (List.mem_of_getElem? (i := 331) (by decide +kernel)), by decide +kernel⟩
theorem ki_X6_clearBuffer : Kw (.instanceMethod yX6_clearBuffer) := ⟨List.mem_append_right _ (List.mem_of_getElem? (i := 329) (by decide +kernel)), by decide +kernel⟩
theorem ks_X6_clearBuffer : Kw (.selects RX6 yX6_clearBuffer yX6_clearBuffer) := ⟨List.mem_append_right _ (List.mem_of_getElem? (i := 330) (by decide +kernel)), by decide +kernel⟩
theorem kM_RL_130 : Kw (.methodLink RL 130 yX7_clearBuffer) := ⟨List.mem_append_right _ (List.mem_of_getElem? (i := 1052) (by decide +kernel)), by decide +kernel⟩
theorem kc_X7_clearBuffer : Kw (.code yX7_clearBuffer cX7_clearBuffer 2 (some .int)) := ⟨List.mem_append_right _ (List.mem_of_getElem? (i := 1055) (by decide +kernel)), by decide +kernel⟩
theorem ki_X7_clearBuffer : Kw (.instanceMethod yX7_clearBuffer) := ⟨List.mem_append_right _ (List.mem_of_getElem? (i := 1053) (by decide +kernel)), by decide +kernel⟩
theorem ks_X7_clearBuffer : Kw (.selects RX7 yX7_clearBuffer yX7_clearBuffer) := ⟨List.mem_append_right _ (List.mem_of_getElem? (i := 1054) (by decide +kernel)), by decide +kernel⟩
theorem kM_RL_131 : Kw (.methodLink RL 131 yX6_firstError) := ⟨List.mem_append_right _ (List.mem_of_getElem? (i := 332) (by decide +kernel)), by decide +kernel⟩
theorem kc_X6_firstError : Kw (.code yX6_firstError cX6_firstError 1 (some .int)) := ⟨List.mem_append_right _ (List.mem_of_getElem? (i := 335) (by decide +kernel)), by decide +kernel⟩
theorem ki_X6_firstError : Kw (.instanceMethod yX6_firstError) := ⟨List.mem_append_right _ (List.mem_of_getElem? (i := 333) (by decide +kernel)), by decide +kernel⟩
theorem ks_X6_firstError : Kw (.selects RX6 yX6_firstError yX6_firstError) := ⟨List.mem_append_right _ (List.mem_of_getElem? (i := 334) (by decide +kernel)), by decide +kernel⟩
theorem kM_RL_134 : Kw (.methodLink RL 134 yX7_firstError) := ⟨List.mem_append_right _ (List.mem_of_getElem? (i := 1056) (by decide +kernel)), by decide +kernel⟩
theorem kc_X7_firstError : Kw (.code yX7_firstError cX7_firstError 1 (some .int)) := ⟨List.mem_append_right _ (List.mem_of_getElem? (i := 1059) (by decide +kernel)), by decide +kernel⟩
theorem ki_X7_firstError : Kw (.instanceMethod yX7_firstError) := ⟨List.mem_append_right _ (List.mem_of_getElem? (i := 1057) (by decide +kernel)), by decide +kernel⟩
theorem ks_X7_firstError : Kw (.selects RX7 yX7_firstError yX7_firstError) := ⟨List.mem_append_right _ (List.mem_of_getElem? (i := 1058) (by decide +kernel)), by decide +kernel⟩
theorem kM_RL_135 : Kw (.methodLink RL 135 yL_load) := ⟨List.mem_append_right _ (List.mem_of_getElem? (i := 729) (by decide +kernel)), by decide +kernel⟩
theorem kst_L_load : Kw (.static yL_load) := ⟨List.mem_append_right _ (List.mem_of_getElem? (i := 730) (by decide +kernel)), by decide +kernel⟩
theorem kM_RL_137 : Kw (.methodLink RL 137 yX7_load) := ⟨List.mem_append_right _ (List.mem_of_getElem? (i := 1076) (by decide +kernel)), by decide +kernel⟩
theorem kc_X7_load : Kw (.code yX7_load cX7_load 3 (some .int)) := ⟨List.mem_append_right _ (List.mem_of_getElem? (i := 1079) (by decide +kernel)), by decide +kernel⟩
theorem ki_X7_load : Kw (.instanceMethod yX7_load) := ⟨List.mem_append_right _ (List.mem_of_getElem? (i := 1077) (by decide +kernel)), by decide +kernel⟩
theorem ks_X7_load : Kw (.selects RX7 yX7_load yX7_load) := ⟨List.mem_append_right _ (List.mem_of_getElem? (i := 1078) (by decide +kernel)), by decide +kernel⟩
theorem kM_RL_138 : Kw (.methodLink RL 138 yL_write) := ⟨List.mem_append_right _ (List.mem_of_getElem? (i := 752) (by decide +kernel)), by decide +kernel⟩
theorem kst_L_write : Kw (.static yL_write) := ⟨List.mem_append_right _ (List.mem_of_getElem? (i := 753) (by decide +kernel)), by decide +kernel⟩
theorem kM_RL_140 : Kw (.methodLink RL 140 yX7_write) := ⟨List.mem_append_right _ (List.mem_of_getElem? (i := 1088) (by decide +kernel)), by decide +kernel⟩
theorem kc_X7_write : Kw (.code yX7_write cX7_write 4 (some .int)) := ⟨List.mem_append_right _ (List.mem_of_getElem? (i := 1091) (by decide +kernel)), by decide +kernel⟩
theorem ki_X7_write : Kw (.instanceMethod yX7_write) := ⟨List.mem_append_right _ (List.mem_of_getElem? (i := 1089) (by decide +kernel)), by decide +kernel⟩
theorem ks_X7_write : Kw (.selects RX7 yX7_write yX7_write) := ⟨List.mem_append_right _ (List.mem_of_getElem? (i := 1090) (by decide +kernel)), by decide +kernel⟩
theorem kM_RL_141 : Kw (.methodLink RL 141 yL_keep) := ⟨List.mem_append_right _ (List.mem_of_getElem? (i := 771) (by decide +kernel)), by decide +kernel⟩
theorem kst_L_keep : Kw (.static yL_keep) := ⟨List.mem_append_right _ (List.mem_of_getElem? (i := 772) (by decide +kernel)), by decide +kernel⟩
theorem kM_RL_143 : Kw (.methodLink RL 143 yX7_keep) := ⟨List.mem_append_right _ (List.mem_of_getElem? (i := 1100) (by decide +kernel)), by decide +kernel⟩
theorem kc_X7_keep : Kw (.code yX7_keep cX7_keep 3 (some .int)) := ⟨List.mem_append_right _ (List.mem_of_getElem? (i := 1103) (by decide +kernel)), by decide +kernel⟩
theorem ki_X7_keep : Kw (.instanceMethod yX7_keep) := ⟨List.mem_append_right _ (List.mem_of_getElem? (i := 1101) (by decide +kernel)), by decide +kernel⟩
theorem ks_X7_keep : Kw (.selects RX7 yX7_keep yX7_keep) := ⟨List.mem_append_right _ (List.mem_of_getElem? (i := 1102) (by decide +kernel)), by decide +kernel⟩
theorem kM_RL_144 : Kw (.methodLink RL 144 yL_goBack) := ⟨List.mem_append_right _ (List.mem_of_getElem? (i := 784) (by decide +kernel)), by decide +kernel⟩
theorem kst_L_goBack : Kw (.static yL_goBack) := ⟨List.mem_append_right _ (List.mem_of_getElem? (i := 785) (by decide +kernel)), by decide +kernel⟩
theorem kM_RL_146 : Kw (.methodLink RL 146 yX7_goBack) := ⟨List.mem_append_right _ (List.mem_of_getElem? (i := 1104) (by decide +kernel)), by decide +kernel⟩
theorem kc_X7_goBack : Kw (.code yX7_goBack cX7_goBack 3 (some .int)) := ⟨List.mem_append_right _ (List.mem_of_getElem? (i := 1107) (by decide +kernel)), by decide +kernel⟩
theorem ki_X7_goBack : Kw (.instanceMethod yX7_goBack) := ⟨List.mem_append_right _ (List.mem_of_getElem? (i := 1105) (by decide +kernel)), by decide +kernel⟩
theorem ks_X7_goBack : Kw (.selects RX7 yX7_goBack yX7_goBack) := ⟨List.mem_append_right _ (List.mem_of_getElem? (i := 1106) (by decide +kernel)), by decide +kernel⟩
theorem kM_RL_147 : Kw (.methodLink RL 147 yL_undo) := ⟨List.mem_append_right _ (List.mem_of_getElem? (i := 792) (by decide +kernel)), by decide +kernel⟩
theorem kst_L_undo : Kw (.static yL_undo) := ⟨List.mem_append_right _ (List.mem_of_getElem? (i := 793) (by decide +kernel)), by decide +kernel⟩
theorem kM_RL_149 : Kw (.methodLink RL 149 yX7_undo) := ⟨List.mem_append_right _ (List.mem_of_getElem? (i := 1108) (by decide +kernel)), by decide +kernel⟩
theorem kc_X7_undo : Kw (.code yX7_undo cX7_undo 2 (some .int)) := ⟨List.mem_append_right _ (List.mem_of_getElem? (i := 1111) (by decide +kernel)), by decide +kernel⟩
theorem ki_X7_undo : Kw (.instanceMethod yX7_undo) := ⟨List.mem_append_right _ (List.mem_of_getElem? (i := 1109) (by decide +kernel)), by decide +kernel⟩
theorem ks_X7_undo : Kw (.selects RX7 yX7_undo yX7_undo) := ⟨List.mem_append_right _ (List.mem_of_getElem? (i := 1110) (by decide +kernel)), by decide +kernel⟩
theorem kM_RL_150 : Kw (.methodLink RL 150 yL_step) := ⟨List.mem_append_right _ (List.mem_of_getElem? (i := 804) (by decide +kernel)), by decide +kernel⟩
theorem kst_L_step : Kw (.static yL_step) := ⟨List.mem_append_right _ (List.mem_of_getElem? (i := 805) (by decide +kernel)), by decide +kernel⟩
theorem kM_RL_152 : Kw (.methodLink RL 152 yX7_step) := ⟨List.mem_append_right _ (List.mem_of_getElem? (i := 1112) (by decide +kernel)), by decide +kernel⟩
theorem kc_X7_step : Kw (.code yX7_step cX7_step 2 (some .int)) := ⟨List.mem_append_right _ (List.mem_of_getElem? (i := 1115) (by decide +kernel)), by decide +kernel⟩
theorem ki_X7_step : Kw (.instanceMethod yX7_step) := ⟨List.mem_append_right _ (List.mem_of_getElem? (i := 1113) (by decide +kernel)), by decide +kernel⟩
theorem ks_X7_step : Kw (.selects RX7 yX7_step yX7_step) := ⟨List.mem_append_right _ (List.mem_of_getElem? (i := 1114) (by decide +kernel)), by decide +kernel⟩
theorem kM_RL_153 : Kw (.methodLink RL 153 yL_sampleOf) := ⟨List.mem_append_right _ (List.mem_of_getElem? (i := 816) (by decide +kernel)), by decide +kernel⟩
theorem kst_L_sampleOf : Kw (.static yL_sampleOf) := ⟨List.mem_append_right _ (List.mem_of_getElem? (i := 817) (by decide +kernel)), by decide +kernel⟩
theorem kM_RL_155 : Kw (.methodLink RL 155 yX7_sampleOf) := ⟨List.mem_append_right _ (List.mem_of_getElem? (i := 1116) (by decide +kernel)), by decide +kernel⟩
theorem kc_X7_sampleOf : Kw (.code yX7_sampleOf cX7_sampleOf 3 (some .int)) := ⟨List.mem_append_right _ (List.mem_of_getElem? (i := 1119) (by decide +kernel)), by decide +kernel⟩
theorem ki_X7_sampleOf : Kw (.instanceMethod yX7_sampleOf) := ⟨List.mem_append_right _ (List.mem_of_getElem? (i := 1117) (by decide +kernel)), by decide +kernel⟩
theorem ks_X7_sampleOf : Kw (.selects RX7 yX7_sampleOf yX7_sampleOf) := ⟨List.mem_append_right _ (List.mem_of_getElem? (i := 1118) (by decide +kernel)), by decide +kernel⟩
theorem kM_RL_156 : Kw (.methodLink RL 156 yL_blockOf) := ⟨List.mem_append_right _ (List.mem_of_getElem? (i := 820) (by decide +kernel)), by decide +kernel⟩
theorem kst_L_blockOf : Kw (.static yL_blockOf) := ⟨List.mem_append_right _ (List.mem_of_getElem? (i := 821) (by decide +kernel)), by decide +kernel⟩
theorem kM_RL_158 : Kw (.methodLink RL 158 yX7_blockOf) := ⟨List.mem_append_right _ (List.mem_of_getElem? (i := 1124) (by decide +kernel)), by decide +kernel⟩
theorem kc_X7_blockOf : Kw (.code yX7_blockOf cX7_blockOf 3 (some .int)) := ⟨List.mem_append_right _ (List.mem_of_getElem? (i := 1127) (by decide +kernel)), by decide +kernel⟩
theorem ki_X7_blockOf : Kw (.instanceMethod yX7_blockOf) := ⟨List.mem_append_right _ (List.mem_of_getElem? (i := 1125) (by decide +kernel)), by decide +kernel⟩
theorem ks_X7_blockOf : Kw (.selects RX7 yX7_blockOf yX7_blockOf) := ⟨List.mem_append_right _ (List.mem_of_getElem? (i := 1126) (by decide +kernel)), by decide +kernel⟩
theorem kM_RL_159 : Kw (.methodLink RL 159 yL_count) := ⟨List.mem_append_right _ (List.mem_of_getElem? (i := 824) (by decide +kernel)), by decide +kernel⟩
theorem kst_L_count : Kw (.static yL_count) := ⟨List.mem_append_right _ (List.mem_of_getElem? (i := 825) (by decide +kernel)), by decide +kernel⟩
theorem kM_RL_161 : Kw (.methodLink RL 161 yX7_count) := ⟨List.mem_append_right _ (List.mem_of_getElem? (i := 1136) (by decide +kernel)), by decide +kernel⟩
theorem kc_X7_count : Kw (.code yX7_count cX7_count 2 (some .int)) := ⟨List.mem_append_right _ (List.mem_of_getElem? (i := 1139) (by decide +kernel)), by decide +kernel⟩
theorem ki_X7_count : Kw (.instanceMethod yX7_count) := ⟨List.mem_append_right _ (List.mem_of_getElem? (i := 1137) (by decide +kernel)), by decide +kernel⟩
theorem ks_X7_count : Kw (.selects RX7 yX7_count yX7_count) := ⟨List.mem_append_right _ (List.mem_of_getElem? (i := 1138) (by decide +kernel)), by decide +kernel⟩
theorem kM_RL_162 : Kw (.methodLink RL 162 yL_setting) := ⟨List.mem_append_right _ (List.mem_of_getElem? (i := 828) (by decide +kernel)), by decide +kernel⟩
theorem kst_L_setting : Kw (.static yL_setting) := ⟨List.mem_append_right _ (List.mem_of_getElem? (i := 829) (by decide +kernel)), by decide +kernel⟩
theorem kM_RL_164 : Kw (.methodLink RL 164 yX7_setting) := ⟨List.mem_append_right _ (List.mem_of_getElem? (i := 1156) (by decide +kernel)), by decide +kernel⟩
theorem kc_X7_setting : Kw (.code yX7_setting cX7_setting 2 (some .int)) := ⟨List.mem_append_right _ (List.mem_of_getElem? (i := 1159) (by decide +kernel)), by decide +kernel⟩
theorem ki_X7_setting : Kw (.instanceMethod yX7_setting) := ⟨List.mem_append_right _ (List.mem_of_getElem? (i := 1157) (by decide +kernel)), by decide +kernel⟩
theorem ks_X7_setting : Kw (.selects RX7 yX7_setting yX7_setting) := ⟨List.mem_append_right _ (List.mem_of_getElem? (i := 1158) (by decide +kernel)), by decide +kernel⟩
theorem kM_RL_165 : Kw (.methodLink RL 165 yL_ifCoded) := ⟨List.mem_append_right _ (List.mem_of_getElem? (i := 835) (by decide +kernel)), by decide +kernel⟩
theorem kst_L_ifCoded : Kw (.static yL_ifCoded) := ⟨List.mem_append_right _ (List.mem_of_getElem? (i := 836) (by decide +kernel)), by decide +kernel⟩
theorem kM_RL_168 : Kw (.methodLink RL 168 yX7_ifCoded) := ⟨List.mem_append_right _ (List.mem_of_getElem? (i := 1160) (by decide +kernel)), by decide +kernel⟩
theorem kc_X7_ifCoded : Kw (.code yX7_ifCoded cX7_ifCoded 7 (some .int)) := ⟨List.mem_append_right _ (List.mem_of_getElem? (i := 1163) (by decide +kernel)), by decide +kernel⟩
theorem ki_X7_ifCoded : Kw (.instanceMethod yX7_ifCoded) := ⟨List.mem_append_right _ (List.mem_of_getElem? (i := 1161) (by decide +kernel)), by decide +kernel⟩
theorem ks_X7_ifCoded : Kw (.selects RX7 yX7_ifCoded yX7_ifCoded) := ⟨List.mem_append_right _ (List.mem_of_getElem? (i := 1162) (by decide +kernel)), by decide +kernel⟩
theorem kM_RL_169 : Kw (.methodLink RL 169 yL_ifBlock) := ⟨List.mem_append_right _ (List.mem_of_getElem? (i := 846) (by decide +kernel)), by decide +kernel⟩
theorem kst_L_ifBlock : Kw (.static yL_ifBlock) := ⟨List.mem_append_right _ (List.mem_of_getElem? (i := 847) (by decide +kernel)), by decide +kernel⟩
theorem kM_RL_171 : Kw (.methodLink RL 171 yX7_ifBlock) := ⟨List.mem_append_right _ (List.mem_of_getElem? (i := 1164) (by decide +kernel)), by decide +kernel⟩
theorem kc_X7_ifBlock : Kw (.code yX7_ifBlock cX7_ifBlock 4 (some .int)) := ⟨List.mem_append_right _ (List.mem_of_getElem? (i := 1167) (by decide +kernel)), by decide +kernel⟩
theorem ki_X7_ifBlock : Kw (.instanceMethod yX7_ifBlock) := ⟨List.mem_append_right _ (List.mem_of_getElem? (i := 1165) (by decide +kernel)), by decide +kernel⟩
theorem ks_X7_ifBlock : Kw (.selects RX7 yX7_ifBlock yX7_ifBlock) := ⟨List.mem_append_right _ (List.mem_of_getElem? (i := 1166) (by decide +kernel)), by decide +kernel⟩
theorem kM_RL_172 : Kw (.methodLink RL 172 yL_bestStep) := ⟨List.mem_append_right _ (List.mem_of_getElem? (i := 854) (by decide +kernel)), by decide +kernel⟩
theorem kst_L_bestStep : Kw (.static yL_bestStep) := ⟨List.mem_append_right _ (List.mem_of_getElem? (i := 855) (by decide +kernel)), by decide +kernel⟩
theorem kM_RL_174 : Kw (.methodLink RL 174 yX7_bestStep) := ⟨List.mem_append_right _ (List.mem_of_getElem? (i := 1172) (by decide +kernel)), by decide +kernel⟩
theorem kc_X7_bestStep : Kw (.code yX7_bestStep cX7_bestStep 3 (some .int)) := ⟨List.mem_append_right _ (List.mem_of_getElem? (i := 1175) (by decide +kernel)), by decide +kernel⟩
theorem ki_X7_bestStep : Kw (.instanceMethod yX7_bestStep) := ⟨List.mem_append_right _ (List.mem_of_getElem? (i := 1173) (by decide +kernel)), by decide +kernel⟩
theorem ks_X7_bestStep : Kw (.selects RX7 yX7_bestStep yX7_bestStep) := ⟨List.mem_append_right _ (List.mem_of_getElem? (i := 1174) (by decide +kernel)), by decide +kernel⟩
theorem kM_RL_175 : Kw (.methodLink RL 175 yL_ifSpoiled) := ⟨List.mem_append_right _ (List.mem_of_getElem? (i := 858) (by decide +kernel)), by decide +kernel⟩
theorem kst_L_ifSpoiled : Kw (.static yL_ifSpoiled) := ⟨List.mem_append_right _ (List.mem_of_getElem? (i := 859) (by decide +kernel)), by decide +kernel⟩
theorem kM_RL_177 : Kw (.methodLink RL 177 yX7_ifSpoiled) := ⟨List.mem_append_right _ (List.mem_of_getElem? (i := 1176) (by decide +kernel)), by decide +kernel⟩
theorem kc_X7_ifSpoiled : Kw (.code yX7_ifSpoiled cX7_ifSpoiled 3 (some .int)) := ⟨List.mem_append_right _ (List.mem_of_getElem? (i := 1179) (by decide +kernel)), by decide +kernel⟩
theorem ki_X7_ifSpoiled : Kw (.instanceMethod yX7_ifSpoiled) := ⟨List.mem_append_right _ (List.mem_of_getElem? (i := 1177) (by decide +kernel)), by decide +kernel⟩
theorem ks_X7_ifSpoiled : Kw (.selects RX7 yX7_ifSpoiled yX7_ifSpoiled) := ⟨List.mem_append_right _ (List.mem_of_getElem? (i := 1178) (by decide +kernel)), by decide +kernel⟩
theorem kM_RL_178 : Kw (.methodLink RL 178 yX6_meanSquare) := ⟨List.mem_append_right _ (List.mem_of_getElem? (i := 364) (by decide +kernel)), by decide +kernel⟩
theorem ks_X6_meanSquare : Kw (.selects RX6 yX6_meanSquare yX6_meanSquare) := ⟨List.mem_append_right _ (List.mem_of_getElem? (i := 366) (by decide +kernel)), by decide +kernel⟩
theorem kM_RL_182 : Kw (.methodLink RL 182 yX7_meanSquare) := ⟨List.mem_append_right _ (List.mem_of_getElem? (i := 1184) (by decide +kernel)), by decide +kernel⟩
theorem kc_X7_meanSquare : Kw (.code yX7_meanSquare cX7_meanSquare 1 (some .double)) := ⟨List.mem_append_right _ (List.mem_of_getElem? (i := 1187) (by decide +kernel)), by decide +kernel⟩
theorem ki_X7_meanSquare : Kw (.instanceMethod yX7_meanSquare) := ⟨List.mem_append_right _ (List.mem_of_getElem? (i := 1185) (by decide +kernel)), by decide +kernel⟩
theorem ks_X7_meanSquare : Kw (.selects RX7 yX7_meanSquare yX7_meanSquare) := ⟨List.mem_append_right _ (List.mem_of_getElem? (i := 1186) (by decide +kernel)), by decide +kernel⟩
theorem kM_RL_183 : Kw (.methodLink RL 183 yX6_loudness) := ⟨List.mem_append_right _ (List.mem_of_getElem? (i := 400) (by decide +kernel)), by decide +kernel⟩
theorem ks_X6_loudness : Kw (.selects RX6 yX6_loudness yX6_loudness) := ⟨List.mem_append_right _ (List.mem_of_getElem? (i := 402) (by decide +kernel)), by decide +kernel⟩
theorem kM_RL_187 : Kw (.methodLink RL 187 yX7_loudness) := ⟨List.mem_append_right _ (List.mem_of_getElem? (i := 1192) (by decide +kernel)), by decide +kernel⟩
theorem kc_X7_loudness : Kw (.code yX7_loudness cX7_loudness 1 (some .float)) := ⟨List.mem_append_right _ (List.mem_of_getElem? (i := 1195) (by decide +kernel)), by decide +kernel⟩
theorem ki_X7_loudness : Kw (.instanceMethod yX7_loudness) := ⟨List.mem_append_right _ (List.mem_of_getElem? (i := 1193) (by decide +kernel)), by decide +kernel⟩
theorem ks_X7_loudness : Kw (.selects RX7 yX7_loudness yX7_loudness) := ⟨List.mem_append_right _ (List.mem_of_getElem? (i := 1194) (by decide +kernel)), by decide +kernel⟩
theorem kM_RL_188 : Kw (.methodLink RL 188 yX6_digest) := ⟨List.mem_append_right _ (List.mem_of_getElem? (i := 405) (by decide +kernel)), by decide +kernel⟩
theorem kc_X6_digest : Kw (.code yX6_digest cX6_digest 4 (some .long)) := ⟨List.mem_append_right _ (List.mem_of_getElem? (i := 408) (by decide +kernel)), by decide +kernel⟩
theorem ki_X6_digest : Kw (.instanceMethod yX6_digest) := ⟨List.mem_append_right _ (List.mem_of_getElem? (i := 406) (by decide +kernel)), by decide +kernel⟩
theorem ks_X6_digest : Kw (.selects RX6 yX6_digest yX6_digest) := ⟨List.mem_append_right _ (List.mem_of_getElem? (i := 407) (by decide +kernel)), by decide +kernel⟩
theorem kM_RL_192 : Kw (.methodLink RL 192 yX7_digest) := ⟨List.mem_append_right _ (List.mem_of_getElem? (i := 1201) (by decide +kernel)), by decide +kernel⟩
theorem kc_X7_digest : Kw (.code yX7_digest cX7_digest 2 (some .long)) := ⟨List.mem_append_right _ (List.mem_of_getElem? (i := 1204) (by decide +kernel)), by decide +kernel⟩
theorem ki_X7_digest : Kw (.instanceMethod yX7_digest) := ⟨List.mem_append_right _ (List.mem_of_getElem? (i := 1202) (by decide +kernel)), by decide +kernel⟩
theorem ks_X7_digest : Kw (.selects RX7 yX7_digest yX7_digest) := ⟨List.mem_append_right _ (List.mem_of_getElem? (i := 1203) (by decide +kernel)), by decide +kernel⟩
section LC
variable {p : Program} {l : Launch} {e : Env} {s : State} {m : MethodId} {args : Array Value} {below : List Frame} {meth : Method} {c : Code} {H : Heap} {locs : List Loc} {cells slots : Nat} {Q : State → Prop}
variable {ls : Array Slot} {E : En} {σ μ : Sg} {dg w : Int64} {b L t : Nat} {xs : Nat → Int32} {Rel : Sg → Sg → Int64 → Prop}
set_option maxHeartbeats 4000000 in
set_option maxRecDepth 100000 in
theorem lc_wave (hfl : l.stackTraces = false) (hx : p.tables.exec = Jvm.exec) (hb : c.code = code) (hml : c.maxLocals = 9) (hown : s.vm.findClass RL = some m.cls) (hB : s.heap.size = eB E) (hK : Ko E s) (hX : va_X b L xs s s.heap) (hbl : b < s.heap.size) (hL : L ≤ 2560) (h5 : 5 * t + 5 ≤ L) (hcs : cells + 1 ≤ 1157 ∧ slots + 6 ≤ 14449) (hop : ∀ σ μ dg, Rel σ μ dg → ∀ (a1 : Int32), ∃ res σ' r μ', fX6_wave a1 σ = some (res, σ') ∧ fX7_wave a1 μ = some (r, μ') ∧ tel [0] res r (μ' 20 0) ∧ Rel σ' μ' dg) (hRl : Rel σ μ dg) (hW : Lk E σ μ dg w s H locs) (hl : lv_has ls 9 [(4, .int (nI (5 * t))), (3, .ref (eO E)), (2, .ref (eA E 9)), (1, .ref (eA E 0)), (0, .ref b)])
    (kk : ∀ (σ' μ' : Sg) (dg' w' : Int64) (H' : Heap) (locs' : List Loc) (ls' : Array Slot), Rel σ' μ' dg' → Lk E σ' μ' dg' w' s H' locs' → lv_has ls' 9 [(4, .int (nI (5 * t))), (3, .ref (eO E)), (2, .ref (eA E 9)), (1, .ref (eA E 0)), (0, .ref b)] → W p l e room_1 s m args below meth c H' locs' (cells + 1) (slots + 6) Q (F0 m 1677 ls' [])) : W p l e room_1 s m args below meth c H locs cells slots Q (F0 m 164 ls []) := by
  obtain ⟨res, σ', r, μ', hf, hg, htel, hR1⟩ := hop σ μ dg hRl (xs (5 * t + 1))
  refine lv_aload_n hx hb dL_law_164 rfl (lv_at hl 3 rfl) ?_
  refine lv_aload_n hx hb dL_law_165 rfl (lv_at hl 4 rfl) ?_
  refine lv_iload hx hb dL_law_166 (lv_at hl 0 rfl) ?_
  refine lv_iconst (v := 1) hx hb dL_law_168 (by decide) ?_
  refine lv_iadd hx hb dL_law_169 ?_
  refine lo_sld (k := 5 * t + 1) hx hb hB hW hX hbl (by rw [show (1 : Int32) = nI 1 from rfl, nI_add]) (by omega) hL dL_law_170 ?_
  refine lv_aload_n hx hb dL_law_171 rfl (lv_at hl 1 rfl) ?_
  refine lo_w (np := 3) (As := [.ref (eA E 0), .int (xs (5 * t + 1)), .ref (eO E)]) (rest := []) hx hb hml hown hB hK hW kcw_L_wave kI_RL ⟨by decide +kernel, by decide +kernel⟩ (by decide +kernel) kst_L_wave kM_RL_90 (wL_wave l hfl hf (tel_c htel)) rfl dL_law_172 rfl hl.1 (Nat.le_of_ble_eq_true rfl) ⟨Nat.le_of_ble_eq_true rfl, Nat.le_of_ble_eq_true rfl⟩ hcs (fun H locs hW => ?_)
  refine lv_istore (lv' := [(5, .int (μ' 20 0)), (4, .int (nI (5 * t))), (3, .ref (eO E)), (2, .ref (eA E 9)), (1, .ref (eA E 0)), (0, .ref b)]) hx hb dL_law_175 hl (by decide) rfl (fun ls hl => ?_)
  refine lv_aload_n hx hb dL_law_177 rfl (lv_at hl 3 rfl) ?_
  refine lv_aload_n hx hb dL_law_178 rfl (lv_at hl 5 rfl) ?_
  refine lv_iload hx hb dL_law_179 (lv_at hl 1 rfl) ?_
  refine lv_iconst (v := 1) hx hb dL_law_181 (by decide) ?_
  refine lv_iadd hx hb dL_law_182 ?_
  refine lo_sld (k := 5 * t + 1) hx hb hB hW hX hbl (by rw [show (1 : Int32) = nI 1 from rfl, nI_add]) (by omega) hL dL_law_183 ?_
  refine lo_i (np := 1) (As := [.int (xs (5 * t + 1))]) (rest := []) (q := 9) (T := TX7) (N := 20) hx hb hml hown hB hK hW ⟨⟨kI_RX7, kc_X7_wave, ⟨by decide +kernel, by decide +kernel⟩, by decide +kernel⟩, ki_X7_wave, ks_X7_wave⟩ kM_RL_95 rfl (by decide) (c_fx (by decide)) (mX7_wave l hg) rfl dL_law_184 rfl hl.1 (Nat.le_of_ble_eq_true rfl) ⟨Nat.le_of_ble_eq_true rfl, Nat.le_of_ble_eq_true rfl⟩ ⟨hcs.1, hcs.2⟩ (fun H locs hW => ?_)
  refine lv_istore (lv' := [(6, .int r), (5, .int (μ' 20 0)), (4, .int (nI (5 * t))), (3, .ref (eO E)), (2, .ref (eA E 9)), (1, .ref (eA E 0)), (0, .ref b)]) hx hb dL_law_187 hl (by decide) rfl (fun ls hl => ?_)
  refine lv_aload_n hx hb dL_law_189 rfl (lv_at hl 4 rfl) ?_
  refine lo_i (np := 0) (As := []) (rest := []) (q := 9) (T := TX7) (N := 20) hx hb hml hown hB hK hW ⟨⟨kI_RX7, kc_X7_thrown, ⟨by decide +kernel, by decide +kernel⟩, by decide +kernel⟩, ki_X7_thrown, ks_X7_thrown⟩ kM_RL_96 rfl (by decide) (c_fx (by decide)) (mX7_thrown l rfl) rfl dL_law_190 rfl hl.1 (Nat.le_of_ble_eq_true rfl) ⟨Nat.le_of_ble_eq_true rfl, Nat.le_of_ble_eq_true rfl⟩ ⟨hcs.1, hcs.2⟩ (fun H locs hW => ?_)
  refine lv_iload hx hb dL_law_193 (lv_at hl 1 rfl) ?_
  refine lv_icmp_eq (tgt := 200) hx hb dL_law_195 (by decide) (fun c1 => ?_) (fun c1 => absurd rfl c1)
  refine lv_iload hx hb dL_law_200 (lv_at hl 1 rfl) ?_
  refine lv_if_ne (tgt := 217) hx hb dL_law_202 (by decide) (fun c2 => ?_) (fun c2 => ?_)
  · refine lv_goto (tgt := 1677) hx hb dL_law_217 (by decide) ?_
    exact kk _ _ _ _ _ _ _ hR1 hW (lv_sub hl [2, 3, 4, 5, 6] rfl)
  refine lv_aload_n hx hb dL_law_205 rfl (lv_at hl 3 rfl) ?_
  refine lv_iconst (v := 0) hx hb dL_law_206 (by decide) ?_
  refine lo_lald hx hb hK hW dL_law_207 ?_
  refine lv_iload hx hb dL_law_208 (lv_at hl 0 rfl) ?_
  refine lv_i2l (v := (r).toInt64) hx hb dL_law_210 rfl ?_
  refine W.lcmp hx hb dL_law_211 ?_
  rw [tel_r htel c2, lg_cmp_self]
  refine lv_if_eq (tgt := 217) hx hb dL_law_212 (by decide) (fun c3 => ?_) (fun c3 => absurd rfl c3)
  refine lv_goto (tgt := 1677) hx hb dL_law_217 (by decide) ?_
  exact kk _ _ _ _ _ _ _ hR1 hW (lv_sub hl [2, 3, 4, 5, 6] rfl)
set_option maxHeartbeats 4000000 in
set_option maxRecDepth 100000 in
theorem lc_sample (hfl : l.stackTraces = false) (hx : p.tables.exec = Jvm.exec) (hb : c.code = code) (hml : c.maxLocals = 9) (hown : s.vm.findClass RL = some m.cls) (hB : s.heap.size = eB E) (hK : Ko E s) (hX : va_X b L xs s s.heap) (hbl : b < s.heap.size) (hL : L ≤ 2560) (h5 : 5 * t + 5 ≤ L) (hcs : cells + 1 ≤ 1157 ∧ slots + 6 ≤ 14449) (hop : ∀ σ μ dg, Rel σ μ dg → ∀ (a1 : Int32) (a2 : Int32), ∃ res σ' r μ', fX6_sample a1 a2 σ = some (res, σ') ∧ fX7_sample a1 a2 μ = some (r, μ') ∧ tel [1, 0] res r (μ' 20 0) ∧ Rel σ' μ' dg) (hRl : Rel σ μ dg) (hW : Lk E σ μ dg w s H locs) (hl : lv_has ls 9 [(4, .int (nI (5 * t))), (3, .ref (eO E)), (2, .ref (eA E 9)), (1, .ref (eA E 0)), (0, .ref b)])
    (kk : ∀ (σ' μ' : Sg) (dg' w' : Int64) (H' : Heap) (locs' : List Loc) (ls' : Array Slot), Rel σ' μ' dg' → Lk E σ' μ' dg' w' s H' locs' → lv_has ls' 9 [(4, .int (nI (5 * t))), (3, .ref (eO E)), (2, .ref (eA E 9)), (1, .ref (eA E 0)), (0, .ref b)] → W p l e room_1 s m args below meth c H' locs' (cells + 1) (slots + 6) Q (F0 m 1677 ls' [])) : W p l e room_1 s m args below meth c H locs cells slots Q (F0 m 220 ls []) := by
  obtain ⟨res, σ', r, μ', hf, hg, htel, hR1⟩ := hop σ μ dg hRl (xs (5 * t + 1)) (xs (5 * t + 2))
  refine lv_aload_n hx hb dL_law_220 rfl (lv_at hl 3 rfl) ?_
  refine lv_aload_n hx hb dL_law_221 rfl (lv_at hl 4 rfl) ?_
  refine lv_iload hx hb dL_law_222 (lv_at hl 0 rfl) ?_
  refine lv_iconst (v := 1) hx hb dL_law_224 (by decide) ?_
  refine lv_iadd hx hb dL_law_225 ?_
  refine lo_sld (k := 5 * t + 1) hx hb hB hW hX hbl (by rw [show (1 : Int32) = nI 1 from rfl, nI_add]) (by omega) hL dL_law_226 ?_
  refine lv_aload_n hx hb dL_law_227 rfl (lv_at hl 4 rfl) ?_
  refine lv_iload hx hb dL_law_228 (lv_at hl 0 rfl) ?_
  refine lv_iconst (v := 2) hx hb dL_law_230 (by decide) ?_
  refine lv_iadd hx hb dL_law_231 ?_
  refine lo_sld (k := 5 * t + 2) hx hb hB hW hX hbl (by rw [show (2 : Int32) = nI 2 from rfl, nI_add]) (by omega) hL dL_law_232 ?_
  refine lv_aload_n hx hb dL_law_233 rfl (lv_at hl 1 rfl) ?_
  refine lo_w (np := 4) (As := [.ref (eA E 0), .int (xs (5 * t + 1)), .int (xs (5 * t + 2)), .ref (eO E)]) (rest := []) hx hb hml hown hB hK hW kcw_L_sample kI_RL ⟨by decide +kernel, by decide +kernel⟩ (by decide +kernel) kst_L_sample kM_RL_99 (wL_sample l hfl hf (tel_c htel)) rfl dL_law_234 rfl hl.1 (Nat.le_of_ble_eq_true rfl) ⟨Nat.le_of_ble_eq_true rfl, Nat.le_of_ble_eq_true rfl⟩ hcs (fun H locs hW => ?_)
  refine lv_istore (lv' := [(5, .int (μ' 20 0)), (4, .int (nI (5 * t))), (3, .ref (eO E)), (2, .ref (eA E 9)), (1, .ref (eA E 0)), (0, .ref b)]) hx hb dL_law_237 hl (by decide) rfl (fun ls hl => ?_)
  refine lv_aload_n hx hb dL_law_239 rfl (lv_at hl 3 rfl) ?_
  refine lv_aload_n hx hb dL_law_240 rfl (lv_at hl 5 rfl) ?_
  refine lv_iload hx hb dL_law_241 (lv_at hl 1 rfl) ?_
  refine lv_iconst (v := 1) hx hb dL_law_243 (by decide) ?_
  refine lv_iadd hx hb dL_law_244 ?_
  refine lo_sld (k := 5 * t + 1) hx hb hB hW hX hbl (by rw [show (1 : Int32) = nI 1 from rfl, nI_add]) (by omega) hL dL_law_245 ?_
  refine lv_aload_n hx hb dL_law_246 rfl (lv_at hl 5 rfl) ?_
  refine lv_iload hx hb dL_law_247 (lv_at hl 1 rfl) ?_
  refine lv_iconst (v := 2) hx hb dL_law_249 (by decide) ?_
  refine lv_iadd hx hb dL_law_250 ?_
  refine lo_sld (k := 5 * t + 2) hx hb hB hW hX hbl (by rw [show (2 : Int32) = nI 2 from rfl, nI_add]) (by omega) hL dL_law_251 ?_
  refine lo_i (np := 2) (As := [.int (xs (5 * t + 1)), .int (xs (5 * t + 2))]) (rest := []) (q := 9) (T := TX7) (N := 20) hx hb hml hown hB hK hW ⟨⟨kI_RX7, kc_X7_sample, ⟨by decide +kernel, by decide +kernel⟩, by decide +kernel⟩, ki_X7_sample, ks_X7_sample⟩ kM_RL_102 rfl (by decide) (c_fx (by decide)) (mX7_sample l hg) rfl dL_law_252 rfl hl.1 (Nat.le_of_ble_eq_true rfl) ⟨Nat.le_of_ble_eq_true rfl, Nat.le_of_ble_eq_true rfl⟩ ⟨hcs.1, hcs.2⟩ (fun H locs hW => ?_)
  refine lv_istore (lv' := [(6, .int r), (5, .int (μ' 20 0)), (4, .int (nI (5 * t))), (3, .ref (eO E)), (2, .ref (eA E 9)), (1, .ref (eA E 0)), (0, .ref b)]) hx hb dL_law_255 hl (by decide) rfl (fun ls hl => ?_)
  refine lv_aload_n hx hb dL_law_257 rfl (lv_at hl 4 rfl) ?_
  refine lo_i (np := 0) (As := []) (rest := []) (q := 9) (T := TX7) (N := 20) hx hb hml hown hB hK hW ⟨⟨kI_RX7, kc_X7_thrown, ⟨by decide +kernel, by decide +kernel⟩, by decide +kernel⟩, ki_X7_thrown, ks_X7_thrown⟩ kM_RL_96 rfl (by decide) (c_fx (by decide)) (mX7_thrown l rfl) rfl dL_law_258 rfl hl.1 (Nat.le_of_ble_eq_true rfl) ⟨Nat.le_of_ble_eq_true rfl, Nat.le_of_ble_eq_true rfl⟩ ⟨hcs.1, hcs.2⟩ (fun H locs hW => ?_)
  refine lv_iload hx hb dL_law_261 (lv_at hl 1 rfl) ?_
  refine lv_icmp_eq (tgt := 268) hx hb dL_law_263 (by decide) (fun c1 => ?_) (fun c1 => absurd rfl c1)
  refine lv_iload hx hb dL_law_268 (lv_at hl 1 rfl) ?_
  refine lv_if_ne (tgt := 285) hx hb dL_law_270 (by decide) (fun c2 => ?_) (fun c2 => ?_)
  · refine lv_goto (tgt := 1677) hx hb dL_law_285 (by decide) ?_
    exact kk _ _ _ _ _ _ _ hR1 hW (lv_sub hl [2, 3, 4, 5, 6] rfl)
  refine lv_aload_n hx hb dL_law_273 rfl (lv_at hl 3 rfl) ?_
  refine lv_iconst (v := 0) hx hb dL_law_274 (by decide) ?_
  refine lo_lald hx hb hK hW dL_law_275 ?_
  refine lv_iload hx hb dL_law_276 (lv_at hl 0 rfl) ?_
  refine lv_i2l (v := (r).toInt64) hx hb dL_law_278 rfl ?_
  refine W.lcmp hx hb dL_law_279 ?_
  rw [tel_r htel c2, lg_cmp_self]
  refine lv_if_eq (tgt := 285) hx hb dL_law_280 (by decide) (fun c3 => ?_) (fun c3 => absurd rfl c3)
  refine lv_goto (tgt := 1677) hx hb dL_law_285 (by decide) ?_
  exact kk _ _ _ _ _ _ _ hR1 hW (lv_sub hl [2, 3, 4, 5, 6] rfl)
set_option maxHeartbeats 4000000 in
set_option maxRecDepth 100000 in
theorem lc_add (hfl : l.stackTraces = false) (hx : p.tables.exec = Jvm.exec) (hb : c.code = code) (hml : c.maxLocals = 9) (hown : s.vm.findClass RL = some m.cls) (hB : s.heap.size = eB E) (hK : Ko E s) (hX : va_X b L xs s s.heap) (hbl : b < s.heap.size) (hL : L ≤ 2560) (h5 : 5 * t + 5 ≤ L) (hcs : cells + 1 ≤ 1157 ∧ slots + 6 ≤ 14449) (hop : ∀ σ μ dg, Rel σ μ dg → ∀ (a1 : Int32) (a2 : Int32) (a3 : Int32), ∃ res σ' r μ', fX6_add a1 a2 a3 σ = some (res, σ') ∧ fX7_add a1 a2 a3 μ = some (r, μ') ∧ tel [0] res r (μ' 20 0) ∧ Rel σ' μ' dg) (hRl : Rel σ μ dg) (hW : Lk E σ μ dg w s H locs) (hl : lv_has ls 9 [(4, .int (nI (5 * t))), (3, .ref (eO E)), (2, .ref (eA E 9)), (1, .ref (eA E 0)), (0, .ref b)])
    (kk : ∀ (σ' μ' : Sg) (dg' w' : Int64) (H' : Heap) (locs' : List Loc) (ls' : Array Slot), Rel σ' μ' dg' → Lk E σ' μ' dg' w' s H' locs' → lv_has ls' 9 [(4, .int (nI (5 * t))), (3, .ref (eO E)), (2, .ref (eA E 9)), (1, .ref (eA E 0)), (0, .ref b)] → W p l e room_1 s m args below meth c H' locs' (cells + 1) (slots + 6) Q (F0 m 1677 ls' [])) : W p l e room_1 s m args below meth c H locs cells slots Q (F0 m 288 ls []) := by
  obtain ⟨res, σ', r, μ', hf, hg, htel, hR1⟩ := hop σ μ dg hRl (xs (5 * t + 1)) (xs (5 * t + 2)) (xs (5 * t + 3))
  refine lv_aload_n hx hb dL_law_288 rfl (lv_at hl 3 rfl) ?_
  refine lv_aload_n hx hb dL_law_289 rfl (lv_at hl 4 rfl) ?_
  refine lv_iload hx hb dL_law_290 (lv_at hl 0 rfl) ?_
  refine lv_iconst (v := 1) hx hb dL_law_292 (by decide) ?_
  refine lv_iadd hx hb dL_law_293 ?_
  refine lo_sld (k := 5 * t + 1) hx hb hB hW hX hbl (by rw [show (1 : Int32) = nI 1 from rfl, nI_add]) (by omega) hL dL_law_294 ?_
  refine lv_aload_n hx hb dL_law_295 rfl (lv_at hl 4 rfl) ?_
  refine lv_iload hx hb dL_law_296 (lv_at hl 0 rfl) ?_
  refine lv_iconst (v := 2) hx hb dL_law_298 (by decide) ?_
  refine lv_iadd hx hb dL_law_299 ?_
  refine lo_sld (k := 5 * t + 2) hx hb hB hW hX hbl (by rw [show (2 : Int32) = nI 2 from rfl, nI_add]) (by omega) hL dL_law_300 ?_
  refine lv_aload_n hx hb dL_law_301 rfl (lv_at hl 4 rfl) ?_
  refine lv_iload hx hb dL_law_302 (lv_at hl 0 rfl) ?_
  refine lv_iconst (v := 3) hx hb dL_law_304 (by decide) ?_
  refine lv_iadd hx hb dL_law_305 ?_
  refine lo_sld (k := 5 * t + 3) hx hb hB hW hX hbl (by rw [show (3 : Int32) = nI 3 from rfl, nI_add]) (by omega) hL dL_law_306 ?_
  refine lv_aload_n hx hb dL_law_307 rfl (lv_at hl 1 rfl) ?_
  refine lo_w (np := 5) (As := [.ref (eA E 0), .int (xs (5 * t + 1)), .int (xs (5 * t + 2)), .int (xs (5 * t + 3)), .ref (eO E)]) (rest := []) hx hb hml hown hB hK hW kcw_L_add kI_RL ⟨by decide +kernel, by decide +kernel⟩ (by decide +kernel) kst_L_add kM_RL_103 (wL_add l hfl hf (tel_c htel)) rfl dL_law_308 rfl hl.1 (Nat.le_of_ble_eq_true rfl) ⟨Nat.le_of_ble_eq_true rfl, Nat.le_of_ble_eq_true rfl⟩ hcs (fun H locs hW => ?_)
  refine lv_istore (lv' := [(5, .int (μ' 20 0)), (4, .int (nI (5 * t))), (3, .ref (eO E)), (2, .ref (eA E 9)), (1, .ref (eA E 0)), (0, .ref b)]) hx hb dL_law_311 hl (by decide) rfl (fun ls hl => ?_)
  refine lv_aload_n hx hb dL_law_313 rfl (lv_at hl 3 rfl) ?_
  refine lv_aload_n hx hb dL_law_314 rfl (lv_at hl 5 rfl) ?_
  refine lv_iload hx hb dL_law_315 (lv_at hl 1 rfl) ?_
  refine lv_iconst (v := 1) hx hb dL_law_317 (by decide) ?_
  refine lv_iadd hx hb dL_law_318 ?_
  refine lo_sld (k := 5 * t + 1) hx hb hB hW hX hbl (by rw [show (1 : Int32) = nI 1 from rfl, nI_add]) (by omega) hL dL_law_319 ?_
  refine lv_aload_n hx hb dL_law_320 rfl (lv_at hl 5 rfl) ?_
  refine lv_iload hx hb dL_law_321 (lv_at hl 1 rfl) ?_
  refine lv_iconst (v := 2) hx hb dL_law_323 (by decide) ?_
  refine lv_iadd hx hb dL_law_324 ?_
  refine lo_sld (k := 5 * t + 2) hx hb hB hW hX hbl (by rw [show (2 : Int32) = nI 2 from rfl, nI_add]) (by omega) hL dL_law_325 ?_
  refine lv_aload_n hx hb dL_law_326 rfl (lv_at hl 5 rfl) ?_
  refine lv_iload hx hb dL_law_327 (lv_at hl 1 rfl) ?_
  refine lv_iconst (v := 3) hx hb dL_law_329 (by decide) ?_
  refine lv_iadd hx hb dL_law_330 ?_
  refine lo_sld (k := 5 * t + 3) hx hb hB hW hX hbl (by rw [show (3 : Int32) = nI 3 from rfl, nI_add]) (by omega) hL dL_law_331 ?_
  refine lo_i (np := 3) (As := [.int (xs (5 * t + 1)), .int (xs (5 * t + 2)), .int (xs (5 * t + 3))]) (rest := []) (q := 9) (T := TX7) (N := 20) hx hb hml hown hB hK hW ⟨⟨kI_RX7, kc_X7_add, ⟨by decide +kernel, by decide +kernel⟩, by decide +kernel⟩, ki_X7_add, ks_X7_add⟩ kM_RL_106 rfl (by decide) (c_fx (by decide)) (mX7_add l hg) rfl dL_law_332 rfl hl.1 (Nat.le_of_ble_eq_true rfl) ⟨Nat.le_of_ble_eq_true rfl, Nat.le_of_ble_eq_true rfl⟩ ⟨hcs.1, hcs.2⟩ (fun H locs hW => ?_)
  refine lv_istore (lv' := [(6, .int r), (5, .int (μ' 20 0)), (4, .int (nI (5 * t))), (3, .ref (eO E)), (2, .ref (eA E 9)), (1, .ref (eA E 0)), (0, .ref b)]) hx hb dL_law_335 hl (by decide) rfl (fun ls hl => ?_)
  refine lv_aload_n hx hb dL_law_337 rfl (lv_at hl 4 rfl) ?_
  refine lo_i (np := 0) (As := []) (rest := []) (q := 9) (T := TX7) (N := 20) hx hb hml hown hB hK hW ⟨⟨kI_RX7, kc_X7_thrown, ⟨by decide +kernel, by decide +kernel⟩, by decide +kernel⟩, ki_X7_thrown, ks_X7_thrown⟩ kM_RL_96 rfl (by decide) (c_fx (by decide)) (mX7_thrown l rfl) rfl dL_law_338 rfl hl.1 (Nat.le_of_ble_eq_true rfl) ⟨Nat.le_of_ble_eq_true rfl, Nat.le_of_ble_eq_true rfl⟩ ⟨hcs.1, hcs.2⟩ (fun H locs hW => ?_)
  refine lv_iload hx hb dL_law_341 (lv_at hl 1 rfl) ?_
  refine lv_icmp_eq (tgt := 348) hx hb dL_law_343 (by decide) (fun c1 => ?_) (fun c1 => absurd rfl c1)
  refine lv_iload hx hb dL_law_348 (lv_at hl 1 rfl) ?_
  refine lv_if_ne (tgt := 365) hx hb dL_law_350 (by decide) (fun c2 => ?_) (fun c2 => ?_)
  · refine lv_goto (tgt := 1677) hx hb dL_law_365 (by decide) ?_
    exact kk _ _ _ _ _ _ _ hR1 hW (lv_sub hl [2, 3, 4, 5, 6] rfl)
  refine lv_aload_n hx hb dL_law_353 rfl (lv_at hl 3 rfl) ?_
  refine lv_iconst (v := 0) hx hb dL_law_354 (by decide) ?_
  refine lo_lald hx hb hK hW dL_law_355 ?_
  refine lv_iload hx hb dL_law_356 (lv_at hl 0 rfl) ?_
  refine lv_i2l (v := (r).toInt64) hx hb dL_law_358 rfl ?_
  refine W.lcmp hx hb dL_law_359 ?_
  rw [tel_r htel c2, lg_cmp_self]
  refine lv_if_eq (tgt := 365) hx hb dL_law_360 (by decide) (fun c3 => ?_) (fun c3 => absurd rfl c3)
  refine lv_goto (tgt := 1677) hx hb dL_law_365 (by decide) ?_
  exact kk _ _ _ _ _ _ _ hR1 hW (lv_sub hl [2, 3, 4, 5, 6] rfl)
set_option maxHeartbeats 4000000 in
set_option maxRecDepth 100000 in
theorem lc_take (hfl : l.stackTraces = false) (hx : p.tables.exec = Jvm.exec) (hb : c.code = code) (hml : c.maxLocals = 9) (hown : s.vm.findClass RL = some m.cls) (hB : s.heap.size = eB E) (hK : Ko E s) (hX : va_X b L xs s s.heap) (hbl : b < s.heap.size) (hL : L ≤ 2560) (h5 : 5 * t + 5 ≤ L) (hcs : cells + 1 ≤ 1157 ∧ slots + 6 ≤ 14449) (hop : ∀ σ μ dg, Rel σ μ dg → ∃ res σ' r μ', fX6_take σ = some (res, σ') ∧ fX7_take μ = some (r, μ') ∧ tel [2] res r (μ' 20 0) ∧ Rel σ' μ' dg) (hRl : Rel σ μ dg) (hW : Lk E σ μ dg w s H locs) (hl : lv_has ls 9 [(4, .int (nI (5 * t))), (3, .ref (eO E)), (2, .ref (eA E 9)), (1, .ref (eA E 0)), (0, .ref b)])
    (kk : ∀ (σ' μ' : Sg) (dg' w' : Int64) (H' : Heap) (locs' : List Loc) (ls' : Array Slot), Rel σ' μ' dg' → Lk E σ' μ' dg' w' s H' locs' → lv_has ls' 9 [(4, .int (nI (5 * t))), (3, .ref (eO E)), (2, .ref (eA E 9)), (1, .ref (eA E 0)), (0, .ref b)] → W p l e room_1 s m args below meth c H' locs' (cells + 1) (slots + 6) Q (F0 m 1677 ls' [])) : W p l e room_1 s m args below meth c H locs cells slots Q (F0 m 368 ls []) := by
  obtain ⟨res, σ', r, μ', hf, hg, htel, hR1⟩ := hop σ μ dg hRl
  refine lv_aload_n hx hb dL_law_368 rfl (lv_at hl 3 rfl) ?_
  refine lv_aload_n hx hb dL_law_369 rfl (lv_at hl 1 rfl) ?_
  refine lo_w (np := 2) (As := [.ref (eA E 0), .ref (eO E)]) (rest := []) hx hb hml hown hB hK hW kcw_L_take kI_RL ⟨by decide +kernel, by decide +kernel⟩ (by decide +kernel) kst_L_take kM_RL_107 (wL_take l hfl hf (tel_c htel)) rfl dL_law_370 rfl hl.1 (Nat.le_of_ble_eq_true rfl) ⟨Nat.le_of_ble_eq_true rfl, Nat.le_of_ble_eq_true rfl⟩ hcs (fun H locs hW => ?_)
  refine lv_istore (lv' := [(5, .int (μ' 20 0)), (4, .int (nI (5 * t))), (3, .ref (eO E)), (2, .ref (eA E 9)), (1, .ref (eA E 0)), (0, .ref b)]) hx hb dL_law_373 hl (by decide) rfl (fun ls hl => ?_)
  refine lv_aload_n hx hb dL_law_375 rfl (lv_at hl 3 rfl) ?_
  refine lo_i (np := 0) (As := []) (rest := []) (q := 9) (T := TX7) (N := 20) hx hb hml hown hB hK hW ⟨⟨kI_RX7, kc_X7_take, ⟨by decide +kernel, by decide +kernel⟩, by decide +kernel⟩, ki_X7_take, ks_X7_take⟩ kM_RL_110 rfl (by decide) (c_fx (by decide)) (mX7_take l hg) rfl dL_law_376 rfl hl.1 (Nat.le_of_ble_eq_true rfl) ⟨Nat.le_of_ble_eq_true rfl, Nat.le_of_ble_eq_true rfl⟩ ⟨hcs.1, hcs.2⟩ (fun H locs hW => ?_)
  refine lv_istore (lv' := [(6, .int r), (5, .int (μ' 20 0)), (4, .int (nI (5 * t))), (3, .ref (eO E)), (2, .ref (eA E 9)), (1, .ref (eA E 0)), (0, .ref b)]) hx hb dL_law_379 hl (by decide) rfl (fun ls hl => ?_)
  refine lv_aload_n hx hb dL_law_381 rfl (lv_at hl 4 rfl) ?_
  refine lo_i (np := 0) (As := []) (rest := []) (q := 9) (T := TX7) (N := 20) hx hb hml hown hB hK hW ⟨⟨kI_RX7, kc_X7_thrown, ⟨by decide +kernel, by decide +kernel⟩, by decide +kernel⟩, ki_X7_thrown, ks_X7_thrown⟩ kM_RL_96 rfl (by decide) (c_fx (by decide)) (mX7_thrown l rfl) rfl dL_law_382 rfl hl.1 (Nat.le_of_ble_eq_true rfl) ⟨Nat.le_of_ble_eq_true rfl, Nat.le_of_ble_eq_true rfl⟩ ⟨hcs.1, hcs.2⟩ (fun H locs hW => ?_)
  refine lv_iload hx hb dL_law_385 (lv_at hl 1 rfl) ?_
  refine lv_icmp_eq (tgt := 392) hx hb dL_law_387 (by decide) (fun c1 => ?_) (fun c1 => absurd rfl c1)
  refine lv_iload hx hb dL_law_392 (lv_at hl 1 rfl) ?_
  refine lv_if_ne (tgt := 409) hx hb dL_law_394 (by decide) (fun c2 => ?_) (fun c2 => ?_)
  · refine lv_goto (tgt := 1677) hx hb dL_law_409 (by decide) ?_
    exact kk _ _ _ _ _ _ _ hR1 hW (lv_sub hl [2, 3, 4, 5, 6] rfl)
  refine lv_aload_n hx hb dL_law_397 rfl (lv_at hl 3 rfl) ?_
  refine lv_iconst (v := 0) hx hb dL_law_398 (by decide) ?_
  refine lo_lald hx hb hK hW dL_law_399 ?_
  refine lv_iload hx hb dL_law_400 (lv_at hl 0 rfl) ?_
  refine lv_i2l (v := (r).toInt64) hx hb dL_law_402 rfl ?_
  refine W.lcmp hx hb dL_law_403 ?_
  rw [tel_r htel c2, lg_cmp_self]
  refine lv_if_eq (tgt := 409) hx hb dL_law_404 (by decide) (fun c3 => ?_) (fun c3 => absurd rfl c3)
  refine lv_goto (tgt := 1677) hx hb dL_law_409 (by decide) ?_
  exact kk _ _ _ _ _ _ _ hR1 hW (lv_sub hl [2, 3, 4, 5, 6] rfl)
set_option maxHeartbeats 4000000 in
set_option maxRecDepth 100000 in
theorem lc_set (hfl : l.stackTraces = false) (hx : p.tables.exec = Jvm.exec) (hb : c.code = code) (hml : c.maxLocals = 9) (hown : s.vm.findClass RL = some m.cls) (hB : s.heap.size = eB E) (hK : Ko E s) (hX : va_X b L xs s s.heap) (hbl : b < s.heap.size) (hL : L ≤ 2560) (h5 : 5 * t + 5 ≤ L) (hcs : cells + 1 ≤ 1157 ∧ slots + 6 ≤ 14449) (hop : ∀ σ μ dg, Rel σ μ dg → ∀ (a1 : Int32) (a2 : Int32), ∃ res σ' r μ', fX6_set a1 a2 σ = some (res, σ') ∧ fX7_set a1 a2 μ = some (r, μ') ∧ tel [1, 0] res r (μ' 20 0) ∧ Rel σ' μ' dg) (hRl : Rel σ μ dg) (hW : Lk E σ μ dg w s H locs) (hl : lv_has ls 9 [(4, .int (nI (5 * t))), (3, .ref (eO E)), (2, .ref (eA E 9)), (1, .ref (eA E 0)), (0, .ref b)])
    (kk : ∀ (σ' μ' : Sg) (dg' w' : Int64) (H' : Heap) (locs' : List Loc) (ls' : Array Slot), Rel σ' μ' dg' → Lk E σ' μ' dg' w' s H' locs' → lv_has ls' 9 [(4, .int (nI (5 * t))), (3, .ref (eO E)), (2, .ref (eA E 9)), (1, .ref (eA E 0)), (0, .ref b)] → W p l e room_1 s m args below meth c H' locs' (cells + 1) (slots + 6) Q (F0 m 1677 ls' [])) : W p l e room_1 s m args below meth c H locs cells slots Q (F0 m 412 ls []) := by
  obtain ⟨res, σ', r, μ', hf, hg, htel, hR1⟩ := hop σ μ dg hRl (xs (5 * t + 1)) (xs (5 * t + 2))
  refine lv_aload_n hx hb dL_law_412 rfl (lv_at hl 3 rfl) ?_
  refine lv_aload_n hx hb dL_law_413 rfl (lv_at hl 4 rfl) ?_
  refine lv_iload hx hb dL_law_414 (lv_at hl 0 rfl) ?_
  refine lv_iconst (v := 1) hx hb dL_law_416 (by decide) ?_
  refine lv_iadd hx hb dL_law_417 ?_
  refine lo_sld (k := 5 * t + 1) hx hb hB hW hX hbl (by rw [show (1 : Int32) = nI 1 from rfl, nI_add]) (by omega) hL dL_law_418 ?_
  refine lv_aload_n hx hb dL_law_419 rfl (lv_at hl 4 rfl) ?_
  refine lv_iload hx hb dL_law_420 (lv_at hl 0 rfl) ?_
  refine lv_iconst (v := 2) hx hb dL_law_422 (by decide) ?_
  refine lv_iadd hx hb dL_law_423 ?_
  refine lo_sld (k := 5 * t + 2) hx hb hB hW hX hbl (by rw [show (2 : Int32) = nI 2 from rfl, nI_add]) (by omega) hL dL_law_424 ?_
  refine lv_aload_n hx hb dL_law_425 rfl (lv_at hl 1 rfl) ?_
  refine lo_w (np := 4) (As := [.ref (eA E 0), .int (xs (5 * t + 1)), .int (xs (5 * t + 2)), .ref (eO E)]) (rest := []) hx hb hml hown hB hK hW kcw_L_set kI_RL ⟨by decide +kernel, by decide +kernel⟩ (by decide +kernel) kst_L_set kM_RL_111 (wL_set l hfl hf (tel_c htel)) rfl dL_law_426 rfl hl.1 (Nat.le_of_ble_eq_true rfl) ⟨Nat.le_of_ble_eq_true rfl, Nat.le_of_ble_eq_true rfl⟩ hcs (fun H locs hW => ?_)
  refine lv_istore (lv' := [(5, .int (μ' 20 0)), (4, .int (nI (5 * t))), (3, .ref (eO E)), (2, .ref (eA E 9)), (1, .ref (eA E 0)), (0, .ref b)]) hx hb dL_law_429 hl (by decide) rfl (fun ls hl => ?_)
  refine lv_aload_n hx hb dL_law_431 rfl (lv_at hl 3 rfl) ?_
  refine lv_aload_n hx hb dL_law_432 rfl (lv_at hl 5 rfl) ?_
  refine lv_iload hx hb dL_law_433 (lv_at hl 1 rfl) ?_
  refine lv_iconst (v := 1) hx hb dL_law_435 (by decide) ?_
  refine lv_iadd hx hb dL_law_436 ?_
  refine lo_sld (k := 5 * t + 1) hx hb hB hW hX hbl (by rw [show (1 : Int32) = nI 1 from rfl, nI_add]) (by omega) hL dL_law_437 ?_
  refine lv_aload_n hx hb dL_law_438 rfl (lv_at hl 5 rfl) ?_
  refine lv_iload hx hb dL_law_439 (lv_at hl 1 rfl) ?_
  refine lv_iconst (v := 2) hx hb dL_law_441 (by decide) ?_
  refine lv_iadd hx hb dL_law_442 ?_
  refine lo_sld (k := 5 * t + 2) hx hb hB hW hX hbl (by rw [show (2 : Int32) = nI 2 from rfl, nI_add]) (by omega) hL dL_law_443 ?_
  refine lo_i (np := 2) (As := [.int (xs (5 * t + 1)), .int (xs (5 * t + 2))]) (rest := []) (q := 9) (T := TX7) (N := 20) hx hb hml hown hB hK hW ⟨⟨kI_RX7, kc_X7_set, ⟨by decide +kernel, by decide +kernel⟩, by decide +kernel⟩, ki_X7_set, ks_X7_set⟩ kM_RL_113 rfl (by decide) (c_fx (by decide)) (mX7_set l hg) rfl dL_law_444 rfl hl.1 (Nat.le_of_ble_eq_true rfl) ⟨Nat.le_of_ble_eq_true rfl, Nat.le_of_ble_eq_true rfl⟩ ⟨hcs.1, hcs.2⟩ (fun H locs hW => ?_)
  refine lv_istore (lv' := [(6, .int r), (5, .int (μ' 20 0)), (4, .int (nI (5 * t))), (3, .ref (eO E)), (2, .ref (eA E 9)), (1, .ref (eA E 0)), (0, .ref b)]) hx hb dL_law_447 hl (by decide) rfl (fun ls hl => ?_)
  refine lv_aload_n hx hb dL_law_449 rfl (lv_at hl 4 rfl) ?_
  refine lo_i (np := 0) (As := []) (rest := []) (q := 9) (T := TX7) (N := 20) hx hb hml hown hB hK hW ⟨⟨kI_RX7, kc_X7_thrown, ⟨by decide +kernel, by decide +kernel⟩, by decide +kernel⟩, ki_X7_thrown, ks_X7_thrown⟩ kM_RL_96 rfl (by decide) (c_fx (by decide)) (mX7_thrown l rfl) rfl dL_law_450 rfl hl.1 (Nat.le_of_ble_eq_true rfl) ⟨Nat.le_of_ble_eq_true rfl, Nat.le_of_ble_eq_true rfl⟩ ⟨hcs.1, hcs.2⟩ (fun H locs hW => ?_)
  refine lv_iload hx hb dL_law_453 (lv_at hl 1 rfl) ?_
  refine lv_icmp_eq (tgt := 460) hx hb dL_law_455 (by decide) (fun c1 => ?_) (fun c1 => absurd rfl c1)
  refine lv_iload hx hb dL_law_460 (lv_at hl 1 rfl) ?_
  refine lv_if_ne (tgt := 477) hx hb dL_law_462 (by decide) (fun c2 => ?_) (fun c2 => ?_)
  · refine lv_goto (tgt := 1677) hx hb dL_law_477 (by decide) ?_
    exact kk _ _ _ _ _ _ _ hR1 hW (lv_sub hl [2, 3, 4, 5, 6] rfl)
  refine lv_aload_n hx hb dL_law_465 rfl (lv_at hl 3 rfl) ?_
  refine lv_iconst (v := 0) hx hb dL_law_466 (by decide) ?_
  refine lo_lald hx hb hK hW dL_law_467 ?_
  refine lv_iload hx hb dL_law_468 (lv_at hl 0 rfl) ?_
  refine lv_i2l (v := (r).toInt64) hx hb dL_law_470 rfl ?_
  refine W.lcmp hx hb dL_law_471 ?_
  rw [tel_r htel c2, lg_cmp_self]
  refine lv_if_eq (tgt := 477) hx hb dL_law_472 (by decide) (fun c3 => ?_) (fun c3 => absurd rfl c3)
  refine lv_goto (tgt := 1677) hx hb dL_law_477 (by decide) ?_
  exact kk _ _ _ _ _ _ _ hR1 hW (lv_sub hl [2, 3, 4, 5, 6] rfl)
set_option maxHeartbeats 4000000 in
set_option maxRecDepth 100000 in
theorem lc_code (hfl : l.stackTraces = false) (hx : p.tables.exec = Jvm.exec) (hb : c.code = code) (hml : c.maxLocals = 9) (hown : s.vm.findClass RL = some m.cls) (hB : s.heap.size = eB E) (hK : Ko E s) (hX : va_X b L xs s s.heap) (hbl : b < s.heap.size) (hL : L ≤ 2560) (h5 : 5 * t + 5 ≤ L) (hcs : cells + 1 ≤ 1157 ∧ slots + 6 ≤ 14449) (hop : ∀ σ μ dg, Rel σ μ dg → ∃ r σ' μ', fX6_code σ = some (r, σ') ∧ fX7_code μ = some (r, μ') ∧ Rel σ' μ' dg) (hRl : Rel σ μ dg) (hW : Lk E σ μ dg w s H locs) (hl : lv_has ls 9 [(4, .int (nI (5 * t))), (3, .ref (eO E)), (2, .ref (eA E 9)), (1, .ref (eA E 0)), (0, .ref b)])
    (kk : ∀ (σ' μ' : Sg) (dg' w' : Int64) (H' : Heap) (locs' : List Loc) (ls' : Array Slot), Rel σ' μ' dg' → Lk E σ' μ' dg' w' s H' locs' → lv_has ls' 9 [(4, .int (nI (5 * t))), (3, .ref (eO E)), (2, .ref (eA E 9)), (1, .ref (eA E 0)), (0, .ref b)] → W p l e room_1 s m args below meth c H' locs' (cells + 1) (slots + 6) Q (F0 m 1677 ls' [])) : W p l e room_1 s m args below meth c H locs cells slots Q (F0 m 480 ls []) := by
  obtain ⟨r, σ', μ', hf, hg, hR1⟩ := hop σ μ dg hRl
  refine lv_aload_n hx hb dL_law_480 rfl (lv_at hl 3 rfl) ?_
  refine lo_i (np := 0) (As := []) (rest := []) (q := 0) (T := TX6) (N := 9) hx hb hml hown hB hK hW ⟨⟨kI_RX6, kc_X6_code, ⟨by decide +kernel, by decide +kernel⟩, by decide +kernel⟩, ki_X6_code, ks_X6_code⟩ kM_RL_114 rfl (by decide) (c_fx (by decide)) (mX6_code l  hf) rfl dL_law_481 rfl hl.1 (Nat.le_of_ble_eq_true rfl) ⟨Nat.le_of_ble_eq_true rfl, Nat.le_of_ble_eq_true rfl⟩ ⟨show cells ≤ 1157 by have := hcs.1; omega, show slots ≤ 14449 by have := hcs.2; omega⟩ (fun H locs hW => ?_)
  refine lv_aload_n hx hb dL_law_484 rfl (lv_at hl 2 rfl) ?_
  refine lo_i (np := 0) (As := []) (rest := [.int r]) (q := 9) (T := TX7) (N := 20) hx hb hml hown hB hK hW ⟨⟨kI_RX7, kc_X7_code, ⟨by decide +kernel, by decide +kernel⟩, by decide +kernel⟩, ki_X7_code, ks_X7_code⟩ kM_RL_117 rfl (by decide) (c_fx (by decide)) (mX7_code l  hg) rfl dL_law_485 rfl hl.1 (Nat.le_of_ble_eq_true rfl) ⟨Nat.le_of_ble_eq_true rfl, Nat.le_of_ble_eq_true rfl⟩ ⟨show cells ≤ 1157 by have := hcs.1; omega, show slots ≤ 14449 by have := hcs.2; omega⟩ (fun H locs hW => ?_)
  refine lv_icmp_eq (tgt := 1677) hx hb dL_law_488 (by decide) (fun c1 => ?_) (fun c1 => absurd rfl c1)
  exact W.widen (by omega) (by omega) (kk _ _ _ _ _ _ _ hR1 hW (lv_sub hl [0, 1, 2, 3, 4] rfl))
set_option maxHeartbeats 4000000 in
set_option maxRecDepth 100000 in
theorem lc_lose (hfl : l.stackTraces = false) (hx : p.tables.exec = Jvm.exec) (hb : c.code = code) (hml : c.maxLocals = 9) (hown : s.vm.findClass RL = some m.cls) (hB : s.heap.size = eB E) (hK : Ko E s) (hX : va_X b L xs s s.heap) (hbl : b < s.heap.size) (hL : L ≤ 2560) (h5 : 5 * t + 5 ≤ L) (hcs : cells + 1 ≤ 1157 ∧ slots + 6 ≤ 14449) (hop : ∀ σ μ dg, Rel σ μ dg → ∀ (a1 : Int32), ∃ res σ' r μ', fX6_lose a1 σ = some (res, σ') ∧ fX7_lose a1 μ = some (r, μ') ∧ tel [1] res r (μ' 20 0) ∧ Rel σ' μ' dg) (hRl : Rel σ μ dg) (hW : Lk E σ μ dg w s H locs) (hl : lv_has ls 9 [(4, .int (nI (5 * t))), (3, .ref (eO E)), (2, .ref (eA E 9)), (1, .ref (eA E 0)), (0, .ref b)])
    (kk : ∀ (σ' μ' : Sg) (dg' w' : Int64) (H' : Heap) (locs' : List Loc) (ls' : Array Slot), Rel σ' μ' dg' → Lk E σ' μ' dg' w' s H' locs' → lv_has ls' 9 [(4, .int (nI (5 * t))), (3, .ref (eO E)), (2, .ref (eA E 9)), (1, .ref (eA E 0)), (0, .ref b)] → W p l e room_1 s m args below meth c H' locs' (cells + 1) (slots + 6) Q (F0 m 1677 ls' [])) : W p l e room_1 s m args below meth c H locs cells slots Q (F0 m 493 ls []) := by
  obtain ⟨res, σ', r, μ', hf, hg, htel, hR1⟩ := hop σ μ dg hRl (xs (5 * t + 1))
  refine lv_aload_n hx hb dL_law_493 rfl (lv_at hl 3 rfl) ?_
  refine lv_aload_n hx hb dL_law_494 rfl (lv_at hl 4 rfl) ?_
  refine lv_iload hx hb dL_law_495 (lv_at hl 0 rfl) ?_
  refine lv_iconst (v := 1) hx hb dL_law_497 (by decide) ?_
  refine lv_iadd hx hb dL_law_498 ?_
  refine lo_sld (k := 5 * t + 1) hx hb hB hW hX hbl (by rw [show (1 : Int32) = nI 1 from rfl, nI_add]) (by omega) hL dL_law_499 ?_
  refine lv_aload_n hx hb dL_law_500 rfl (lv_at hl 1 rfl) ?_
  refine lo_w (np := 3) (As := [.ref (eA E 0), .int (xs (5 * t + 1)), .ref (eO E)]) (rest := []) hx hb hml hown hB hK hW kcw_L_lose kI_RL ⟨by decide +kernel, by decide +kernel⟩ (by decide +kernel) kst_L_lose kM_RL_118 (wL_lose l hfl hf (tel_c htel)) rfl dL_law_501 rfl hl.1 (Nat.le_of_ble_eq_true rfl) ⟨Nat.le_of_ble_eq_true rfl, Nat.le_of_ble_eq_true rfl⟩ hcs (fun H locs hW => ?_)
  refine lv_istore (lv' := [(5, .int (μ' 20 0)), (4, .int (nI (5 * t))), (3, .ref (eO E)), (2, .ref (eA E 9)), (1, .ref (eA E 0)), (0, .ref b)]) hx hb dL_law_504 hl (by decide) rfl (fun ls hl => ?_)
  refine lv_aload_n hx hb dL_law_506 rfl (lv_at hl 3 rfl) ?_
  refine lv_aload_n hx hb dL_law_507 rfl (lv_at hl 5 rfl) ?_
  refine lv_iload hx hb dL_law_508 (lv_at hl 1 rfl) ?_
  refine lv_iconst (v := 1) hx hb dL_law_510 (by decide) ?_
  refine lv_iadd hx hb dL_law_511 ?_
  refine lo_sld (k := 5 * t + 1) hx hb hB hW hX hbl (by rw [show (1 : Int32) = nI 1 from rfl, nI_add]) (by omega) hL dL_law_512 ?_
  refine lo_i (np := 1) (As := [.int (xs (5 * t + 1))]) (rest := []) (q := 9) (T := TX7) (N := 20) hx hb hml hown hB hK hW ⟨⟨kI_RX7, kc_X7_lose, ⟨by decide +kernel, by decide +kernel⟩, by decide +kernel⟩, ki_X7_lose, ks_X7_lose⟩ kM_RL_120 rfl (by decide) (c_fx (by decide)) (mX7_lose l hg) rfl dL_law_513 rfl hl.1 (Nat.le_of_ble_eq_true rfl) ⟨Nat.le_of_ble_eq_true rfl, Nat.le_of_ble_eq_true rfl⟩ ⟨hcs.1, hcs.2⟩ (fun H locs hW => ?_)
  refine lv_istore (lv' := [(6, .int r), (5, .int (μ' 20 0)), (4, .int (nI (5 * t))), (3, .ref (eO E)), (2, .ref (eA E 9)), (1, .ref (eA E 0)), (0, .ref b)]) hx hb dL_law_516 hl (by decide) rfl (fun ls hl => ?_)
  refine lv_aload_n hx hb dL_law_518 rfl (lv_at hl 4 rfl) ?_
  refine lo_i (np := 0) (As := []) (rest := []) (q := 9) (T := TX7) (N := 20) hx hb hml hown hB hK hW ⟨⟨kI_RX7, kc_X7_thrown, ⟨by decide +kernel, by decide +kernel⟩, by decide +kernel⟩, ki_X7_thrown, ks_X7_thrown⟩ kM_RL_96 rfl (by decide) (c_fx (by decide)) (mX7_thrown l rfl) rfl dL_law_519 rfl hl.1 (Nat.le_of_ble_eq_true rfl) ⟨Nat.le_of_ble_eq_true rfl, Nat.le_of_ble_eq_true rfl⟩ ⟨hcs.1, hcs.2⟩ (fun H locs hW => ?_)
  refine lv_iload hx hb dL_law_522 (lv_at hl 1 rfl) ?_
  refine lv_icmp_eq (tgt := 529) hx hb dL_law_524 (by decide) (fun c1 => ?_) (fun c1 => absurd rfl c1)
  refine lv_iload hx hb dL_law_529 (lv_at hl 1 rfl) ?_
  refine lv_if_ne (tgt := 546) hx hb dL_law_531 (by decide) (fun c2 => ?_) (fun c2 => ?_)
  · refine lv_goto (tgt := 1677) hx hb dL_law_546 (by decide) ?_
    exact kk _ _ _ _ _ _ _ hR1 hW (lv_sub hl [2, 3, 4, 5, 6] rfl)
  refine lv_aload_n hx hb dL_law_534 rfl (lv_at hl 3 rfl) ?_
  refine lv_iconst (v := 0) hx hb dL_law_535 (by decide) ?_
  refine lo_lald hx hb hK hW dL_law_536 ?_
  refine lv_iload hx hb dL_law_537 (lv_at hl 0 rfl) ?_
  refine lv_i2l (v := (r).toInt64) hx hb dL_law_539 rfl ?_
  refine W.lcmp hx hb dL_law_540 ?_
  rw [tel_r htel c2, lg_cmp_self]
  refine lv_if_eq (tgt := 546) hx hb dL_law_541 (by decide) (fun c3 => ?_) (fun c3 => absurd rfl c3)
  refine lv_goto (tgt := 1677) hx hb dL_law_546 (by decide) ?_
  exact kk _ _ _ _ _ _ _ hR1 hW (lv_sub hl [2, 3, 4, 5, 6] rfl)
set_option maxHeartbeats 4000000 in
set_option maxRecDepth 100000 in
theorem lc_spoil (hfl : l.stackTraces = false) (hx : p.tables.exec = Jvm.exec) (hb : c.code = code) (hml : c.maxLocals = 9) (hown : s.vm.findClass RL = some m.cls) (hB : s.heap.size = eB E) (hK : Ko E s) (hX : va_X b L xs s s.heap) (hbl : b < s.heap.size) (hL : L ≤ 2560) (h5 : 5 * t + 5 ≤ L) (hcs : cells + 1 ≤ 1157 ∧ slots + 6 ≤ 14449) (hop : ∀ σ μ dg, Rel σ μ dg → ∀ (a1 : Int32) (a2 : Int32), ∃ res σ' r μ', fX6_spoil a1 a2 σ = some (res, σ') ∧ fX7_spoil a1 a2 μ = some (r, μ') ∧ tel [1, 0] res r (μ' 20 0) ∧ Rel σ' μ' dg) (hRl : Rel σ μ dg) (hW : Lk E σ μ dg w s H locs) (hl : lv_has ls 9 [(4, .int (nI (5 * t))), (3, .ref (eO E)), (2, .ref (eA E 9)), (1, .ref (eA E 0)), (0, .ref b)])
    (kk : ∀ (σ' μ' : Sg) (dg' w' : Int64) (H' : Heap) (locs' : List Loc) (ls' : Array Slot), Rel σ' μ' dg' → Lk E σ' μ' dg' w' s H' locs' → lv_has ls' 9 [(4, .int (nI (5 * t))), (3, .ref (eO E)), (2, .ref (eA E 9)), (1, .ref (eA E 0)), (0, .ref b)] → W p l e room_1 s m args below meth c H' locs' (cells + 1) (slots + 6) Q (F0 m 1677 ls' [])) : W p l e room_1 s m args below meth c H locs cells slots Q (F0 m 549 ls []) := by
  obtain ⟨res, σ', r, μ', hf, hg, htel, hR1⟩ := hop σ μ dg hRl (xs (5 * t + 1)) (xs (5 * t + 2))
  refine lv_aload_n hx hb dL_law_549 rfl (lv_at hl 3 rfl) ?_
  refine lv_aload_n hx hb dL_law_550 rfl (lv_at hl 4 rfl) ?_
  refine lv_iload hx hb dL_law_551 (lv_at hl 0 rfl) ?_
  refine lv_iconst (v := 1) hx hb dL_law_553 (by decide) ?_
  refine lv_iadd hx hb dL_law_554 ?_
  refine lo_sld (k := 5 * t + 1) hx hb hB hW hX hbl (by rw [show (1 : Int32) = nI 1 from rfl, nI_add]) (by omega) hL dL_law_555 ?_
  refine lv_aload_n hx hb dL_law_556 rfl (lv_at hl 4 rfl) ?_
  refine lv_iload hx hb dL_law_557 (lv_at hl 0 rfl) ?_
  refine lv_iconst (v := 2) hx hb dL_law_559 (by decide) ?_
  refine lv_iadd hx hb dL_law_560 ?_
  refine lo_sld (k := 5 * t + 2) hx hb hB hW hX hbl (by rw [show (2 : Int32) = nI 2 from rfl, nI_add]) (by omega) hL dL_law_561 ?_
  refine lv_aload_n hx hb dL_law_562 rfl (lv_at hl 1 rfl) ?_
  refine lo_w (np := 4) (As := [.ref (eA E 0), .int (xs (5 * t + 1)), .int (xs (5 * t + 2)), .ref (eO E)]) (rest := []) hx hb hml hown hB hK hW kcw_L_spoil kI_RL ⟨by decide +kernel, by decide +kernel⟩ (by decide +kernel) kst_L_spoil kM_RL_121 (wL_spoil l hfl hf (tel_c htel)) rfl dL_law_563 rfl hl.1 (Nat.le_of_ble_eq_true rfl) ⟨Nat.le_of_ble_eq_true rfl, Nat.le_of_ble_eq_true rfl⟩ hcs (fun H locs hW => ?_)
  refine lv_istore (lv' := [(5, .int (μ' 20 0)), (4, .int (nI (5 * t))), (3, .ref (eO E)), (2, .ref (eA E 9)), (1, .ref (eA E 0)), (0, .ref b)]) hx hb dL_law_566 hl (by decide) rfl (fun ls hl => ?_)
  refine lv_aload_n hx hb dL_law_568 rfl (lv_at hl 3 rfl) ?_
  refine lv_aload_n hx hb dL_law_569 rfl (lv_at hl 5 rfl) ?_
  refine lv_iload hx hb dL_law_570 (lv_at hl 1 rfl) ?_
  refine lv_iconst (v := 1) hx hb dL_law_572 (by decide) ?_
  refine lv_iadd hx hb dL_law_573 ?_
  refine lo_sld (k := 5 * t + 1) hx hb hB hW hX hbl (by rw [show (1 : Int32) = nI 1 from rfl, nI_add]) (by omega) hL dL_law_574 ?_
  refine lv_aload_n hx hb dL_law_575 rfl (lv_at hl 5 rfl) ?_
  refine lv_iload hx hb dL_law_576 (lv_at hl 1 rfl) ?_
  refine lv_iconst (v := 2) hx hb dL_law_578 (by decide) ?_
  refine lv_iadd hx hb dL_law_579 ?_
  refine lo_sld (k := 5 * t + 2) hx hb hB hW hX hbl (by rw [show (2 : Int32) = nI 2 from rfl, nI_add]) (by omega) hL dL_law_580 ?_
  refine lo_i (np := 2) (As := [.int (xs (5 * t + 1)), .int (xs (5 * t + 2))]) (rest := []) (q := 9) (T := TX7) (N := 20) hx hb hml hown hB hK hW ⟨⟨kI_RX7, kc_X7_spoil, ⟨by decide +kernel, by decide +kernel⟩, by decide +kernel⟩, ki_X7_spoil, ks_X7_spoil⟩ kM_RL_123 rfl (by decide) (c_fx (by decide)) (mX7_spoil l hg) rfl dL_law_581 rfl hl.1 (Nat.le_of_ble_eq_true rfl) ⟨Nat.le_of_ble_eq_true rfl, Nat.le_of_ble_eq_true rfl⟩ ⟨hcs.1, hcs.2⟩ (fun H locs hW => ?_)
  refine lv_istore (lv' := [(6, .int r), (5, .int (μ' 20 0)), (4, .int (nI (5 * t))), (3, .ref (eO E)), (2, .ref (eA E 9)), (1, .ref (eA E 0)), (0, .ref b)]) hx hb dL_law_584 hl (by decide) rfl (fun ls hl => ?_)
  refine lv_aload_n hx hb dL_law_586 rfl (lv_at hl 4 rfl) ?_
  refine lo_i (np := 0) (As := []) (rest := []) (q := 9) (T := TX7) (N := 20) hx hb hml hown hB hK hW ⟨⟨kI_RX7, kc_X7_thrown, ⟨by decide +kernel, by decide +kernel⟩, by decide +kernel⟩, ki_X7_thrown, ks_X7_thrown⟩ kM_RL_96 rfl (by decide) (c_fx (by decide)) (mX7_thrown l rfl) rfl dL_law_587 rfl hl.1 (Nat.le_of_ble_eq_true rfl) ⟨Nat.le_of_ble_eq_true rfl, Nat.le_of_ble_eq_true rfl⟩ ⟨hcs.1, hcs.2⟩ (fun H locs hW => ?_)
  refine lv_iload hx hb dL_law_590 (lv_at hl 1 rfl) ?_
  refine lv_icmp_eq (tgt := 597) hx hb dL_law_592 (by decide) (fun c1 => ?_) (fun c1 => absurd rfl c1)
  refine lv_iload hx hb dL_law_597 (lv_at hl 1 rfl) ?_
  refine lv_if_ne (tgt := 614) hx hb dL_law_599 (by decide) (fun c2 => ?_) (fun c2 => ?_)
  · refine lv_goto (tgt := 1677) hx hb dL_law_614 (by decide) ?_
    exact kk _ _ _ _ _ _ _ hR1 hW (lv_sub hl [2, 3, 4, 5, 6] rfl)
  refine lv_aload_n hx hb dL_law_602 rfl (lv_at hl 3 rfl) ?_
  refine lv_iconst (v := 0) hx hb dL_law_603 (by decide) ?_
  refine lo_lald hx hb hK hW dL_law_604 ?_
  refine lv_iload hx hb dL_law_605 (lv_at hl 0 rfl) ?_
  refine lv_i2l (v := (r).toInt64) hx hb dL_law_607 rfl ?_
  refine W.lcmp hx hb dL_law_608 ?_
  rw [tel_r htel c2, lg_cmp_self]
  refine lv_if_eq (tgt := 614) hx hb dL_law_609 (by decide) (fun c3 => ?_) (fun c3 => absurd rfl c3)
  refine lv_goto (tgt := 1677) hx hb dL_law_614 (by decide) ?_
  exact kk _ _ _ _ _ _ _ hR1 hW (lv_sub hl [2, 3, 4, 5, 6] rfl)
set_option maxHeartbeats 4000000 in
set_option maxRecDepth 100000 in
theorem lc_append (hfl : l.stackTraces = false) (hx : p.tables.exec = Jvm.exec) (hb : c.code = code) (hml : c.maxLocals = 9) (hown : s.vm.findClass RL = some m.cls) (hB : s.heap.size = eB E) (hK : Ko E s) (hX : va_X b L xs s s.heap) (hbl : b < s.heap.size) (hL : L ≤ 2560) (h5 : 5 * t + 5 ≤ L) (hcs : cells + 1 ≤ 1157 ∧ slots + 6 ≤ 14449) (hop : ∀ σ μ dg, Rel σ μ dg → ∀ (a1 : Int32), ∃ res σ' r μ', fX6_append a1 σ = some (res, σ') ∧ fX7_append a1 μ = some (r, μ') ∧ tel [0, 2] res r (μ' 20 0) ∧ Rel σ' μ' dg) (hRl : Rel σ μ dg) (hW : Lk E σ μ dg w s H locs) (hl : lv_has ls 9 [(4, .int (nI (5 * t))), (3, .ref (eO E)), (2, .ref (eA E 9)), (1, .ref (eA E 0)), (0, .ref b)])
    (kk : ∀ (σ' μ' : Sg) (dg' w' : Int64) (H' : Heap) (locs' : List Loc) (ls' : Array Slot), Rel σ' μ' dg' → Lk E σ' μ' dg' w' s H' locs' → lv_has ls' 9 [(4, .int (nI (5 * t))), (3, .ref (eO E)), (2, .ref (eA E 9)), (1, .ref (eA E 0)), (0, .ref b)] → W p l e room_1 s m args below meth c H' locs' (cells + 1) (slots + 6) Q (F0 m 1677 ls' [])) : W p l e room_1 s m args below meth c H locs cells slots Q (F0 m 617 ls []) := by
  obtain ⟨res, σ', r, μ', hf, hg, htel, hR1⟩ := hop σ μ dg hRl (xs (5 * t + 1))
  refine lv_aload_n hx hb dL_law_617 rfl (lv_at hl 3 rfl) ?_
  refine lv_aload_n hx hb dL_law_618 rfl (lv_at hl 4 rfl) ?_
  refine lv_iload hx hb dL_law_619 (lv_at hl 0 rfl) ?_
  refine lv_iconst (v := 1) hx hb dL_law_621 (by decide) ?_
  refine lv_iadd hx hb dL_law_622 ?_
  refine lo_sld (k := 5 * t + 1) hx hb hB hW hX hbl (by rw [show (1 : Int32) = nI 1 from rfl, nI_add]) (by omega) hL dL_law_623 ?_
  refine lv_aload_n hx hb dL_law_624 rfl (lv_at hl 1 rfl) ?_
  refine lo_w (np := 3) (As := [.ref (eA E 0), .int (xs (5 * t + 1)), .ref (eO E)]) (rest := []) hx hb hml hown hB hK hW kcw_L_append kI_RL ⟨by decide +kernel, by decide +kernel⟩ (by decide +kernel) kst_L_append kM_RL_124 (wL_append l hfl hf (tel_c htel)) rfl dL_law_625 rfl hl.1 (Nat.le_of_ble_eq_true rfl) ⟨Nat.le_of_ble_eq_true rfl, Nat.le_of_ble_eq_true rfl⟩ hcs (fun H locs hW => ?_)
  refine lv_istore (lv' := [(5, .int (μ' 20 0)), (4, .int (nI (5 * t))), (3, .ref (eO E)), (2, .ref (eA E 9)), (1, .ref (eA E 0)), (0, .ref b)]) hx hb dL_law_628 hl (by decide) rfl (fun ls hl => ?_)
  refine lv_aload_n hx hb dL_law_630 rfl (lv_at hl 3 rfl) ?_
  refine lv_aload_n hx hb dL_law_631 rfl (lv_at hl 5 rfl) ?_
  refine lv_iload hx hb dL_law_632 (lv_at hl 1 rfl) ?_
  refine lv_iconst (v := 1) hx hb dL_law_634 (by decide) ?_
  refine lv_iadd hx hb dL_law_635 ?_
  refine lo_sld (k := 5 * t + 1) hx hb hB hW hX hbl (by rw [show (1 : Int32) = nI 1 from rfl, nI_add]) (by omega) hL dL_law_636 ?_
  refine lo_i (np := 1) (As := [.int (xs (5 * t + 1))]) (rest := []) (q := 9) (T := TX7) (N := 20) hx hb hml hown hB hK hW ⟨⟨kI_RX7, kc_X7_append, ⟨by decide +kernel, by decide +kernel⟩, by decide +kernel⟩, ki_X7_append, ks_X7_append⟩ kM_RL_126 rfl (by decide) (c_fx (by decide)) (mX7_append l hg) rfl dL_law_637 rfl hl.1 (Nat.le_of_ble_eq_true rfl) ⟨Nat.le_of_ble_eq_true rfl, Nat.le_of_ble_eq_true rfl⟩ ⟨hcs.1, hcs.2⟩ (fun H locs hW => ?_)
  refine lv_istore (lv' := [(6, .int r), (5, .int (μ' 20 0)), (4, .int (nI (5 * t))), (3, .ref (eO E)), (2, .ref (eA E 9)), (1, .ref (eA E 0)), (0, .ref b)]) hx hb dL_law_640 hl (by decide) rfl (fun ls hl => ?_)
  refine lv_aload_n hx hb dL_law_642 rfl (lv_at hl 4 rfl) ?_
  refine lo_i (np := 0) (As := []) (rest := []) (q := 9) (T := TX7) (N := 20) hx hb hml hown hB hK hW ⟨⟨kI_RX7, kc_X7_thrown, ⟨by decide +kernel, by decide +kernel⟩, by decide +kernel⟩, ki_X7_thrown, ks_X7_thrown⟩ kM_RL_96 rfl (by decide) (c_fx (by decide)) (mX7_thrown l rfl) rfl dL_law_643 rfl hl.1 (Nat.le_of_ble_eq_true rfl) ⟨Nat.le_of_ble_eq_true rfl, Nat.le_of_ble_eq_true rfl⟩ ⟨hcs.1, hcs.2⟩ (fun H locs hW => ?_)
  refine lv_iload hx hb dL_law_646 (lv_at hl 1 rfl) ?_
  refine lv_icmp_eq (tgt := 653) hx hb dL_law_648 (by decide) (fun c1 => ?_) (fun c1 => absurd rfl c1)
  refine lv_iload hx hb dL_law_653 (lv_at hl 1 rfl) ?_
  refine lv_if_ne (tgt := 670) hx hb dL_law_655 (by decide) (fun c2 => ?_) (fun c2 => ?_)
  · refine lv_goto (tgt := 1677) hx hb dL_law_670 (by decide) ?_
    exact kk _ _ _ _ _ _ _ hR1 hW (lv_sub hl [2, 3, 4, 5, 6] rfl)
  refine lv_aload_n hx hb dL_law_658 rfl (lv_at hl 3 rfl) ?_
  refine lv_iconst (v := 0) hx hb dL_law_659 (by decide) ?_
  refine lo_lald hx hb hK hW dL_law_660 ?_
  refine lv_iload hx hb dL_law_661 (lv_at hl 0 rfl) ?_
  refine lv_i2l (v := (r).toInt64) hx hb dL_law_663 rfl ?_
  refine W.lcmp hx hb dL_law_664 ?_
  rw [tel_r htel c2, lg_cmp_self]
  refine lv_if_eq (tgt := 670) hx hb dL_law_665 (by decide) (fun c3 => ?_) (fun c3 => absurd rfl c3)
  refine lv_goto (tgt := 1677) hx hb dL_law_670 (by decide) ?_
  exact kk _ _ _ _ _ _ _ hR1 hW (lv_sub hl [2, 3, 4, 5, 6] rfl)
set_option maxHeartbeats 4000000 in
set_option maxRecDepth 100000 in
theorem lc_clearBuffer (hfl : l.stackTraces = false) (hx : p.tables.exec = Jvm.exec) (hb : c.code = code) (hml : c.maxLocals = 9) (hown : s.vm.findClass RL = some m.cls) (hB : s.heap.size = eB E) (hK : Ko E s) (hX : va_X b L xs s s.heap) (hbl : b < s.heap.size) (hL : L ≤ 2560) (h5 : 5 * t + 5 ≤ L) (hcs : cells + 1 ≤ 1157 ∧ slots + 6 ≤ 14449) (hop : ∀ σ μ dg, Rel σ μ dg → ∃ r σ' μ', fX6_clearBuffer σ = some (r, σ') ∧ fX7_clearBuffer μ = some (r, μ') ∧ Rel σ' μ' dg) (hRl : Rel σ μ dg) (hW : Lk E σ μ dg w s H locs) (hl : lv_has ls 9 [(4, .int (nI (5 * t))), (3, .ref (eO E)), (2, .ref (eA E 9)), (1, .ref (eA E 0)), (0, .ref b)])
    (kk : ∀ (σ' μ' : Sg) (dg' w' : Int64) (H' : Heap) (locs' : List Loc) (ls' : Array Slot), Rel σ' μ' dg' → Lk E σ' μ' dg' w' s H' locs' → lv_has ls' 9 [(4, .int (nI (5 * t))), (3, .ref (eO E)), (2, .ref (eA E 9)), (1, .ref (eA E 0)), (0, .ref b)] → W p l e room_1 s m args below meth c H' locs' (cells + 1) (slots + 6) Q (F0 m 1677 ls' [])) : W p l e room_1 s m args below meth c H locs cells slots Q (F0 m 673 ls []) := by
  obtain ⟨r, σ', μ', hf, hg, hR1⟩ := hop σ μ dg hRl
  refine lv_aload_n hx hb dL_law_673 rfl (lv_at hl 3 rfl) ?_
  refine lo_i (np := 0) (As := []) (rest := []) (q := 0) (T := TX6) (N := 9) hx hb hml hown hB hK hW ⟨⟨kI_RX6, kc_X6_clearBuffer, ⟨by decide +kernel, by decide +kernel⟩, by decide +kernel⟩, ki_X6_clearBuffer, ks_X6_clearBuffer⟩ kM_RL_127 rfl (by decide) (c_fx (by decide)) (mX6_clearBuffer l  hf) rfl dL_law_674 rfl hl.1 (Nat.le_of_ble_eq_true rfl) ⟨Nat.le_of_ble_eq_true rfl, Nat.le_of_ble_eq_true rfl⟩ ⟨show cells ≤ 1157 by have := hcs.1; omega, show slots ≤ 14449 by have := hcs.2; omega⟩ (fun H locs hW => ?_)
  refine lv_aload_n hx hb dL_law_677 rfl (lv_at hl 2 rfl) ?_
  refine lo_i (np := 0) (As := []) (rest := [.int r]) (q := 9) (T := TX7) (N := 20) hx hb hml hown hB hK hW ⟨⟨kI_RX7, kc_X7_clearBuffer, ⟨by decide +kernel, by decide +kernel⟩, by decide +kernel⟩, ki_X7_clearBuffer, ks_X7_clearBuffer⟩ kM_RL_130 rfl (by decide) (c_fx (by decide)) (mX7_clearBuffer l  hg) rfl dL_law_678 rfl hl.1 (Nat.le_of_ble_eq_true rfl) ⟨Nat.le_of_ble_eq_true rfl, Nat.le_of_ble_eq_true rfl⟩ ⟨show cells ≤ 1157 by have := hcs.1; omega, show slots ≤ 14449 by have := hcs.2; omega⟩ (fun H locs hW => ?_)
  refine lv_icmp_eq (tgt := 1677) hx hb dL_law_681 (by decide) (fun c1 => ?_) (fun c1 => absurd rfl c1)
  exact W.widen (by omega) (by omega) (kk _ _ _ _ _ _ _ hR1 hW (lv_sub hl [0, 1, 2, 3, 4] rfl))
set_option maxHeartbeats 4000000 in
set_option maxRecDepth 100000 in
theorem lc_firstError (hfl : l.stackTraces = false) (hx : p.tables.exec = Jvm.exec) (hb : c.code = code) (hml : c.maxLocals = 9) (hown : s.vm.findClass RL = some m.cls) (hB : s.heap.size = eB E) (hK : Ko E s) (hX : va_X b L xs s s.heap) (hbl : b < s.heap.size) (hL : L ≤ 2560) (h5 : 5 * t + 5 ≤ L) (hcs : cells + 1 ≤ 1157 ∧ slots + 6 ≤ 14449) (hop : ∀ σ μ dg, Rel σ μ dg → ∃ r σ' μ', fX6_firstError σ = some (r, σ') ∧ fX7_firstError μ = some (r, μ') ∧ Rel σ' μ' dg) (hRl : Rel σ μ dg) (hW : Lk E σ μ dg w s H locs) (hl : lv_has ls 9 [(4, .int (nI (5 * t))), (3, .ref (eO E)), (2, .ref (eA E 9)), (1, .ref (eA E 0)), (0, .ref b)])
    (kk : ∀ (σ' μ' : Sg) (dg' w' : Int64) (H' : Heap) (locs' : List Loc) (ls' : Array Slot), Rel σ' μ' dg' → Lk E σ' μ' dg' w' s H' locs' → lv_has ls' 9 [(4, .int (nI (5 * t))), (3, .ref (eO E)), (2, .ref (eA E 9)), (1, .ref (eA E 0)), (0, .ref b)] → W p l e room_1 s m args below meth c H' locs' (cells + 1) (slots + 6) Q (F0 m 1677 ls' [])) : W p l e room_1 s m args below meth c H locs cells slots Q (F0 m 686 ls []) := by
  obtain ⟨r, σ', μ', hf, hg, hR1⟩ := hop σ μ dg hRl
  refine lv_aload_n hx hb dL_law_686 rfl (lv_at hl 3 rfl) ?_
  refine lo_i (np := 0) (As := []) (rest := []) (q := 0) (T := TX6) (N := 9) hx hb hml hown hB hK hW ⟨⟨kI_RX6, kc_X6_firstError, ⟨by decide +kernel, by decide +kernel⟩, by decide +kernel⟩, ki_X6_firstError, ks_X6_firstError⟩ kM_RL_131 rfl (by decide) (c_fx (by decide)) (mX6_firstError l  hf) rfl dL_law_687 rfl hl.1 (Nat.le_of_ble_eq_true rfl) ⟨Nat.le_of_ble_eq_true rfl, Nat.le_of_ble_eq_true rfl⟩ ⟨show cells ≤ 1157 by have := hcs.1; omega, show slots ≤ 14449 by have := hcs.2; omega⟩ (fun H locs hW => ?_)
  refine lv_aload_n hx hb dL_law_690 rfl (lv_at hl 2 rfl) ?_
  refine lo_i (np := 0) (As := []) (rest := [.int r]) (q := 9) (T := TX7) (N := 20) hx hb hml hown hB hK hW ⟨⟨kI_RX7, kc_X7_firstError, ⟨by decide +kernel, by decide +kernel⟩, by decide +kernel⟩, ki_X7_firstError, ks_X7_firstError⟩ kM_RL_134 rfl (by decide) (c_fx (by decide)) (mX7_firstError l  hg) rfl dL_law_691 rfl hl.1 (Nat.le_of_ble_eq_true rfl) ⟨Nat.le_of_ble_eq_true rfl, Nat.le_of_ble_eq_true rfl⟩ ⟨show cells ≤ 1157 by have := hcs.1; omega, show slots ≤ 14449 by have := hcs.2; omega⟩ (fun H locs hW => ?_)
  refine lv_icmp_eq (tgt := 1677) hx hb dL_law_694 (by decide) (fun c1 => ?_) (fun c1 => absurd rfl c1)
  exact W.widen (by omega) (by omega) (kk _ _ _ _ _ _ _ hR1 hW (lv_sub hl [0, 1, 2, 3, 4] rfl))
set_option maxHeartbeats 4000000 in
set_option maxRecDepth 100000 in
theorem lc_load (hfl : l.stackTraces = false) (hx : p.tables.exec = Jvm.exec) (hb : c.code = code) (hml : c.maxLocals = 9) (hown : s.vm.findClass RL = some m.cls) (hB : s.heap.size = eB E) (hK : Ko E s) (hX : va_X b L xs s s.heap) (hbl : b < s.heap.size) (hL : L ≤ 2560) (h5 : 5 * t + 5 ≤ L) (hcs : cells + 1 ≤ 1157 ∧ slots + 6 ≤ 14449) (hop : ∀ σ μ dg, Rel σ μ dg → ∀ (a1 : Int32), ∃ res σ' r μ', fX6_load a1 σ = some (res, σ') ∧ fX7_load a1 μ = some (r, μ') ∧ tel [1, 0] res r (μ' 20 0) ∧ Rel σ' μ' dg) (hRl : Rel σ μ dg) (hW : Lk E σ μ dg w s H locs) (hl : lv_has ls 9 [(4, .int (nI (5 * t))), (3, .ref (eO E)), (2, .ref (eA E 9)), (1, .ref (eA E 0)), (0, .ref b)])
    (kk : ∀ (σ' μ' : Sg) (dg' w' : Int64) (H' : Heap) (locs' : List Loc) (ls' : Array Slot), Rel σ' μ' dg' → Lk E σ' μ' dg' w' s H' locs' → lv_has ls' 9 [(4, .int (nI (5 * t))), (3, .ref (eO E)), (2, .ref (eA E 9)), (1, .ref (eA E 0)), (0, .ref b)] → W p l e room_1 s m args below meth c H' locs' (cells + 1) (slots + 6) Q (F0 m 1677 ls' [])) : W p l e room_1 s m args below meth c H locs cells slots Q (F0 m 699 ls []) := by
  obtain ⟨res, σ', r, μ', hf, hg, htel, hR1⟩ := hop σ μ dg hRl (xs (5 * t + 1))
  refine lv_aload_n hx hb dL_law_699 rfl (lv_at hl 3 rfl) ?_
  refine lv_aload_n hx hb dL_law_700 rfl (lv_at hl 4 rfl) ?_
  refine lv_iload hx hb dL_law_701 (lv_at hl 0 rfl) ?_
  refine lv_iconst (v := 1) hx hb dL_law_703 (by decide) ?_
  refine lv_iadd hx hb dL_law_704 ?_
  refine lo_sld (k := 5 * t + 1) hx hb hB hW hX hbl (by rw [show (1 : Int32) = nI 1 from rfl, nI_add]) (by omega) hL dL_law_705 ?_
  refine lv_aload_n hx hb dL_law_706 rfl (lv_at hl 1 rfl) ?_
  refine lo_w (np := 3) (As := [.ref (eA E 0), .int (xs (5 * t + 1)), .ref (eO E)]) (rest := []) hx hb hml hown hB hK hW kcw_L_load kI_RL ⟨by decide +kernel, by decide +kernel⟩ (by decide +kernel) kst_L_load kM_RL_135 (wL_load l hfl hf (tel_c htel)) rfl dL_law_707 rfl hl.1 (Nat.le_of_ble_eq_true rfl) ⟨Nat.le_of_ble_eq_true rfl, Nat.le_of_ble_eq_true rfl⟩ hcs (fun H locs hW => ?_)
  refine lv_istore (lv' := [(5, .int (μ' 20 0)), (4, .int (nI (5 * t))), (3, .ref (eO E)), (2, .ref (eA E 9)), (1, .ref (eA E 0)), (0, .ref b)]) hx hb dL_law_710 hl (by decide) rfl (fun ls hl => ?_)
  refine lv_aload_n hx hb dL_law_712 rfl (lv_at hl 3 rfl) ?_
  refine lv_aload_n hx hb dL_law_713 rfl (lv_at hl 5 rfl) ?_
  refine lv_iload hx hb dL_law_714 (lv_at hl 1 rfl) ?_
  refine lv_iconst (v := 1) hx hb dL_law_716 (by decide) ?_
  refine lv_iadd hx hb dL_law_717 ?_
  refine lo_sld (k := 5 * t + 1) hx hb hB hW hX hbl (by rw [show (1 : Int32) = nI 1 from rfl, nI_add]) (by omega) hL dL_law_718 ?_
  refine lo_i (np := 1) (As := [.int (xs (5 * t + 1))]) (rest := []) (q := 9) (T := TX7) (N := 20) hx hb hml hown hB hK hW ⟨⟨kI_RX7, kc_X7_load, ⟨by decide +kernel, by decide +kernel⟩, by decide +kernel⟩, ki_X7_load, ks_X7_load⟩ kM_RL_137 rfl (by decide) (c_fx (by decide)) (mX7_load l hg) rfl dL_law_719 rfl hl.1 (Nat.le_of_ble_eq_true rfl) ⟨Nat.le_of_ble_eq_true rfl, Nat.le_of_ble_eq_true rfl⟩ ⟨hcs.1, hcs.2⟩ (fun H locs hW => ?_)
  refine lv_istore (lv' := [(6, .int r), (5, .int (μ' 20 0)), (4, .int (nI (5 * t))), (3, .ref (eO E)), (2, .ref (eA E 9)), (1, .ref (eA E 0)), (0, .ref b)]) hx hb dL_law_722 hl (by decide) rfl (fun ls hl => ?_)
  refine lv_aload_n hx hb dL_law_724 rfl (lv_at hl 4 rfl) ?_
  refine lo_i (np := 0) (As := []) (rest := []) (q := 9) (T := TX7) (N := 20) hx hb hml hown hB hK hW ⟨⟨kI_RX7, kc_X7_thrown, ⟨by decide +kernel, by decide +kernel⟩, by decide +kernel⟩, ki_X7_thrown, ks_X7_thrown⟩ kM_RL_96 rfl (by decide) (c_fx (by decide)) (mX7_thrown l rfl) rfl dL_law_725 rfl hl.1 (Nat.le_of_ble_eq_true rfl) ⟨Nat.le_of_ble_eq_true rfl, Nat.le_of_ble_eq_true rfl⟩ ⟨hcs.1, hcs.2⟩ (fun H locs hW => ?_)
  refine lv_iload hx hb dL_law_728 (lv_at hl 1 rfl) ?_
  refine lv_icmp_eq (tgt := 735) hx hb dL_law_730 (by decide) (fun c1 => ?_) (fun c1 => absurd rfl c1)
  refine lv_iload hx hb dL_law_735 (lv_at hl 1 rfl) ?_
  refine lv_if_ne (tgt := 752) hx hb dL_law_737 (by decide) (fun c2 => ?_) (fun c2 => ?_)
  · refine lv_goto (tgt := 1677) hx hb dL_law_752 (by decide) ?_
    exact kk _ _ _ _ _ _ _ hR1 hW (lv_sub hl [2, 3, 4, 5, 6] rfl)
  refine lv_aload_n hx hb dL_law_740 rfl (lv_at hl 3 rfl) ?_
  refine lv_iconst (v := 0) hx hb dL_law_741 (by decide) ?_
  refine lo_lald hx hb hK hW dL_law_742 ?_
  refine lv_iload hx hb dL_law_743 (lv_at hl 0 rfl) ?_
  refine lv_i2l (v := (r).toInt64) hx hb dL_law_745 rfl ?_
  refine W.lcmp hx hb dL_law_746 ?_
  rw [tel_r htel c2, lg_cmp_self]
  refine lv_if_eq (tgt := 752) hx hb dL_law_747 (by decide) (fun c3 => ?_) (fun c3 => absurd rfl c3)
  refine lv_goto (tgt := 1677) hx hb dL_law_752 (by decide) ?_
  exact kk _ _ _ _ _ _ _ hR1 hW (lv_sub hl [2, 3, 4, 5, 6] rfl)
set_option maxHeartbeats 4000000 in
set_option maxRecDepth 100000 in
theorem lc_write (hfl : l.stackTraces = false) (hx : p.tables.exec = Jvm.exec) (hb : c.code = code) (hml : c.maxLocals = 9) (hown : s.vm.findClass RL = some m.cls) (hB : s.heap.size = eB E) (hK : Ko E s) (hX : va_X b L xs s s.heap) (hbl : b < s.heap.size) (hL : L ≤ 2560) (h5 : 5 * t + 5 ≤ L) (hcs : cells + 1 ≤ 1157 ∧ slots + 6 ≤ 14449) (hop : ∀ σ μ dg, Rel σ μ dg → ∀ (a1 : Int32), ∃ res σ' r μ', fX6_write a1 σ = some (res, σ') ∧ fX7_write a1 μ = some (r, μ') ∧ tel [1] res r (μ' 20 0) ∧ Rel σ' μ' dg) (hRl : Rel σ μ dg) (hW : Lk E σ μ dg w s H locs) (hl : lv_has ls 9 [(4, .int (nI (5 * t))), (3, .ref (eO E)), (2, .ref (eA E 9)), (1, .ref (eA E 0)), (0, .ref b)])
    (kk : ∀ (σ' μ' : Sg) (dg' w' : Int64) (H' : Heap) (locs' : List Loc) (ls' : Array Slot), Rel σ' μ' dg' → Lk E σ' μ' dg' w' s H' locs' → lv_has ls' 9 [(4, .int (nI (5 * t))), (3, .ref (eO E)), (2, .ref (eA E 9)), (1, .ref (eA E 0)), (0, .ref b)] → W p l e room_1 s m args below meth c H' locs' (cells + 1) (slots + 6) Q (F0 m 1677 ls' [])) : W p l e room_1 s m args below meth c H locs cells slots Q (F0 m 755 ls []) := by
  obtain ⟨res, σ', r, μ', hf, hg, htel, hR1⟩ := hop σ μ dg hRl (xs (5 * t + 1))
  refine lv_aload_n hx hb dL_law_755 rfl (lv_at hl 3 rfl) ?_
  refine lv_aload_n hx hb dL_law_756 rfl (lv_at hl 4 rfl) ?_
  refine lv_iload hx hb dL_law_757 (lv_at hl 0 rfl) ?_
  refine lv_iconst (v := 1) hx hb dL_law_759 (by decide) ?_
  refine lv_iadd hx hb dL_law_760 ?_
  refine lo_sld (k := 5 * t + 1) hx hb hB hW hX hbl (by rw [show (1 : Int32) = nI 1 from rfl, nI_add]) (by omega) hL dL_law_761 ?_
  refine lv_aload_n hx hb dL_law_762 rfl (lv_at hl 1 rfl) ?_
  refine lo_w (np := 3) (As := [.ref (eA E 0), .int (xs (5 * t + 1)), .ref (eO E)]) (rest := []) hx hb hml hown hB hK hW kcw_L_write kI_RL ⟨by decide +kernel, by decide +kernel⟩ (by decide +kernel) kst_L_write kM_RL_138 (wL_write l hfl hf (tel_c htel)) rfl dL_law_763 rfl hl.1 (Nat.le_of_ble_eq_true rfl) ⟨Nat.le_of_ble_eq_true rfl, Nat.le_of_ble_eq_true rfl⟩ hcs (fun H locs hW => ?_)
  refine lv_istore (lv' := [(5, .int (μ' 20 0)), (4, .int (nI (5 * t))), (3, .ref (eO E)), (2, .ref (eA E 9)), (1, .ref (eA E 0)), (0, .ref b)]) hx hb dL_law_766 hl (by decide) rfl (fun ls hl => ?_)
  refine lv_aload_n hx hb dL_law_768 rfl (lv_at hl 3 rfl) ?_
  refine lv_aload_n hx hb dL_law_769 rfl (lv_at hl 5 rfl) ?_
  refine lv_iload hx hb dL_law_770 (lv_at hl 1 rfl) ?_
  refine lv_iconst (v := 1) hx hb dL_law_772 (by decide) ?_
  refine lv_iadd hx hb dL_law_773 ?_
  refine lo_sld (k := 5 * t + 1) hx hb hB hW hX hbl (by rw [show (1 : Int32) = nI 1 from rfl, nI_add]) (by omega) hL dL_law_774 ?_
  refine lo_i (np := 1) (As := [.int (xs (5 * t + 1))]) (rest := []) (q := 9) (T := TX7) (N := 20) hx hb hml hown hB hK hW ⟨⟨kI_RX7, kc_X7_write, ⟨by decide +kernel, by decide +kernel⟩, by decide +kernel⟩, ki_X7_write, ks_X7_write⟩ kM_RL_140 rfl (by decide) (c_fx (by decide)) (mX7_write l hg) rfl dL_law_775 rfl hl.1 (Nat.le_of_ble_eq_true rfl) ⟨Nat.le_of_ble_eq_true rfl, Nat.le_of_ble_eq_true rfl⟩ ⟨hcs.1, hcs.2⟩ (fun H locs hW => ?_)
  refine lv_istore (lv' := [(6, .int r), (5, .int (μ' 20 0)), (4, .int (nI (5 * t))), (3, .ref (eO E)), (2, .ref (eA E 9)), (1, .ref (eA E 0)), (0, .ref b)]) hx hb dL_law_778 hl (by decide) rfl (fun ls hl => ?_)
  refine lv_aload_n hx hb dL_law_780 rfl (lv_at hl 4 rfl) ?_
  refine lo_i (np := 0) (As := []) (rest := []) (q := 9) (T := TX7) (N := 20) hx hb hml hown hB hK hW ⟨⟨kI_RX7, kc_X7_thrown, ⟨by decide +kernel, by decide +kernel⟩, by decide +kernel⟩, ki_X7_thrown, ks_X7_thrown⟩ kM_RL_96 rfl (by decide) (c_fx (by decide)) (mX7_thrown l rfl) rfl dL_law_781 rfl hl.1 (Nat.le_of_ble_eq_true rfl) ⟨Nat.le_of_ble_eq_true rfl, Nat.le_of_ble_eq_true rfl⟩ ⟨hcs.1, hcs.2⟩ (fun H locs hW => ?_)
  refine lv_iload hx hb dL_law_784 (lv_at hl 1 rfl) ?_
  refine lv_icmp_eq (tgt := 791) hx hb dL_law_786 (by decide) (fun c1 => ?_) (fun c1 => absurd rfl c1)
  refine lv_iload hx hb dL_law_791 (lv_at hl 1 rfl) ?_
  refine lv_if_ne (tgt := 808) hx hb dL_law_793 (by decide) (fun c2 => ?_) (fun c2 => ?_)
  · refine lv_goto (tgt := 1677) hx hb dL_law_808 (by decide) ?_
    exact kk _ _ _ _ _ _ _ hR1 hW (lv_sub hl [2, 3, 4, 5, 6] rfl)
  refine lv_aload_n hx hb dL_law_796 rfl (lv_at hl 3 rfl) ?_
  refine lv_iconst (v := 0) hx hb dL_law_797 (by decide) ?_
  refine lo_lald hx hb hK hW dL_law_798 ?_
  refine lv_iload hx hb dL_law_799 (lv_at hl 0 rfl) ?_
  refine lv_i2l (v := (r).toInt64) hx hb dL_law_801 rfl ?_
  refine W.lcmp hx hb dL_law_802 ?_
  rw [tel_r htel c2, lg_cmp_self]
  refine lv_if_eq (tgt := 808) hx hb dL_law_803 (by decide) (fun c3 => ?_) (fun c3 => absurd rfl c3)
  refine lv_goto (tgt := 1677) hx hb dL_law_808 (by decide) ?_
  exact kk _ _ _ _ _ _ _ hR1 hW (lv_sub hl [2, 3, 4, 5, 6] rfl)
set_option maxHeartbeats 4000000 in
set_option maxRecDepth 100000 in
theorem lc_keep (hfl : l.stackTraces = false) (hx : p.tables.exec = Jvm.exec) (hb : c.code = code) (hml : c.maxLocals = 9) (hown : s.vm.findClass RL = some m.cls) (hB : s.heap.size = eB E) (hK : Ko E s) (hX : va_X b L xs s s.heap) (hbl : b < s.heap.size) (hL : L ≤ 2560) (h5 : 5 * t + 5 ≤ L) (hcs : cells + 1 ≤ 1157 ∧ slots + 6 ≤ 14449) (hop : ∀ σ μ dg, Rel σ μ dg → ∀ (a1 : Int32), ∃ res σ' r μ', fX6_keep a1 σ = some (res, σ') ∧ fX7_keep a1 μ = some (r, μ') ∧ tel [0] res r (μ' 20 0) ∧ Rel σ' μ' dg) (hRl : Rel σ μ dg) (hW : Lk E σ μ dg w s H locs) (hl : lv_has ls 9 [(4, .int (nI (5 * t))), (3, .ref (eO E)), (2, .ref (eA E 9)), (1, .ref (eA E 0)), (0, .ref b)])
    (kk : ∀ (σ' μ' : Sg) (dg' w' : Int64) (H' : Heap) (locs' : List Loc) (ls' : Array Slot), Rel σ' μ' dg' → Lk E σ' μ' dg' w' s H' locs' → lv_has ls' 9 [(4, .int (nI (5 * t))), (3, .ref (eO E)), (2, .ref (eA E 9)), (1, .ref (eA E 0)), (0, .ref b)] → W p l e room_1 s m args below meth c H' locs' (cells + 1) (slots + 6) Q (F0 m 1677 ls' [])) : W p l e room_1 s m args below meth c H locs cells slots Q (F0 m 811 ls []) := by
  obtain ⟨res, σ', r, μ', hf, hg, htel, hR1⟩ := hop σ μ dg hRl (xs (5 * t + 1))
  refine lv_aload_n hx hb dL_law_811 rfl (lv_at hl 3 rfl) ?_
  refine lv_aload_n hx hb dL_law_812 rfl (lv_at hl 4 rfl) ?_
  refine lv_iload hx hb dL_law_813 (lv_at hl 0 rfl) ?_
  refine lv_iconst (v := 1) hx hb dL_law_815 (by decide) ?_
  refine lv_iadd hx hb dL_law_816 ?_
  refine lo_sld (k := 5 * t + 1) hx hb hB hW hX hbl (by rw [show (1 : Int32) = nI 1 from rfl, nI_add]) (by omega) hL dL_law_817 ?_
  refine lv_aload_n hx hb dL_law_818 rfl (lv_at hl 1 rfl) ?_
  refine lo_w (np := 3) (As := [.ref (eA E 0), .int (xs (5 * t + 1)), .ref (eO E)]) (rest := []) hx hb hml hown hB hK hW kcw_L_keep kI_RL ⟨by decide +kernel, by decide +kernel⟩ (by decide +kernel) kst_L_keep kM_RL_141 (wL_keep l hfl hf (tel_c htel)) rfl dL_law_819 rfl hl.1 (Nat.le_of_ble_eq_true rfl) ⟨Nat.le_of_ble_eq_true rfl, Nat.le_of_ble_eq_true rfl⟩ hcs (fun H locs hW => ?_)
  refine lv_istore (lv' := [(5, .int (μ' 20 0)), (4, .int (nI (5 * t))), (3, .ref (eO E)), (2, .ref (eA E 9)), (1, .ref (eA E 0)), (0, .ref b)]) hx hb dL_law_822 hl (by decide) rfl (fun ls hl => ?_)
  refine lv_aload_n hx hb dL_law_824 rfl (lv_at hl 3 rfl) ?_
  refine lv_aload_n hx hb dL_law_825 rfl (lv_at hl 5 rfl) ?_
  refine lv_iload hx hb dL_law_826 (lv_at hl 1 rfl) ?_
  refine lv_iconst (v := 1) hx hb dL_law_828 (by decide) ?_
  refine lv_iadd hx hb dL_law_829 ?_
  refine lo_sld (k := 5 * t + 1) hx hb hB hW hX hbl (by rw [show (1 : Int32) = nI 1 from rfl, nI_add]) (by omega) hL dL_law_830 ?_
  refine lo_i (np := 1) (As := [.int (xs (5 * t + 1))]) (rest := []) (q := 9) (T := TX7) (N := 20) hx hb hml hown hB hK hW ⟨⟨kI_RX7, kc_X7_keep, ⟨by decide +kernel, by decide +kernel⟩, by decide +kernel⟩, ki_X7_keep, ks_X7_keep⟩ kM_RL_143 rfl (by decide) (c_fx (by decide)) (mX7_keep l hg) rfl dL_law_831 rfl hl.1 (Nat.le_of_ble_eq_true rfl) ⟨Nat.le_of_ble_eq_true rfl, Nat.le_of_ble_eq_true rfl⟩ ⟨hcs.1, hcs.2⟩ (fun H locs hW => ?_)
  refine lv_istore (lv' := [(6, .int r), (5, .int (μ' 20 0)), (4, .int (nI (5 * t))), (3, .ref (eO E)), (2, .ref (eA E 9)), (1, .ref (eA E 0)), (0, .ref b)]) hx hb dL_law_834 hl (by decide) rfl (fun ls hl => ?_)
  refine lv_aload_n hx hb dL_law_836 rfl (lv_at hl 4 rfl) ?_
  refine lo_i (np := 0) (As := []) (rest := []) (q := 9) (T := TX7) (N := 20) hx hb hml hown hB hK hW ⟨⟨kI_RX7, kc_X7_thrown, ⟨by decide +kernel, by decide +kernel⟩, by decide +kernel⟩, ki_X7_thrown, ks_X7_thrown⟩ kM_RL_96 rfl (by decide) (c_fx (by decide)) (mX7_thrown l rfl) rfl dL_law_837 rfl hl.1 (Nat.le_of_ble_eq_true rfl) ⟨Nat.le_of_ble_eq_true rfl, Nat.le_of_ble_eq_true rfl⟩ ⟨hcs.1, hcs.2⟩ (fun H locs hW => ?_)
  refine lv_iload hx hb dL_law_840 (lv_at hl 1 rfl) ?_
  refine lv_icmp_eq (tgt := 847) hx hb dL_law_842 (by decide) (fun c1 => ?_) (fun c1 => absurd rfl c1)
  refine lv_iload hx hb dL_law_847 (lv_at hl 1 rfl) ?_
  refine lv_if_ne (tgt := 864) hx hb dL_law_849 (by decide) (fun c2 => ?_) (fun c2 => ?_)
  · refine lv_goto (tgt := 1677) hx hb dL_law_864 (by decide) ?_
    exact kk _ _ _ _ _ _ _ hR1 hW (lv_sub hl [2, 3, 4, 5, 6] rfl)
  refine lv_aload_n hx hb dL_law_852 rfl (lv_at hl 3 rfl) ?_
  refine lv_iconst (v := 0) hx hb dL_law_853 (by decide) ?_
  refine lo_lald hx hb hK hW dL_law_854 ?_
  refine lv_iload hx hb dL_law_855 (lv_at hl 0 rfl) ?_
  refine lv_i2l (v := (r).toInt64) hx hb dL_law_857 rfl ?_
  refine W.lcmp hx hb dL_law_858 ?_
  rw [tel_r htel c2, lg_cmp_self]
  refine lv_if_eq (tgt := 864) hx hb dL_law_859 (by decide) (fun c3 => ?_) (fun c3 => absurd rfl c3)
  refine lv_goto (tgt := 1677) hx hb dL_law_864 (by decide) ?_
  exact kk _ _ _ _ _ _ _ hR1 hW (lv_sub hl [2, 3, 4, 5, 6] rfl)
set_option maxHeartbeats 4000000 in
set_option maxRecDepth 100000 in
theorem lc_goBack (hfl : l.stackTraces = false) (hx : p.tables.exec = Jvm.exec) (hb : c.code = code) (hml : c.maxLocals = 9) (hown : s.vm.findClass RL = some m.cls) (hB : s.heap.size = eB E) (hK : Ko E s) (hX : va_X b L xs s s.heap) (hbl : b < s.heap.size) (hL : L ≤ 2560) (h5 : 5 * t + 5 ≤ L) (hcs : cells + 1 ≤ 1157 ∧ slots + 6 ≤ 14449) (hop : ∀ σ μ dg, Rel σ μ dg → ∀ (a1 : Int32), ∃ res σ' r μ', fX6_goBack a1 σ = some (res, σ') ∧ fX7_goBack a1 μ = some (r, μ') ∧ tel [0, 2] res r (μ' 20 0) ∧ Rel σ' μ' dg) (hRl : Rel σ μ dg) (hW : Lk E σ μ dg w s H locs) (hl : lv_has ls 9 [(4, .int (nI (5 * t))), (3, .ref (eO E)), (2, .ref (eA E 9)), (1, .ref (eA E 0)), (0, .ref b)])
    (kk : ∀ (σ' μ' : Sg) (dg' w' : Int64) (H' : Heap) (locs' : List Loc) (ls' : Array Slot), Rel σ' μ' dg' → Lk E σ' μ' dg' w' s H' locs' → lv_has ls' 9 [(4, .int (nI (5 * t))), (3, .ref (eO E)), (2, .ref (eA E 9)), (1, .ref (eA E 0)), (0, .ref b)] → W p l e room_1 s m args below meth c H' locs' (cells + 1) (slots + 6) Q (F0 m 1677 ls' [])) : W p l e room_1 s m args below meth c H locs cells slots Q (F0 m 867 ls []) := by
  obtain ⟨res, σ', r, μ', hf, hg, htel, hR1⟩ := hop σ μ dg hRl (xs (5 * t + 1))
  refine lv_aload_n hx hb dL_law_867 rfl (lv_at hl 3 rfl) ?_
  refine lv_aload_n hx hb dL_law_868 rfl (lv_at hl 4 rfl) ?_
  refine lv_iload hx hb dL_law_869 (lv_at hl 0 rfl) ?_
  refine lv_iconst (v := 1) hx hb dL_law_871 (by decide) ?_
  refine lv_iadd hx hb dL_law_872 ?_
  refine lo_sld (k := 5 * t + 1) hx hb hB hW hX hbl (by rw [show (1 : Int32) = nI 1 from rfl, nI_add]) (by omega) hL dL_law_873 ?_
  refine lv_aload_n hx hb dL_law_874 rfl (lv_at hl 1 rfl) ?_
  refine lo_w (np := 3) (As := [.ref (eA E 0), .int (xs (5 * t + 1)), .ref (eO E)]) (rest := []) hx hb hml hown hB hK hW kcw_L_goBack kI_RL ⟨by decide +kernel, by decide +kernel⟩ (by decide +kernel) kst_L_goBack kM_RL_144 (wL_goBack l hfl hf (tel_c htel)) rfl dL_law_875 rfl hl.1 (Nat.le_of_ble_eq_true rfl) ⟨Nat.le_of_ble_eq_true rfl, Nat.le_of_ble_eq_true rfl⟩ hcs (fun H locs hW => ?_)
  refine lv_istore (lv' := [(5, .int (μ' 20 0)), (4, .int (nI (5 * t))), (3, .ref (eO E)), (2, .ref (eA E 9)), (1, .ref (eA E 0)), (0, .ref b)]) hx hb dL_law_878 hl (by decide) rfl (fun ls hl => ?_)
  refine lv_aload_n hx hb dL_law_880 rfl (lv_at hl 3 rfl) ?_
  refine lv_aload_n hx hb dL_law_881 rfl (lv_at hl 5 rfl) ?_
  refine lv_iload hx hb dL_law_882 (lv_at hl 1 rfl) ?_
  refine lv_iconst (v := 1) hx hb dL_law_884 (by decide) ?_
  refine lv_iadd hx hb dL_law_885 ?_
  refine lo_sld (k := 5 * t + 1) hx hb hB hW hX hbl (by rw [show (1 : Int32) = nI 1 from rfl, nI_add]) (by omega) hL dL_law_886 ?_
  refine lo_i (np := 1) (As := [.int (xs (5 * t + 1))]) (rest := []) (q := 9) (T := TX7) (N := 20) hx hb hml hown hB hK hW ⟨⟨kI_RX7, kc_X7_goBack, ⟨by decide +kernel, by decide +kernel⟩, by decide +kernel⟩, ki_X7_goBack, ks_X7_goBack⟩ kM_RL_146 rfl (by decide) (c_fx (by decide)) (mX7_goBack l hg) rfl dL_law_887 rfl hl.1 (Nat.le_of_ble_eq_true rfl) ⟨Nat.le_of_ble_eq_true rfl, Nat.le_of_ble_eq_true rfl⟩ ⟨hcs.1, hcs.2⟩ (fun H locs hW => ?_)
  refine lv_istore (lv' := [(6, .int r), (5, .int (μ' 20 0)), (4, .int (nI (5 * t))), (3, .ref (eO E)), (2, .ref (eA E 9)), (1, .ref (eA E 0)), (0, .ref b)]) hx hb dL_law_890 hl (by decide) rfl (fun ls hl => ?_)
  refine lv_aload_n hx hb dL_law_892 rfl (lv_at hl 4 rfl) ?_
  refine lo_i (np := 0) (As := []) (rest := []) (q := 9) (T := TX7) (N := 20) hx hb hml hown hB hK hW ⟨⟨kI_RX7, kc_X7_thrown, ⟨by decide +kernel, by decide +kernel⟩, by decide +kernel⟩, ki_X7_thrown, ks_X7_thrown⟩ kM_RL_96 rfl (by decide) (c_fx (by decide)) (mX7_thrown l rfl) rfl dL_law_893 rfl hl.1 (Nat.le_of_ble_eq_true rfl) ⟨Nat.le_of_ble_eq_true rfl, Nat.le_of_ble_eq_true rfl⟩ ⟨hcs.1, hcs.2⟩ (fun H locs hW => ?_)
  refine lv_iload hx hb dL_law_896 (lv_at hl 1 rfl) ?_
  refine lv_icmp_eq (tgt := 903) hx hb dL_law_898 (by decide) (fun c1 => ?_) (fun c1 => absurd rfl c1)
  refine lv_iload hx hb dL_law_903 (lv_at hl 1 rfl) ?_
  refine lv_if_ne (tgt := 920) hx hb dL_law_905 (by decide) (fun c2 => ?_) (fun c2 => ?_)
  · refine lv_goto (tgt := 1677) hx hb dL_law_920 (by decide) ?_
    exact kk _ _ _ _ _ _ _ hR1 hW (lv_sub hl [2, 3, 4, 5, 6] rfl)
  refine lv_aload_n hx hb dL_law_908 rfl (lv_at hl 3 rfl) ?_
  refine lv_iconst (v := 0) hx hb dL_law_909 (by decide) ?_
  refine lo_lald hx hb hK hW dL_law_910 ?_
  refine lv_iload hx hb dL_law_911 (lv_at hl 0 rfl) ?_
  refine lv_i2l (v := (r).toInt64) hx hb dL_law_913 rfl ?_
  refine W.lcmp hx hb dL_law_914 ?_
  rw [tel_r htel c2, lg_cmp_self]
  refine lv_if_eq (tgt := 920) hx hb dL_law_915 (by decide) (fun c3 => ?_) (fun c3 => absurd rfl c3)
  refine lv_goto (tgt := 1677) hx hb dL_law_920 (by decide) ?_
  exact kk _ _ _ _ _ _ _ hR1 hW (lv_sub hl [2, 3, 4, 5, 6] rfl)
set_option maxHeartbeats 4000000 in
set_option maxRecDepth 100000 in
theorem lc_undo (hfl : l.stackTraces = false) (hx : p.tables.exec = Jvm.exec) (hb : c.code = code) (hml : c.maxLocals = 9) (hown : s.vm.findClass RL = some m.cls) (hB : s.heap.size = eB E) (hK : Ko E s) (hX : va_X b L xs s s.heap) (hbl : b < s.heap.size) (hL : L ≤ 2560) (h5 : 5 * t + 5 ≤ L) (hcs : cells + 1 ≤ 1157 ∧ slots + 6 ≤ 14449) (hop : ∀ σ μ dg, Rel σ μ dg → ∃ res σ' r μ', fX6_undo σ = some (res, σ') ∧ fX7_undo μ = some (r, μ') ∧ tel [2] res r (μ' 20 0) ∧ Rel σ' μ' dg) (hRl : Rel σ μ dg) (hW : Lk E σ μ dg w s H locs) (hl : lv_has ls 9 [(4, .int (nI (5 * t))), (3, .ref (eO E)), (2, .ref (eA E 9)), (1, .ref (eA E 0)), (0, .ref b)])
    (kk : ∀ (σ' μ' : Sg) (dg' w' : Int64) (H' : Heap) (locs' : List Loc) (ls' : Array Slot), Rel σ' μ' dg' → Lk E σ' μ' dg' w' s H' locs' → lv_has ls' 9 [(4, .int (nI (5 * t))), (3, .ref (eO E)), (2, .ref (eA E 9)), (1, .ref (eA E 0)), (0, .ref b)] → W p l e room_1 s m args below meth c H' locs' (cells + 1) (slots + 6) Q (F0 m 1677 ls' [])) : W p l e room_1 s m args below meth c H locs cells slots Q (F0 m 923 ls []) := by
  obtain ⟨res, σ', r, μ', hf, hg, htel, hR1⟩ := hop σ μ dg hRl
  refine lv_aload_n hx hb dL_law_923 rfl (lv_at hl 3 rfl) ?_
  refine lv_aload_n hx hb dL_law_924 rfl (lv_at hl 1 rfl) ?_
  refine lo_w (np := 2) (As := [.ref (eA E 0), .ref (eO E)]) (rest := []) hx hb hml hown hB hK hW kcw_L_undo kI_RL ⟨by decide +kernel, by decide +kernel⟩ (by decide +kernel) kst_L_undo kM_RL_147 (wL_undo l hfl hf (tel_c htel)) rfl dL_law_925 rfl hl.1 (Nat.le_of_ble_eq_true rfl) ⟨Nat.le_of_ble_eq_true rfl, Nat.le_of_ble_eq_true rfl⟩ hcs (fun H locs hW => ?_)
  refine lv_istore (lv' := [(5, .int (μ' 20 0)), (4, .int (nI (5 * t))), (3, .ref (eO E)), (2, .ref (eA E 9)), (1, .ref (eA E 0)), (0, .ref b)]) hx hb dL_law_928 hl (by decide) rfl (fun ls hl => ?_)
  refine lv_aload_n hx hb dL_law_930 rfl (lv_at hl 3 rfl) ?_
  refine lo_i (np := 0) (As := []) (rest := []) (q := 9) (T := TX7) (N := 20) hx hb hml hown hB hK hW ⟨⟨kI_RX7, kc_X7_undo, ⟨by decide +kernel, by decide +kernel⟩, by decide +kernel⟩, ki_X7_undo, ks_X7_undo⟩ kM_RL_149 rfl (by decide) (c_fx (by decide)) (mX7_undo l hg) rfl dL_law_931 rfl hl.1 (Nat.le_of_ble_eq_true rfl) ⟨Nat.le_of_ble_eq_true rfl, Nat.le_of_ble_eq_true rfl⟩ ⟨hcs.1, hcs.2⟩ (fun H locs hW => ?_)
  refine lv_istore (lv' := [(6, .int r), (5, .int (μ' 20 0)), (4, .int (nI (5 * t))), (3, .ref (eO E)), (2, .ref (eA E 9)), (1, .ref (eA E 0)), (0, .ref b)]) hx hb dL_law_934 hl (by decide) rfl (fun ls hl => ?_)
  refine lv_aload_n hx hb dL_law_936 rfl (lv_at hl 4 rfl) ?_
  refine lo_i (np := 0) (As := []) (rest := []) (q := 9) (T := TX7) (N := 20) hx hb hml hown hB hK hW ⟨⟨kI_RX7, kc_X7_thrown, ⟨by decide +kernel, by decide +kernel⟩, by decide +kernel⟩, ki_X7_thrown, ks_X7_thrown⟩ kM_RL_96 rfl (by decide) (c_fx (by decide)) (mX7_thrown l rfl) rfl dL_law_937 rfl hl.1 (Nat.le_of_ble_eq_true rfl) ⟨Nat.le_of_ble_eq_true rfl, Nat.le_of_ble_eq_true rfl⟩ ⟨hcs.1, hcs.2⟩ (fun H locs hW => ?_)
  refine lv_iload hx hb dL_law_940 (lv_at hl 1 rfl) ?_
  refine lv_icmp_eq (tgt := 947) hx hb dL_law_942 (by decide) (fun c1 => ?_) (fun c1 => absurd rfl c1)
  refine lv_iload hx hb dL_law_947 (lv_at hl 1 rfl) ?_
  refine lv_if_ne (tgt := 964) hx hb dL_law_949 (by decide) (fun c2 => ?_) (fun c2 => ?_)
  · refine lv_goto (tgt := 1677) hx hb dL_law_964 (by decide) ?_
    exact kk _ _ _ _ _ _ _ hR1 hW (lv_sub hl [2, 3, 4, 5, 6] rfl)
  refine lv_aload_n hx hb dL_law_952 rfl (lv_at hl 3 rfl) ?_
  refine lv_iconst (v := 0) hx hb dL_law_953 (by decide) ?_
  refine lo_lald hx hb hK hW dL_law_954 ?_
  refine lv_iload hx hb dL_law_955 (lv_at hl 0 rfl) ?_
  refine lv_i2l (v := (r).toInt64) hx hb dL_law_957 rfl ?_
  refine W.lcmp hx hb dL_law_958 ?_
  rw [tel_r htel c2, lg_cmp_self]
  refine lv_if_eq (tgt := 964) hx hb dL_law_959 (by decide) (fun c3 => ?_) (fun c3 => absurd rfl c3)
  refine lv_goto (tgt := 1677) hx hb dL_law_964 (by decide) ?_
  exact kk _ _ _ _ _ _ _ hR1 hW (lv_sub hl [2, 3, 4, 5, 6] rfl)
set_option maxHeartbeats 4000000 in
set_option maxRecDepth 100000 in
theorem lc_step (hfl : l.stackTraces = false) (hx : p.tables.exec = Jvm.exec) (hb : c.code = code) (hml : c.maxLocals = 9) (hown : s.vm.findClass RL = some m.cls) (hB : s.heap.size = eB E) (hK : Ko E s) (hX : va_X b L xs s s.heap) (hbl : b < s.heap.size) (hL : L ≤ 2560) (h5 : 5 * t + 5 ≤ L) (hcs : cells + 1 ≤ 1157 ∧ slots + 6 ≤ 14449) (hop : ∀ σ μ dg, Rel σ μ dg → ∀ (a1 : Int32), ∃ res σ' r μ', fX6_step a1 σ = some (res, σ') ∧ fX7_step a1 μ = some (r, μ') ∧ tel [1] res r (μ' 20 0) ∧ Rel σ' μ' dg) (hRl : Rel σ μ dg) (hW : Lk E σ μ dg w s H locs) (hl : lv_has ls 9 [(4, .int (nI (5 * t))), (3, .ref (eO E)), (2, .ref (eA E 9)), (1, .ref (eA E 0)), (0, .ref b)])
    (kk : ∀ (σ' μ' : Sg) (dg' w' : Int64) (H' : Heap) (locs' : List Loc) (ls' : Array Slot), Rel σ' μ' dg' → Lk E σ' μ' dg' w' s H' locs' → lv_has ls' 9 [(4, .int (nI (5 * t))), (3, .ref (eO E)), (2, .ref (eA E 9)), (1, .ref (eA E 0)), (0, .ref b)] → W p l e room_1 s m args below meth c H' locs' (cells + 1) (slots + 6) Q (F0 m 1677 ls' [])) : W p l e room_1 s m args below meth c H locs cells slots Q (F0 m 967 ls []) := by
  obtain ⟨res, σ', r, μ', hf, hg, htel, hR1⟩ := hop σ μ dg hRl (xs (5 * t + 1))
  refine lv_aload_n hx hb dL_law_967 rfl (lv_at hl 3 rfl) ?_
  refine lv_aload_n hx hb dL_law_968 rfl (lv_at hl 4 rfl) ?_
  refine lv_iload hx hb dL_law_969 (lv_at hl 0 rfl) ?_
  refine lv_iconst (v := 1) hx hb dL_law_971 (by decide) ?_
  refine lv_iadd hx hb dL_law_972 ?_
  refine lo_sld (k := 5 * t + 1) hx hb hB hW hX hbl (by rw [show (1 : Int32) = nI 1 from rfl, nI_add]) (by omega) hL dL_law_973 ?_
  refine lv_aload_n hx hb dL_law_974 rfl (lv_at hl 1 rfl) ?_
  refine lo_w (np := 3) (As := [.ref (eA E 0), .int (xs (5 * t + 1)), .ref (eO E)]) (rest := []) hx hb hml hown hB hK hW kcw_L_step kI_RL ⟨by decide +kernel, by decide +kernel⟩ (by decide +kernel) kst_L_step kM_RL_150 (wL_step l hfl hf (tel_c htel)) rfl dL_law_975 rfl hl.1 (Nat.le_of_ble_eq_true rfl) ⟨Nat.le_of_ble_eq_true rfl, Nat.le_of_ble_eq_true rfl⟩ hcs (fun H locs hW => ?_)
  refine lv_istore (lv' := [(5, .int (μ' 20 0)), (4, .int (nI (5 * t))), (3, .ref (eO E)), (2, .ref (eA E 9)), (1, .ref (eA E 0)), (0, .ref b)]) hx hb dL_law_978 hl (by decide) rfl (fun ls hl => ?_)
  refine lv_aload_n hx hb dL_law_980 rfl (lv_at hl 3 rfl) ?_
  refine lv_aload_n hx hb dL_law_981 rfl (lv_at hl 5 rfl) ?_
  refine lv_iload hx hb dL_law_982 (lv_at hl 1 rfl) ?_
  refine lv_iconst (v := 1) hx hb dL_law_984 (by decide) ?_
  refine lv_iadd hx hb dL_law_985 ?_
  refine lo_sld (k := 5 * t + 1) hx hb hB hW hX hbl (by rw [show (1 : Int32) = nI 1 from rfl, nI_add]) (by omega) hL dL_law_986 ?_
  refine lo_i (np := 1) (As := [.int (xs (5 * t + 1))]) (rest := []) (q := 9) (T := TX7) (N := 20) hx hb hml hown hB hK hW ⟨⟨kI_RX7, kc_X7_step, ⟨by decide +kernel, by decide +kernel⟩, by decide +kernel⟩, ki_X7_step, ks_X7_step⟩ kM_RL_152 rfl (by decide) (c_fx (by decide)) (mX7_step l hg) rfl dL_law_987 rfl hl.1 (Nat.le_of_ble_eq_true rfl) ⟨Nat.le_of_ble_eq_true rfl, Nat.le_of_ble_eq_true rfl⟩ ⟨hcs.1, hcs.2⟩ (fun H locs hW => ?_)
  refine lv_istore (lv' := [(6, .int r), (5, .int (μ' 20 0)), (4, .int (nI (5 * t))), (3, .ref (eO E)), (2, .ref (eA E 9)), (1, .ref (eA E 0)), (0, .ref b)]) hx hb dL_law_990 hl (by decide) rfl (fun ls hl => ?_)
  refine lv_aload_n hx hb dL_law_992 rfl (lv_at hl 4 rfl) ?_
  refine lo_i (np := 0) (As := []) (rest := []) (q := 9) (T := TX7) (N := 20) hx hb hml hown hB hK hW ⟨⟨kI_RX7, kc_X7_thrown, ⟨by decide +kernel, by decide +kernel⟩, by decide +kernel⟩, ki_X7_thrown, ks_X7_thrown⟩ kM_RL_96 rfl (by decide) (c_fx (by decide)) (mX7_thrown l rfl) rfl dL_law_993 rfl hl.1 (Nat.le_of_ble_eq_true rfl) ⟨Nat.le_of_ble_eq_true rfl, Nat.le_of_ble_eq_true rfl⟩ ⟨hcs.1, hcs.2⟩ (fun H locs hW => ?_)
  refine lv_iload hx hb dL_law_996 (lv_at hl 1 rfl) ?_
  refine lv_icmp_eq (tgt := 1003) hx hb dL_law_998 (by decide) (fun c1 => ?_) (fun c1 => absurd rfl c1)
  refine lv_iload hx hb dL_law_1003 (lv_at hl 1 rfl) ?_
  refine lv_if_ne (tgt := 1020) hx hb dL_law_1005 (by decide) (fun c2 => ?_) (fun c2 => ?_)
  · refine lv_goto (tgt := 1677) hx hb dL_law_1020 (by decide) ?_
    exact kk _ _ _ _ _ _ _ hR1 hW (lv_sub hl [2, 3, 4, 5, 6] rfl)
  refine lv_aload_n hx hb dL_law_1008 rfl (lv_at hl 3 rfl) ?_
  refine lv_iconst (v := 0) hx hb dL_law_1009 (by decide) ?_
  refine lo_lald hx hb hK hW dL_law_1010 ?_
  refine lv_iload hx hb dL_law_1011 (lv_at hl 0 rfl) ?_
  refine lv_i2l (v := (r).toInt64) hx hb dL_law_1013 rfl ?_
  refine W.lcmp hx hb dL_law_1014 ?_
  rw [tel_r htel c2, lg_cmp_self]
  refine lv_if_eq (tgt := 1020) hx hb dL_law_1015 (by decide) (fun c3 => ?_) (fun c3 => absurd rfl c3)
  refine lv_goto (tgt := 1677) hx hb dL_law_1020 (by decide) ?_
  exact kk _ _ _ _ _ _ _ hR1 hW (lv_sub hl [2, 3, 4, 5, 6] rfl)
set_option maxHeartbeats 4000000 in
set_option maxRecDepth 100000 in
theorem lc_sampleOf (hfl : l.stackTraces = false) (hx : p.tables.exec = Jvm.exec) (hb : c.code = code) (hml : c.maxLocals = 9) (hown : s.vm.findClass RL = some m.cls) (hB : s.heap.size = eB E) (hK : Ko E s) (hX : va_X b L xs s s.heap) (hbl : b < s.heap.size) (hL : L ≤ 2560) (h5 : 5 * t + 5 ≤ L) (hcs : cells + 1 ≤ 1157 ∧ slots + 6 ≤ 14449) (hop : ∀ σ μ dg, Rel σ μ dg → ∀ (a1 : Int32) (a2 : Int32), ∃ res σ' r μ', fX6_sampleOf a1 a2 σ = some (res, σ') ∧ fX7_sampleOf a1 a2 μ = some (r, μ') ∧ tel [1, 0] res r (μ' 20 0) ∧ Rel σ' μ' dg) (hRl : Rel σ μ dg) (hW : Lk E σ μ dg w s H locs) (hl : lv_has ls 9 [(4, .int (nI (5 * t))), (3, .ref (eO E)), (2, .ref (eA E 9)), (1, .ref (eA E 0)), (0, .ref b)])
    (kk : ∀ (σ' μ' : Sg) (dg' w' : Int64) (H' : Heap) (locs' : List Loc) (ls' : Array Slot), Rel σ' μ' dg' → Lk E σ' μ' dg' w' s H' locs' → lv_has ls' 9 [(4, .int (nI (5 * t))), (3, .ref (eO E)), (2, .ref (eA E 9)), (1, .ref (eA E 0)), (0, .ref b)] → W p l e room_1 s m args below meth c H' locs' (cells + 1) (slots + 6) Q (F0 m 1677 ls' [])) : W p l e room_1 s m args below meth c H locs cells slots Q (F0 m 1023 ls []) := by
  obtain ⟨res, σ', r, μ', hf, hg, htel, hR1⟩ := hop σ μ dg hRl (xs (5 * t + 1)) (xs (5 * t + 2))
  refine lv_aload_n hx hb dL_law_1023 rfl (lv_at hl 3 rfl) ?_
  refine lv_aload_n hx hb dL_law_1024 rfl (lv_at hl 4 rfl) ?_
  refine lv_iload hx hb dL_law_1025 (lv_at hl 0 rfl) ?_
  refine lv_iconst (v := 1) hx hb dL_law_1027 (by decide) ?_
  refine lv_iadd hx hb dL_law_1028 ?_
  refine lo_sld (k := 5 * t + 1) hx hb hB hW hX hbl (by rw [show (1 : Int32) = nI 1 from rfl, nI_add]) (by omega) hL dL_law_1029 ?_
  refine lv_aload_n hx hb dL_law_1030 rfl (lv_at hl 4 rfl) ?_
  refine lv_iload hx hb dL_law_1031 (lv_at hl 0 rfl) ?_
  refine lv_iconst (v := 2) hx hb dL_law_1033 (by decide) ?_
  refine lv_iadd hx hb dL_law_1034 ?_
  refine lo_sld (k := 5 * t + 2) hx hb hB hW hX hbl (by rw [show (2 : Int32) = nI 2 from rfl, nI_add]) (by omega) hL dL_law_1035 ?_
  refine lv_aload_n hx hb dL_law_1036 rfl (lv_at hl 1 rfl) ?_
  refine lo_w (np := 4) (As := [.ref (eA E 0), .int (xs (5 * t + 1)), .int (xs (5 * t + 2)), .ref (eO E)]) (rest := []) hx hb hml hown hB hK hW kcw_L_sampleOf kI_RL ⟨by decide +kernel, by decide +kernel⟩ (by decide +kernel) kst_L_sampleOf kM_RL_153 (wL_sampleOf l hfl hf (tel_c htel)) rfl dL_law_1037 rfl hl.1 (Nat.le_of_ble_eq_true rfl) ⟨Nat.le_of_ble_eq_true rfl, Nat.le_of_ble_eq_true rfl⟩ hcs (fun H locs hW => ?_)
  refine lv_istore (lv' := [(5, .int (μ' 20 0)), (4, .int (nI (5 * t))), (3, .ref (eO E)), (2, .ref (eA E 9)), (1, .ref (eA E 0)), (0, .ref b)]) hx hb dL_law_1040 hl (by decide) rfl (fun ls hl => ?_)
  refine lv_aload_n hx hb dL_law_1042 rfl (lv_at hl 3 rfl) ?_
  refine lv_aload_n hx hb dL_law_1043 rfl (lv_at hl 5 rfl) ?_
  refine lv_iload hx hb dL_law_1044 (lv_at hl 1 rfl) ?_
  refine lv_iconst (v := 1) hx hb dL_law_1046 (by decide) ?_
  refine lv_iadd hx hb dL_law_1047 ?_
  refine lo_sld (k := 5 * t + 1) hx hb hB hW hX hbl (by rw [show (1 : Int32) = nI 1 from rfl, nI_add]) (by omega) hL dL_law_1048 ?_
  refine lv_aload_n hx hb dL_law_1049 rfl (lv_at hl 5 rfl) ?_
  refine lv_iload hx hb dL_law_1050 (lv_at hl 1 rfl) ?_
  refine lv_iconst (v := 2) hx hb dL_law_1052 (by decide) ?_
  refine lv_iadd hx hb dL_law_1053 ?_
  refine lo_sld (k := 5 * t + 2) hx hb hB hW hX hbl (by rw [show (2 : Int32) = nI 2 from rfl, nI_add]) (by omega) hL dL_law_1054 ?_
  refine lo_i (np := 2) (As := [.int (xs (5 * t + 1)), .int (xs (5 * t + 2))]) (rest := []) (q := 9) (T := TX7) (N := 20) hx hb hml hown hB hK hW ⟨⟨kI_RX7, kc_X7_sampleOf, ⟨by decide +kernel, by decide +kernel⟩, by decide +kernel⟩, ki_X7_sampleOf, ks_X7_sampleOf⟩ kM_RL_155 rfl (by decide) (c_fx (by decide)) (mX7_sampleOf l hg) rfl dL_law_1055 rfl hl.1 (Nat.le_of_ble_eq_true rfl) ⟨Nat.le_of_ble_eq_true rfl, Nat.le_of_ble_eq_true rfl⟩ ⟨hcs.1, hcs.2⟩ (fun H locs hW => ?_)
  refine lv_istore (lv' := [(6, .int r), (5, .int (μ' 20 0)), (4, .int (nI (5 * t))), (3, .ref (eO E)), (2, .ref (eA E 9)), (1, .ref (eA E 0)), (0, .ref b)]) hx hb dL_law_1058 hl (by decide) rfl (fun ls hl => ?_)
  refine lv_aload_n hx hb dL_law_1060 rfl (lv_at hl 4 rfl) ?_
  refine lo_i (np := 0) (As := []) (rest := []) (q := 9) (T := TX7) (N := 20) hx hb hml hown hB hK hW ⟨⟨kI_RX7, kc_X7_thrown, ⟨by decide +kernel, by decide +kernel⟩, by decide +kernel⟩, ki_X7_thrown, ks_X7_thrown⟩ kM_RL_96 rfl (by decide) (c_fx (by decide)) (mX7_thrown l rfl) rfl dL_law_1061 rfl hl.1 (Nat.le_of_ble_eq_true rfl) ⟨Nat.le_of_ble_eq_true rfl, Nat.le_of_ble_eq_true rfl⟩ ⟨hcs.1, hcs.2⟩ (fun H locs hW => ?_)
  refine lv_iload hx hb dL_law_1064 (lv_at hl 1 rfl) ?_
  refine lv_icmp_eq (tgt := 1071) hx hb dL_law_1066 (by decide) (fun c1 => ?_) (fun c1 => absurd rfl c1)
  refine lv_iload hx hb dL_law_1071 (lv_at hl 1 rfl) ?_
  refine lv_if_ne (tgt := 1088) hx hb dL_law_1073 (by decide) (fun c2 => ?_) (fun c2 => ?_)
  · refine lv_goto (tgt := 1677) hx hb dL_law_1088 (by decide) ?_
    exact kk _ _ _ _ _ _ _ hR1 hW (lv_sub hl [2, 3, 4, 5, 6] rfl)
  refine lv_aload_n hx hb dL_law_1076 rfl (lv_at hl 3 rfl) ?_
  refine lv_iconst (v := 0) hx hb dL_law_1077 (by decide) ?_
  refine lo_lald hx hb hK hW dL_law_1078 ?_
  refine lv_iload hx hb dL_law_1079 (lv_at hl 0 rfl) ?_
  refine lv_i2l (v := (r).toInt64) hx hb dL_law_1081 rfl ?_
  refine W.lcmp hx hb dL_law_1082 ?_
  rw [tel_r htel c2, lg_cmp_self]
  refine lv_if_eq (tgt := 1088) hx hb dL_law_1083 (by decide) (fun c3 => ?_) (fun c3 => absurd rfl c3)
  refine lv_goto (tgt := 1677) hx hb dL_law_1088 (by decide) ?_
  exact kk _ _ _ _ _ _ _ hR1 hW (lv_sub hl [2, 3, 4, 5, 6] rfl)
set_option maxHeartbeats 4000000 in
set_option maxRecDepth 100000 in
theorem lc_blockOf (hfl : l.stackTraces = false) (hx : p.tables.exec = Jvm.exec) (hb : c.code = code) (hml : c.maxLocals = 9) (hown : s.vm.findClass RL = some m.cls) (hB : s.heap.size = eB E) (hK : Ko E s) (hX : va_X b L xs s s.heap) (hbl : b < s.heap.size) (hL : L ≤ 2560) (h5 : 5 * t + 5 ≤ L) (hcs : cells + 1 ≤ 1157 ∧ slots + 6 ≤ 14449) (hop : ∀ σ μ dg, Rel σ μ dg → ∀ (a1 : Int32) (a2 : Int32), ∃ res σ' r μ', fX6_blockOf a1 a2 σ = some (res, σ') ∧ fX7_blockOf a1 a2 μ = some (r, μ') ∧ tel [1, 0] res r (μ' 20 0) ∧ Rel σ' μ' dg) (hRl : Rel σ μ dg) (hW : Lk E σ μ dg w s H locs) (hl : lv_has ls 9 [(4, .int (nI (5 * t))), (3, .ref (eO E)), (2, .ref (eA E 9)), (1, .ref (eA E 0)), (0, .ref b)])
    (kk : ∀ (σ' μ' : Sg) (dg' w' : Int64) (H' : Heap) (locs' : List Loc) (ls' : Array Slot), Rel σ' μ' dg' → Lk E σ' μ' dg' w' s H' locs' → lv_has ls' 9 [(4, .int (nI (5 * t))), (3, .ref (eO E)), (2, .ref (eA E 9)), (1, .ref (eA E 0)), (0, .ref b)] → W p l e room_1 s m args below meth c H' locs' (cells + 1) (slots + 6) Q (F0 m 1677 ls' [])) : W p l e room_1 s m args below meth c H locs cells slots Q (F0 m 1091 ls []) := by
  obtain ⟨res, σ', r, μ', hf, hg, htel, hR1⟩ := hop σ μ dg hRl (xs (5 * t + 1)) (xs (5 * t + 2))
  refine lv_aload_n hx hb dL_law_1091 rfl (lv_at hl 3 rfl) ?_
  refine lv_aload_n hx hb dL_law_1092 rfl (lv_at hl 4 rfl) ?_
  refine lv_iload hx hb dL_law_1093 (lv_at hl 0 rfl) ?_
  refine lv_iconst (v := 1) hx hb dL_law_1095 (by decide) ?_
  refine lv_iadd hx hb dL_law_1096 ?_
  refine lo_sld (k := 5 * t + 1) hx hb hB hW hX hbl (by rw [show (1 : Int32) = nI 1 from rfl, nI_add]) (by omega) hL dL_law_1097 ?_
  refine lv_aload_n hx hb dL_law_1098 rfl (lv_at hl 4 rfl) ?_
  refine lv_iload hx hb dL_law_1099 (lv_at hl 0 rfl) ?_
  refine lv_iconst (v := 2) hx hb dL_law_1101 (by decide) ?_
  refine lv_iadd hx hb dL_law_1102 ?_
  refine lo_sld (k := 5 * t + 2) hx hb hB hW hX hbl (by rw [show (2 : Int32) = nI 2 from rfl, nI_add]) (by omega) hL dL_law_1103 ?_
  refine lv_aload_n hx hb dL_law_1104 rfl (lv_at hl 1 rfl) ?_
  refine lo_w (np := 4) (As := [.ref (eA E 0), .int (xs (5 * t + 1)), .int (xs (5 * t + 2)), .ref (eO E)]) (rest := []) hx hb hml hown hB hK hW kcw_L_blockOf kI_RL ⟨by decide +kernel, by decide +kernel⟩ (by decide +kernel) kst_L_blockOf kM_RL_156 (wL_blockOf l hfl hf (tel_c htel)) rfl dL_law_1105 rfl hl.1 (Nat.le_of_ble_eq_true rfl) ⟨Nat.le_of_ble_eq_true rfl, Nat.le_of_ble_eq_true rfl⟩ hcs (fun H locs hW => ?_)
  refine lv_istore (lv' := [(5, .int (μ' 20 0)), (4, .int (nI (5 * t))), (3, .ref (eO E)), (2, .ref (eA E 9)), (1, .ref (eA E 0)), (0, .ref b)]) hx hb dL_law_1108 hl (by decide) rfl (fun ls hl => ?_)
  refine lv_aload_n hx hb dL_law_1110 rfl (lv_at hl 3 rfl) ?_
  refine lv_aload_n hx hb dL_law_1111 rfl (lv_at hl 5 rfl) ?_
  refine lv_iload hx hb dL_law_1112 (lv_at hl 1 rfl) ?_
  refine lv_iconst (v := 1) hx hb dL_law_1114 (by decide) ?_
  refine lv_iadd hx hb dL_law_1115 ?_
  refine lo_sld (k := 5 * t + 1) hx hb hB hW hX hbl (by rw [show (1 : Int32) = nI 1 from rfl, nI_add]) (by omega) hL dL_law_1116 ?_
  refine lv_aload_n hx hb dL_law_1117 rfl (lv_at hl 5 rfl) ?_
  refine lv_iload hx hb dL_law_1118 (lv_at hl 1 rfl) ?_
  refine lv_iconst (v := 2) hx hb dL_law_1120 (by decide) ?_
  refine lv_iadd hx hb dL_law_1121 ?_
  refine lo_sld (k := 5 * t + 2) hx hb hB hW hX hbl (by rw [show (2 : Int32) = nI 2 from rfl, nI_add]) (by omega) hL dL_law_1122 ?_
  refine lo_i (np := 2) (As := [.int (xs (5 * t + 1)), .int (xs (5 * t + 2))]) (rest := []) (q := 9) (T := TX7) (N := 20) hx hb hml hown hB hK hW ⟨⟨kI_RX7, kc_X7_blockOf, ⟨by decide +kernel, by decide +kernel⟩, by decide +kernel⟩, ki_X7_blockOf, ks_X7_blockOf⟩ kM_RL_158 rfl (by decide) (c_fx (by decide)) (mX7_blockOf l hg) rfl dL_law_1123 rfl hl.1 (Nat.le_of_ble_eq_true rfl) ⟨Nat.le_of_ble_eq_true rfl, Nat.le_of_ble_eq_true rfl⟩ ⟨hcs.1, hcs.2⟩ (fun H locs hW => ?_)
  refine lv_istore (lv' := [(6, .int r), (5, .int (μ' 20 0)), (4, .int (nI (5 * t))), (3, .ref (eO E)), (2, .ref (eA E 9)), (1, .ref (eA E 0)), (0, .ref b)]) hx hb dL_law_1126 hl (by decide) rfl (fun ls hl => ?_)
  refine lv_aload_n hx hb dL_law_1128 rfl (lv_at hl 4 rfl) ?_
  refine lo_i (np := 0) (As := []) (rest := []) (q := 9) (T := TX7) (N := 20) hx hb hml hown hB hK hW ⟨⟨kI_RX7, kc_X7_thrown, ⟨by decide +kernel, by decide +kernel⟩, by decide +kernel⟩, ki_X7_thrown, ks_X7_thrown⟩ kM_RL_96 rfl (by decide) (c_fx (by decide)) (mX7_thrown l rfl) rfl dL_law_1129 rfl hl.1 (Nat.le_of_ble_eq_true rfl) ⟨Nat.le_of_ble_eq_true rfl, Nat.le_of_ble_eq_true rfl⟩ ⟨hcs.1, hcs.2⟩ (fun H locs hW => ?_)
  refine lv_iload hx hb dL_law_1132 (lv_at hl 1 rfl) ?_
  refine lv_icmp_eq (tgt := 1139) hx hb dL_law_1134 (by decide) (fun c1 => ?_) (fun c1 => absurd rfl c1)
  refine lv_iload hx hb dL_law_1139 (lv_at hl 1 rfl) ?_
  refine lv_if_ne (tgt := 1156) hx hb dL_law_1141 (by decide) (fun c2 => ?_) (fun c2 => ?_)
  · refine lv_goto (tgt := 1677) hx hb dL_law_1156 (by decide) ?_
    exact kk _ _ _ _ _ _ _ hR1 hW (lv_sub hl [2, 3, 4, 5, 6] rfl)
  refine lv_aload_n hx hb dL_law_1144 rfl (lv_at hl 3 rfl) ?_
  refine lv_iconst (v := 0) hx hb dL_law_1145 (by decide) ?_
  refine lo_lald hx hb hK hW dL_law_1146 ?_
  refine lv_iload hx hb dL_law_1147 (lv_at hl 0 rfl) ?_
  refine lv_i2l (v := (r).toInt64) hx hb dL_law_1149 rfl ?_
  refine W.lcmp hx hb dL_law_1150 ?_
  rw [tel_r htel c2, lg_cmp_self]
  refine lv_if_eq (tgt := 1156) hx hb dL_law_1151 (by decide) (fun c3 => ?_) (fun c3 => absurd rfl c3)
  refine lv_goto (tgt := 1677) hx hb dL_law_1156 (by decide) ?_
  exact kk _ _ _ _ _ _ _ hR1 hW (lv_sub hl [2, 3, 4, 5, 6] rfl)
set_option maxHeartbeats 4000000 in
set_option maxRecDepth 100000 in
theorem lc_count (hfl : l.stackTraces = false) (hx : p.tables.exec = Jvm.exec) (hb : c.code = code) (hml : c.maxLocals = 9) (hown : s.vm.findClass RL = some m.cls) (hB : s.heap.size = eB E) (hK : Ko E s) (hX : va_X b L xs s s.heap) (hbl : b < s.heap.size) (hL : L ≤ 2560) (h5 : 5 * t + 5 ≤ L) (hcs : cells + 1 ≤ 1157 ∧ slots + 6 ≤ 14449) (hop : ∀ σ μ dg, Rel σ μ dg → ∀ (a1 : Int32), ∃ res σ' r μ', fX6_count a1 σ = some (res, σ') ∧ fX7_count a1 μ = some (r, μ') ∧ tel [0] res r (μ' 20 0) ∧ Rel σ' μ' dg) (hRl : Rel σ μ dg) (hW : Lk E σ μ dg w s H locs) (hl : lv_has ls 9 [(4, .int (nI (5 * t))), (3, .ref (eO E)), (2, .ref (eA E 9)), (1, .ref (eA E 0)), (0, .ref b)])
    (kk : ∀ (σ' μ' : Sg) (dg' w' : Int64) (H' : Heap) (locs' : List Loc) (ls' : Array Slot), Rel σ' μ' dg' → Lk E σ' μ' dg' w' s H' locs' → lv_has ls' 9 [(4, .int (nI (5 * t))), (3, .ref (eO E)), (2, .ref (eA E 9)), (1, .ref (eA E 0)), (0, .ref b)] → W p l e room_1 s m args below meth c H' locs' (cells + 1) (slots + 6) Q (F0 m 1677 ls' [])) : W p l e room_1 s m args below meth c H locs cells slots Q (F0 m 1159 ls []) := by
  obtain ⟨res, σ', r, μ', hf, hg, htel, hR1⟩ := hop σ μ dg hRl (xs (5 * t + 1))
  refine lv_aload_n hx hb dL_law_1159 rfl (lv_at hl 3 rfl) ?_
  refine lv_aload_n hx hb dL_law_1160 rfl (lv_at hl 4 rfl) ?_
  refine lv_iload hx hb dL_law_1161 (lv_at hl 0 rfl) ?_
  refine lv_iconst (v := 1) hx hb dL_law_1163 (by decide) ?_
  refine lv_iadd hx hb dL_law_1164 ?_
  refine lo_sld (k := 5 * t + 1) hx hb hB hW hX hbl (by rw [show (1 : Int32) = nI 1 from rfl, nI_add]) (by omega) hL dL_law_1165 ?_
  refine lv_aload_n hx hb dL_law_1166 rfl (lv_at hl 1 rfl) ?_
  refine lo_w (np := 3) (As := [.ref (eA E 0), .int (xs (5 * t + 1)), .ref (eO E)]) (rest := []) hx hb hml hown hB hK hW kcw_L_count kI_RL ⟨by decide +kernel, by decide +kernel⟩ (by decide +kernel) kst_L_count kM_RL_159 (wL_count l hfl hf (tel_c htel)) rfl dL_law_1167 rfl hl.1 (Nat.le_of_ble_eq_true rfl) ⟨Nat.le_of_ble_eq_true rfl, Nat.le_of_ble_eq_true rfl⟩ hcs (fun H locs hW => ?_)
  refine lv_istore (lv' := [(5, .int (μ' 20 0)), (4, .int (nI (5 * t))), (3, .ref (eO E)), (2, .ref (eA E 9)), (1, .ref (eA E 0)), (0, .ref b)]) hx hb dL_law_1170 hl (by decide) rfl (fun ls hl => ?_)
  refine lv_aload_n hx hb dL_law_1172 rfl (lv_at hl 3 rfl) ?_
  refine lv_aload_n hx hb dL_law_1173 rfl (lv_at hl 5 rfl) ?_
  refine lv_iload hx hb dL_law_1174 (lv_at hl 1 rfl) ?_
  refine lv_iconst (v := 1) hx hb dL_law_1176 (by decide) ?_
  refine lv_iadd hx hb dL_law_1177 ?_
  refine lo_sld (k := 5 * t + 1) hx hb hB hW hX hbl (by rw [show (1 : Int32) = nI 1 from rfl, nI_add]) (by omega) hL dL_law_1178 ?_
  refine lo_i (np := 1) (As := [.int (xs (5 * t + 1))]) (rest := []) (q := 9) (T := TX7) (N := 20) hx hb hml hown hB hK hW ⟨⟨kI_RX7, kc_X7_count, ⟨by decide +kernel, by decide +kernel⟩, by decide +kernel⟩, ki_X7_count, ks_X7_count⟩ kM_RL_161 rfl (by decide) (c_fx (by decide)) (mX7_count l hg) rfl dL_law_1179 rfl hl.1 (Nat.le_of_ble_eq_true rfl) ⟨Nat.le_of_ble_eq_true rfl, Nat.le_of_ble_eq_true rfl⟩ ⟨hcs.1, hcs.2⟩ (fun H locs hW => ?_)
  refine lv_istore (lv' := [(6, .int r), (5, .int (μ' 20 0)), (4, .int (nI (5 * t))), (3, .ref (eO E)), (2, .ref (eA E 9)), (1, .ref (eA E 0)), (0, .ref b)]) hx hb dL_law_1182 hl (by decide) rfl (fun ls hl => ?_)
  refine lv_aload_n hx hb dL_law_1184 rfl (lv_at hl 4 rfl) ?_
  refine lo_i (np := 0) (As := []) (rest := []) (q := 9) (T := TX7) (N := 20) hx hb hml hown hB hK hW ⟨⟨kI_RX7, kc_X7_thrown, ⟨by decide +kernel, by decide +kernel⟩, by decide +kernel⟩, ki_X7_thrown, ks_X7_thrown⟩ kM_RL_96 rfl (by decide) (c_fx (by decide)) (mX7_thrown l rfl) rfl dL_law_1185 rfl hl.1 (Nat.le_of_ble_eq_true rfl) ⟨Nat.le_of_ble_eq_true rfl, Nat.le_of_ble_eq_true rfl⟩ ⟨hcs.1, hcs.2⟩ (fun H locs hW => ?_)
  refine lv_iload hx hb dL_law_1188 (lv_at hl 1 rfl) ?_
  refine lv_icmp_eq (tgt := 1195) hx hb dL_law_1190 (by decide) (fun c1 => ?_) (fun c1 => absurd rfl c1)
  refine lv_iload hx hb dL_law_1195 (lv_at hl 1 rfl) ?_
  refine lv_if_ne (tgt := 1212) hx hb dL_law_1197 (by decide) (fun c2 => ?_) (fun c2 => ?_)
  · refine lv_goto (tgt := 1677) hx hb dL_law_1212 (by decide) ?_
    exact kk _ _ _ _ _ _ _ hR1 hW (lv_sub hl [2, 3, 4, 5, 6] rfl)
  refine lv_aload_n hx hb dL_law_1200 rfl (lv_at hl 3 rfl) ?_
  refine lv_iconst (v := 0) hx hb dL_law_1201 (by decide) ?_
  refine lo_lald hx hb hK hW dL_law_1202 ?_
  refine lv_iload hx hb dL_law_1203 (lv_at hl 0 rfl) ?_
  refine lv_i2l (v := (r).toInt64) hx hb dL_law_1205 rfl ?_
  refine W.lcmp hx hb dL_law_1206 ?_
  rw [tel_r htel c2, lg_cmp_self]
  refine lv_if_eq (tgt := 1212) hx hb dL_law_1207 (by decide) (fun c3 => ?_) (fun c3 => absurd rfl c3)
  refine lv_goto (tgt := 1677) hx hb dL_law_1212 (by decide) ?_
  exact kk _ _ _ _ _ _ _ hR1 hW (lv_sub hl [2, 3, 4, 5, 6] rfl)
set_option maxHeartbeats 4000000 in
set_option maxRecDepth 100000 in
theorem lc_setting (hfl : l.stackTraces = false) (hx : p.tables.exec = Jvm.exec) (hb : c.code = code) (hml : c.maxLocals = 9) (hown : s.vm.findClass RL = some m.cls) (hB : s.heap.size = eB E) (hK : Ko E s) (hX : va_X b L xs s s.heap) (hbl : b < s.heap.size) (hL : L ≤ 2560) (h5 : 5 * t + 5 ≤ L) (hcs : cells + 1 ≤ 1157 ∧ slots + 6 ≤ 14449) (hop : ∀ σ μ dg, Rel σ μ dg → ∀ (a1 : Int32), ∃ res σ' r μ', fX6_setting a1 σ = some (res, σ') ∧ fX7_setting a1 μ = some (r, μ') ∧ tel [1] res r (μ' 20 0) ∧ Rel σ' μ' dg) (hRl : Rel σ μ dg) (hW : Lk E σ μ dg w s H locs) (hl : lv_has ls 9 [(4, .int (nI (5 * t))), (3, .ref (eO E)), (2, .ref (eA E 9)), (1, .ref (eA E 0)), (0, .ref b)])
    (kk : ∀ (σ' μ' : Sg) (dg' w' : Int64) (H' : Heap) (locs' : List Loc) (ls' : Array Slot), Rel σ' μ' dg' → Lk E σ' μ' dg' w' s H' locs' → lv_has ls' 9 [(4, .int (nI (5 * t))), (3, .ref (eO E)), (2, .ref (eA E 9)), (1, .ref (eA E 0)), (0, .ref b)] → W p l e room_1 s m args below meth c H' locs' (cells + 1) (slots + 6) Q (F0 m 1677 ls' [])) : W p l e room_1 s m args below meth c H locs cells slots Q (F0 m 1215 ls []) := by
  obtain ⟨res, σ', r, μ', hf, hg, htel, hR1⟩ := hop σ μ dg hRl (xs (5 * t + 1))
  refine lv_aload_n hx hb dL_law_1215 rfl (lv_at hl 3 rfl) ?_
  refine lv_aload_n hx hb dL_law_1216 rfl (lv_at hl 4 rfl) ?_
  refine lv_iload hx hb dL_law_1217 (lv_at hl 0 rfl) ?_
  refine lv_iconst (v := 1) hx hb dL_law_1219 (by decide) ?_
  refine lv_iadd hx hb dL_law_1220 ?_
  refine lo_sld (k := 5 * t + 1) hx hb hB hW hX hbl (by rw [show (1 : Int32) = nI 1 from rfl, nI_add]) (by omega) hL dL_law_1221 ?_
  refine lv_aload_n hx hb dL_law_1222 rfl (lv_at hl 1 rfl) ?_
  refine lo_w (np := 3) (As := [.ref (eA E 0), .int (xs (5 * t + 1)), .ref (eO E)]) (rest := []) hx hb hml hown hB hK hW kcw_L_setting kI_RL ⟨by decide +kernel, by decide +kernel⟩ (by decide +kernel) kst_L_setting kM_RL_162 (wL_setting l hfl hf (tel_c htel)) rfl dL_law_1223 rfl hl.1 (Nat.le_of_ble_eq_true rfl) ⟨Nat.le_of_ble_eq_true rfl, Nat.le_of_ble_eq_true rfl⟩ hcs (fun H locs hW => ?_)
  refine lv_istore (lv' := [(5, .int (μ' 20 0)), (4, .int (nI (5 * t))), (3, .ref (eO E)), (2, .ref (eA E 9)), (1, .ref (eA E 0)), (0, .ref b)]) hx hb dL_law_1226 hl (by decide) rfl (fun ls hl => ?_)
  refine lv_aload_n hx hb dL_law_1228 rfl (lv_at hl 3 rfl) ?_
  refine lv_aload_n hx hb dL_law_1229 rfl (lv_at hl 5 rfl) ?_
  refine lv_iload hx hb dL_law_1230 (lv_at hl 1 rfl) ?_
  refine lv_iconst (v := 1) hx hb dL_law_1232 (by decide) ?_
  refine lv_iadd hx hb dL_law_1233 ?_
  refine lo_sld (k := 5 * t + 1) hx hb hB hW hX hbl (by rw [show (1 : Int32) = nI 1 from rfl, nI_add]) (by omega) hL dL_law_1234 ?_
  refine lo_i (np := 1) (As := [.int (xs (5 * t + 1))]) (rest := []) (q := 9) (T := TX7) (N := 20) hx hb hml hown hB hK hW ⟨⟨kI_RX7, kc_X7_setting, ⟨by decide +kernel, by decide +kernel⟩, by decide +kernel⟩, ki_X7_setting, ks_X7_setting⟩ kM_RL_164 rfl (by decide) (c_fx (by decide)) (mX7_setting l hg) rfl dL_law_1235 rfl hl.1 (Nat.le_of_ble_eq_true rfl) ⟨Nat.le_of_ble_eq_true rfl, Nat.le_of_ble_eq_true rfl⟩ ⟨hcs.1, hcs.2⟩ (fun H locs hW => ?_)
  refine lv_istore (lv' := [(6, .int r), (5, .int (μ' 20 0)), (4, .int (nI (5 * t))), (3, .ref (eO E)), (2, .ref (eA E 9)), (1, .ref (eA E 0)), (0, .ref b)]) hx hb dL_law_1238 hl (by decide) rfl (fun ls hl => ?_)
  refine lv_aload_n hx hb dL_law_1240 rfl (lv_at hl 4 rfl) ?_
  refine lo_i (np := 0) (As := []) (rest := []) (q := 9) (T := TX7) (N := 20) hx hb hml hown hB hK hW ⟨⟨kI_RX7, kc_X7_thrown, ⟨by decide +kernel, by decide +kernel⟩, by decide +kernel⟩, ki_X7_thrown, ks_X7_thrown⟩ kM_RL_96 rfl (by decide) (c_fx (by decide)) (mX7_thrown l rfl) rfl dL_law_1241 rfl hl.1 (Nat.le_of_ble_eq_true rfl) ⟨Nat.le_of_ble_eq_true rfl, Nat.le_of_ble_eq_true rfl⟩ ⟨hcs.1, hcs.2⟩ (fun H locs hW => ?_)
  refine lv_iload hx hb dL_law_1244 (lv_at hl 1 rfl) ?_
  refine lv_icmp_eq (tgt := 1251) hx hb dL_law_1246 (by decide) (fun c1 => ?_) (fun c1 => absurd rfl c1)
  refine lv_iload hx hb dL_law_1251 (lv_at hl 1 rfl) ?_
  refine lv_if_ne (tgt := 1268) hx hb dL_law_1253 (by decide) (fun c2 => ?_) (fun c2 => ?_)
  · refine lv_goto (tgt := 1677) hx hb dL_law_1268 (by decide) ?_
    exact kk _ _ _ _ _ _ _ hR1 hW (lv_sub hl [2, 3, 4, 5, 6] rfl)
  refine lv_aload_n hx hb dL_law_1256 rfl (lv_at hl 3 rfl) ?_
  refine lv_iconst (v := 0) hx hb dL_law_1257 (by decide) ?_
  refine lo_lald hx hb hK hW dL_law_1258 ?_
  refine lv_iload hx hb dL_law_1259 (lv_at hl 0 rfl) ?_
  refine lv_i2l (v := (r).toInt64) hx hb dL_law_1261 rfl ?_
  refine W.lcmp hx hb dL_law_1262 ?_
  rw [tel_r htel c2, lg_cmp_self]
  refine lv_if_eq (tgt := 1268) hx hb dL_law_1263 (by decide) (fun c3 => ?_) (fun c3 => absurd rfl c3)
  refine lv_goto (tgt := 1677) hx hb dL_law_1268 (by decide) ?_
  exact kk _ _ _ _ _ _ _ hR1 hW (lv_sub hl [2, 3, 4, 5, 6] rfl)
set_option maxHeartbeats 4000000 in
set_option maxRecDepth 100000 in
theorem lc_ifCoded (hfl : l.stackTraces = false) (hx : p.tables.exec = Jvm.exec) (hb : c.code = code) (hml : c.maxLocals = 9) (hown : s.vm.findClass RL = some m.cls) (hB : s.heap.size = eB E) (hK : Ko E s) (hX : va_X b L xs s s.heap) (hbl : b < s.heap.size) (hL : L ≤ 2560) (h5 : 5 * t + 5 ≤ L) (hcs : cells + 1 ≤ 1157 ∧ slots + 6 ≤ 14449) (hop : ∀ σ μ dg, Rel σ μ dg → ∀ (a1 : Int32) (a2 : Int32) (a3 : Int32) (a4 : Int32), ∃ res σ' r μ', fX6_ifCoded a1 a2 a3 a4 σ = some (res, σ') ∧ fX7_ifCoded a1 a2 a3 a4 μ = some (r, μ') ∧ tel [0] res r (μ' 20 0) ∧ Rel σ' μ' dg) (hRl : Rel σ μ dg) (hW : Lk E σ μ dg w s H locs) (hl : lv_has ls 9 [(4, .int (nI (5 * t))), (3, .ref (eO E)), (2, .ref (eA E 9)), (1, .ref (eA E 0)), (0, .ref b)])
    (kk : ∀ (σ' μ' : Sg) (dg' w' : Int64) (H' : Heap) (locs' : List Loc) (ls' : Array Slot), Rel σ' μ' dg' → Lk E σ' μ' dg' w' s H' locs' → lv_has ls' 9 [(4, .int (nI (5 * t))), (3, .ref (eO E)), (2, .ref (eA E 9)), (1, .ref (eA E 0)), (0, .ref b)] → W p l e room_1 s m args below meth c H' locs' (cells + 1) (slots + 6) Q (F0 m 1677 ls' [])) : W p l e room_1 s m args below meth c H locs cells slots Q (F0 m 1271 ls []) := by
  obtain ⟨res, σ', r, μ', hf, hg, htel, hR1⟩ := hop σ μ dg hRl (xs (5 * t + 1)) (xs (5 * t + 2)) (xs (5 * t + 3)) (xs (5 * t + 4))
  refine lv_aload_n hx hb dL_law_1271 rfl (lv_at hl 3 rfl) ?_
  refine lv_aload_n hx hb dL_law_1272 rfl (lv_at hl 4 rfl) ?_
  refine lv_iload hx hb dL_law_1273 (lv_at hl 0 rfl) ?_
  refine lv_iconst (v := 1) hx hb dL_law_1275 (by decide) ?_
  refine lv_iadd hx hb dL_law_1276 ?_
  refine lo_sld (k := 5 * t + 1) hx hb hB hW hX hbl (by rw [show (1 : Int32) = nI 1 from rfl, nI_add]) (by omega) hL dL_law_1277 ?_
  refine lv_aload_n hx hb dL_law_1278 rfl (lv_at hl 4 rfl) ?_
  refine lv_iload hx hb dL_law_1279 (lv_at hl 0 rfl) ?_
  refine lv_iconst (v := 2) hx hb dL_law_1281 (by decide) ?_
  refine lv_iadd hx hb dL_law_1282 ?_
  refine lo_sld (k := 5 * t + 2) hx hb hB hW hX hbl (by rw [show (2 : Int32) = nI 2 from rfl, nI_add]) (by omega) hL dL_law_1283 ?_
  refine lv_aload_n hx hb dL_law_1284 rfl (lv_at hl 4 rfl) ?_
  refine lv_iload hx hb dL_law_1285 (lv_at hl 0 rfl) ?_
  refine lv_iconst (v := 3) hx hb dL_law_1287 (by decide) ?_
  refine lv_iadd hx hb dL_law_1288 ?_
  refine lo_sld (k := 5 * t + 3) hx hb hB hW hX hbl (by rw [show (3 : Int32) = nI 3 from rfl, nI_add]) (by omega) hL dL_law_1289 ?_
  refine lv_aload_n hx hb dL_law_1290 rfl (lv_at hl 4 rfl) ?_
  refine lv_iload hx hb dL_law_1291 (lv_at hl 0 rfl) ?_
  refine lv_iconst (v := 4) hx hb dL_law_1293 (by decide) ?_
  refine lv_iadd hx hb dL_law_1294 ?_
  refine lo_sld (k := 5 * t + 4) hx hb hB hW hX hbl (by rw [show (4 : Int32) = nI 4 from rfl, nI_add]) (by omega) hL dL_law_1295 ?_
  refine lv_aload_n hx hb dL_law_1296 rfl (lv_at hl 1 rfl) ?_
  refine lo_w (np := 6) (As := [.ref (eA E 0), .int (xs (5 * t + 1)), .int (xs (5 * t + 2)), .int (xs (5 * t + 3)), .int (xs (5 * t + 4)), .ref (eO E)]) (rest := []) hx hb hml hown hB hK hW kcw_L_ifCoded kI_RL ⟨by decide +kernel, by decide +kernel⟩ (by decide +kernel) kst_L_ifCoded kM_RL_165 (wL_ifCoded l hfl hf (tel_c htel)) rfl dL_law_1297 rfl hl.1 (Nat.le_of_ble_eq_true rfl) ⟨Nat.le_of_ble_eq_true rfl, Nat.le_of_ble_eq_true rfl⟩ hcs (fun H locs hW => ?_)
  refine lv_istore (lv' := [(5, .int (μ' 20 0)), (4, .int (nI (5 * t))), (3, .ref (eO E)), (2, .ref (eA E 9)), (1, .ref (eA E 0)), (0, .ref b)]) hx hb dL_law_1300 hl (by decide) rfl (fun ls hl => ?_)
  refine lv_aload_n hx hb dL_law_1302 rfl (lv_at hl 3 rfl) ?_
  refine lv_aload_n hx hb dL_law_1303 rfl (lv_at hl 5 rfl) ?_
  refine lv_iload hx hb dL_law_1304 (lv_at hl 1 rfl) ?_
  refine lv_iconst (v := 1) hx hb dL_law_1306 (by decide) ?_
  refine lv_iadd hx hb dL_law_1307 ?_
  refine lo_sld (k := 5 * t + 1) hx hb hB hW hX hbl (by rw [show (1 : Int32) = nI 1 from rfl, nI_add]) (by omega) hL dL_law_1308 ?_
  refine lv_aload_n hx hb dL_law_1309 rfl (lv_at hl 5 rfl) ?_
  refine lv_iload hx hb dL_law_1310 (lv_at hl 1 rfl) ?_
  refine lv_iconst (v := 2) hx hb dL_law_1312 (by decide) ?_
  refine lv_iadd hx hb dL_law_1313 ?_
  refine lo_sld (k := 5 * t + 2) hx hb hB hW hX hbl (by rw [show (2 : Int32) = nI 2 from rfl, nI_add]) (by omega) hL dL_law_1314 ?_
  refine lv_aload_n hx hb dL_law_1315 rfl (lv_at hl 5 rfl) ?_
  refine lv_iload hx hb dL_law_1316 (lv_at hl 1 rfl) ?_
  refine lv_iconst (v := 3) hx hb dL_law_1318 (by decide) ?_
  refine lv_iadd hx hb dL_law_1319 ?_
  refine lo_sld (k := 5 * t + 3) hx hb hB hW hX hbl (by rw [show (3 : Int32) = nI 3 from rfl, nI_add]) (by omega) hL dL_law_1320 ?_
  refine lv_aload_n hx hb dL_law_1321 rfl (lv_at hl 5 rfl) ?_
  refine lv_iload hx hb dL_law_1322 (lv_at hl 1 rfl) ?_
  refine lv_iconst (v := 4) hx hb dL_law_1324 (by decide) ?_
  refine lv_iadd hx hb dL_law_1325 ?_
  refine lo_sld (k := 5 * t + 4) hx hb hB hW hX hbl (by rw [show (4 : Int32) = nI 4 from rfl, nI_add]) (by omega) hL dL_law_1326 ?_
  refine lo_i (np := 4) (As := [.int (xs (5 * t + 1)), .int (xs (5 * t + 2)), .int (xs (5 * t + 3)), .int (xs (5 * t + 4))]) (rest := []) (q := 9) (T := TX7) (N := 20) hx hb hml hown hB hK hW ⟨⟨kI_RX7, kc_X7_ifCoded, ⟨by decide +kernel, by decide +kernel⟩, by decide +kernel⟩, ki_X7_ifCoded, ks_X7_ifCoded⟩ kM_RL_168 rfl (by decide) (c_fx (by decide)) (mX7_ifCoded l hg) rfl dL_law_1327 rfl hl.1 (Nat.le_of_ble_eq_true rfl) ⟨Nat.le_of_ble_eq_true rfl, Nat.le_of_ble_eq_true rfl⟩ ⟨hcs.1, hcs.2⟩ (fun H locs hW => ?_)
  refine lv_istore (lv' := [(6, .int r), (5, .int (μ' 20 0)), (4, .int (nI (5 * t))), (3, .ref (eO E)), (2, .ref (eA E 9)), (1, .ref (eA E 0)), (0, .ref b)]) hx hb dL_law_1330 hl (by decide) rfl (fun ls hl => ?_)
  refine lv_aload_n hx hb dL_law_1332 rfl (lv_at hl 4 rfl) ?_
  refine lo_i (np := 0) (As := []) (rest := []) (q := 9) (T := TX7) (N := 20) hx hb hml hown hB hK hW ⟨⟨kI_RX7, kc_X7_thrown, ⟨by decide +kernel, by decide +kernel⟩, by decide +kernel⟩, ki_X7_thrown, ks_X7_thrown⟩ kM_RL_96 rfl (by decide) (c_fx (by decide)) (mX7_thrown l rfl) rfl dL_law_1333 rfl hl.1 (Nat.le_of_ble_eq_true rfl) ⟨Nat.le_of_ble_eq_true rfl, Nat.le_of_ble_eq_true rfl⟩ ⟨hcs.1, hcs.2⟩ (fun H locs hW => ?_)
  refine lv_iload hx hb dL_law_1336 (lv_at hl 1 rfl) ?_
  refine lv_icmp_eq (tgt := 1343) hx hb dL_law_1338 (by decide) (fun c1 => ?_) (fun c1 => absurd rfl c1)
  refine lv_iload hx hb dL_law_1343 (lv_at hl 1 rfl) ?_
  refine lv_if_ne (tgt := 1360) hx hb dL_law_1345 (by decide) (fun c2 => ?_) (fun c2 => ?_)
  · refine lv_goto (tgt := 1677) hx hb dL_law_1360 (by decide) ?_
    exact kk _ _ _ _ _ _ _ hR1 hW (lv_sub hl [2, 3, 4, 5, 6] rfl)
  refine lv_aload_n hx hb dL_law_1348 rfl (lv_at hl 3 rfl) ?_
  refine lv_iconst (v := 0) hx hb dL_law_1349 (by decide) ?_
  refine lo_lald hx hb hK hW dL_law_1350 ?_
  refine lv_iload hx hb dL_law_1351 (lv_at hl 0 rfl) ?_
  refine lv_i2l (v := (r).toInt64) hx hb dL_law_1353 rfl ?_
  refine W.lcmp hx hb dL_law_1354 ?_
  rw [tel_r htel c2, lg_cmp_self]
  refine lv_if_eq (tgt := 1360) hx hb dL_law_1355 (by decide) (fun c3 => ?_) (fun c3 => absurd rfl c3)
  refine lv_goto (tgt := 1677) hx hb dL_law_1360 (by decide) ?_
  exact kk _ _ _ _ _ _ _ hR1 hW (lv_sub hl [2, 3, 4, 5, 6] rfl)
set_option maxHeartbeats 4000000 in
set_option maxRecDepth 100000 in
theorem lc_ifBlock (hfl : l.stackTraces = false) (hx : p.tables.exec = Jvm.exec) (hb : c.code = code) (hml : c.maxLocals = 9) (hown : s.vm.findClass RL = some m.cls) (hB : s.heap.size = eB E) (hK : Ko E s) (hX : va_X b L xs s s.heap) (hbl : b < s.heap.size) (hL : L ≤ 2560) (h5 : 5 * t + 5 ≤ L) (hcs : cells + 1 ≤ 1157 ∧ slots + 6 ≤ 14449) (hop : ∀ σ μ dg, Rel σ μ dg → ∀ (a1 : Int32) (a2 : Int32) (a3 : Int32), ∃ res σ' r μ', fX6_ifBlock a1 a2 a3 σ = some (res, σ') ∧ fX7_ifBlock a1 a2 a3 μ = some (r, μ') ∧ tel [1, 0] res r (μ' 20 0) ∧ Rel σ' μ' dg) (hRl : Rel σ μ dg) (hW : Lk E σ μ dg w s H locs) (hl : lv_has ls 9 [(4, .int (nI (5 * t))), (3, .ref (eO E)), (2, .ref (eA E 9)), (1, .ref (eA E 0)), (0, .ref b)])
    (kk : ∀ (σ' μ' : Sg) (dg' w' : Int64) (H' : Heap) (locs' : List Loc) (ls' : Array Slot), Rel σ' μ' dg' → Lk E σ' μ' dg' w' s H' locs' → lv_has ls' 9 [(4, .int (nI (5 * t))), (3, .ref (eO E)), (2, .ref (eA E 9)), (1, .ref (eA E 0)), (0, .ref b)] → W p l e room_1 s m args below meth c H' locs' (cells + 1) (slots + 6) Q (F0 m 1677 ls' [])) : W p l e room_1 s m args below meth c H locs cells slots Q (F0 m 1363 ls []) := by
  obtain ⟨res, σ', r, μ', hf, hg, htel, hR1⟩ := hop σ μ dg hRl (xs (5 * t + 1)) (xs (5 * t + 2)) (xs (5 * t + 3))
  refine lv_aload_n hx hb dL_law_1363 rfl (lv_at hl 3 rfl) ?_
  refine lv_aload_n hx hb dL_law_1364 rfl (lv_at hl 4 rfl) ?_
  refine lv_iload hx hb dL_law_1365 (lv_at hl 0 rfl) ?_
  refine lv_iconst (v := 1) hx hb dL_law_1367 (by decide) ?_
  refine lv_iadd hx hb dL_law_1368 ?_
  refine lo_sld (k := 5 * t + 1) hx hb hB hW hX hbl (by rw [show (1 : Int32) = nI 1 from rfl, nI_add]) (by omega) hL dL_law_1369 ?_
  refine lv_aload_n hx hb dL_law_1370 rfl (lv_at hl 4 rfl) ?_
  refine lv_iload hx hb dL_law_1371 (lv_at hl 0 rfl) ?_
  refine lv_iconst (v := 2) hx hb dL_law_1373 (by decide) ?_
  refine lv_iadd hx hb dL_law_1374 ?_
  refine lo_sld (k := 5 * t + 2) hx hb hB hW hX hbl (by rw [show (2 : Int32) = nI 2 from rfl, nI_add]) (by omega) hL dL_law_1375 ?_
  refine lv_aload_n hx hb dL_law_1376 rfl (lv_at hl 4 rfl) ?_
  refine lv_iload hx hb dL_law_1377 (lv_at hl 0 rfl) ?_
  refine lv_iconst (v := 3) hx hb dL_law_1379 (by decide) ?_
  refine lv_iadd hx hb dL_law_1380 ?_
  refine lo_sld (k := 5 * t + 3) hx hb hB hW hX hbl (by rw [show (3 : Int32) = nI 3 from rfl, nI_add]) (by omega) hL dL_law_1381 ?_
  refine lv_aload_n hx hb dL_law_1382 rfl (lv_at hl 1 rfl) ?_
  refine lo_w (np := 5) (As := [.ref (eA E 0), .int (xs (5 * t + 1)), .int (xs (5 * t + 2)), .int (xs (5 * t + 3)), .ref (eO E)]) (rest := []) hx hb hml hown hB hK hW kcw_L_ifBlock kI_RL ⟨by decide +kernel, by decide +kernel⟩ (by decide +kernel) kst_L_ifBlock kM_RL_169 (wL_ifBlock l hfl hf (tel_c htel)) rfl dL_law_1383 rfl hl.1 (Nat.le_of_ble_eq_true rfl) ⟨Nat.le_of_ble_eq_true rfl, Nat.le_of_ble_eq_true rfl⟩ hcs (fun H locs hW => ?_)
  refine lv_istore (lv' := [(5, .int (μ' 20 0)), (4, .int (nI (5 * t))), (3, .ref (eO E)), (2, .ref (eA E 9)), (1, .ref (eA E 0)), (0, .ref b)]) hx hb dL_law_1386 hl (by decide) rfl (fun ls hl => ?_)
  refine lv_aload_n hx hb dL_law_1388 rfl (lv_at hl 3 rfl) ?_
  refine lv_aload_n hx hb dL_law_1389 rfl (lv_at hl 5 rfl) ?_
  refine lv_iload hx hb dL_law_1390 (lv_at hl 1 rfl) ?_
  refine lv_iconst (v := 1) hx hb dL_law_1392 (by decide) ?_
  refine lv_iadd hx hb dL_law_1393 ?_
  refine lo_sld (k := 5 * t + 1) hx hb hB hW hX hbl (by rw [show (1 : Int32) = nI 1 from rfl, nI_add]) (by omega) hL dL_law_1394 ?_
  refine lv_aload_n hx hb dL_law_1395 rfl (lv_at hl 5 rfl) ?_
  refine lv_iload hx hb dL_law_1396 (lv_at hl 1 rfl) ?_
  refine lv_iconst (v := 2) hx hb dL_law_1398 (by decide) ?_
  refine lv_iadd hx hb dL_law_1399 ?_
  refine lo_sld (k := 5 * t + 2) hx hb hB hW hX hbl (by rw [show (2 : Int32) = nI 2 from rfl, nI_add]) (by omega) hL dL_law_1400 ?_
  refine lv_aload_n hx hb dL_law_1401 rfl (lv_at hl 5 rfl) ?_
  refine lv_iload hx hb dL_law_1402 (lv_at hl 1 rfl) ?_
  refine lv_iconst (v := 3) hx hb dL_law_1404 (by decide) ?_
  refine lv_iadd hx hb dL_law_1405 ?_
  refine lo_sld (k := 5 * t + 3) hx hb hB hW hX hbl (by rw [show (3 : Int32) = nI 3 from rfl, nI_add]) (by omega) hL dL_law_1406 ?_
  refine lo_i (np := 3) (As := [.int (xs (5 * t + 1)), .int (xs (5 * t + 2)), .int (xs (5 * t + 3))]) (rest := []) (q := 9) (T := TX7) (N := 20) hx hb hml hown hB hK hW ⟨⟨kI_RX7, kc_X7_ifBlock, ⟨by decide +kernel, by decide +kernel⟩, by decide +kernel⟩, ki_X7_ifBlock, ks_X7_ifBlock⟩ kM_RL_171 rfl (by decide) (c_fx (by decide)) (mX7_ifBlock l hg) rfl dL_law_1407 rfl hl.1 (Nat.le_of_ble_eq_true rfl) ⟨Nat.le_of_ble_eq_true rfl, Nat.le_of_ble_eq_true rfl⟩ ⟨hcs.1, hcs.2⟩ (fun H locs hW => ?_)
  refine lv_istore (lv' := [(6, .int r), (5, .int (μ' 20 0)), (4, .int (nI (5 * t))), (3, .ref (eO E)), (2, .ref (eA E 9)), (1, .ref (eA E 0)), (0, .ref b)]) hx hb dL_law_1410 hl (by decide) rfl (fun ls hl => ?_)
  refine lv_aload_n hx hb dL_law_1412 rfl (lv_at hl 4 rfl) ?_
  refine lo_i (np := 0) (As := []) (rest := []) (q := 9) (T := TX7) (N := 20) hx hb hml hown hB hK hW ⟨⟨kI_RX7, kc_X7_thrown, ⟨by decide +kernel, by decide +kernel⟩, by decide +kernel⟩, ki_X7_thrown, ks_X7_thrown⟩ kM_RL_96 rfl (by decide) (c_fx (by decide)) (mX7_thrown l rfl) rfl dL_law_1413 rfl hl.1 (Nat.le_of_ble_eq_true rfl) ⟨Nat.le_of_ble_eq_true rfl, Nat.le_of_ble_eq_true rfl⟩ ⟨hcs.1, hcs.2⟩ (fun H locs hW => ?_)
  refine lv_iload hx hb dL_law_1416 (lv_at hl 1 rfl) ?_
  refine lv_icmp_eq (tgt := 1423) hx hb dL_law_1418 (by decide) (fun c1 => ?_) (fun c1 => absurd rfl c1)
  refine lv_iload hx hb dL_law_1423 (lv_at hl 1 rfl) ?_
  refine lv_if_ne (tgt := 1440) hx hb dL_law_1425 (by decide) (fun c2 => ?_) (fun c2 => ?_)
  · refine lv_goto (tgt := 1677) hx hb dL_law_1440 (by decide) ?_
    exact kk _ _ _ _ _ _ _ hR1 hW (lv_sub hl [2, 3, 4, 5, 6] rfl)
  refine lv_aload_n hx hb dL_law_1428 rfl (lv_at hl 3 rfl) ?_
  refine lv_iconst (v := 0) hx hb dL_law_1429 (by decide) ?_
  refine lo_lald hx hb hK hW dL_law_1430 ?_
  refine lv_iload hx hb dL_law_1431 (lv_at hl 0 rfl) ?_
  refine lv_i2l (v := (r).toInt64) hx hb dL_law_1433 rfl ?_
  refine W.lcmp hx hb dL_law_1434 ?_
  rw [tel_r htel c2, lg_cmp_self]
  refine lv_if_eq (tgt := 1440) hx hb dL_law_1435 (by decide) (fun c3 => ?_) (fun c3 => absurd rfl c3)
  refine lv_goto (tgt := 1677) hx hb dL_law_1440 (by decide) ?_
  exact kk _ _ _ _ _ _ _ hR1 hW (lv_sub hl [2, 3, 4, 5, 6] rfl)
set_option maxHeartbeats 4000000 in
set_option maxRecDepth 100000 in
theorem lc_bestStep (hfl : l.stackTraces = false) (hx : p.tables.exec = Jvm.exec) (hb : c.code = code) (hml : c.maxLocals = 9) (hown : s.vm.findClass RL = some m.cls) (hB : s.heap.size = eB E) (hK : Ko E s) (hX : va_X b L xs s s.heap) (hbl : b < s.heap.size) (hL : L ≤ 2560) (h5 : 5 * t + 5 ≤ L) (hcs : cells + 1 ≤ 1157 ∧ slots + 6 ≤ 14449) (hop : ∀ σ μ dg, Rel σ μ dg → ∀ (a1 : Int32) (a2 : Int32), ∃ res σ' r μ', fX6_bestStep a1 a2 σ = some (res, σ') ∧ fX7_bestStep a1 a2 μ = some (r, μ') ∧ tel [1] res r (μ' 20 0) ∧ Rel σ' μ' dg) (hRl : Rel σ μ dg) (hW : Lk E σ μ dg w s H locs) (hl : lv_has ls 9 [(4, .int (nI (5 * t))), (3, .ref (eO E)), (2, .ref (eA E 9)), (1, .ref (eA E 0)), (0, .ref b)])
    (kk : ∀ (σ' μ' : Sg) (dg' w' : Int64) (H' : Heap) (locs' : List Loc) (ls' : Array Slot), Rel σ' μ' dg' → Lk E σ' μ' dg' w' s H' locs' → lv_has ls' 9 [(4, .int (nI (5 * t))), (3, .ref (eO E)), (2, .ref (eA E 9)), (1, .ref (eA E 0)), (0, .ref b)] → W p l e room_1 s m args below meth c H' locs' (cells + 1) (slots + 6) Q (F0 m 1677 ls' [])) : W p l e room_1 s m args below meth c H locs cells slots Q (F0 m 1443 ls []) := by
  obtain ⟨res, σ', r, μ', hf, hg, htel, hR1⟩ := hop σ μ dg hRl (xs (5 * t + 1)) (xs (5 * t + 2))
  refine lv_aload_n hx hb dL_law_1443 rfl (lv_at hl 3 rfl) ?_
  refine lv_aload_n hx hb dL_law_1444 rfl (lv_at hl 4 rfl) ?_
  refine lv_iload hx hb dL_law_1445 (lv_at hl 0 rfl) ?_
  refine lv_iconst (v := 1) hx hb dL_law_1447 (by decide) ?_
  refine lv_iadd hx hb dL_law_1448 ?_
  refine lo_sld (k := 5 * t + 1) hx hb hB hW hX hbl (by rw [show (1 : Int32) = nI 1 from rfl, nI_add]) (by omega) hL dL_law_1449 ?_
  refine lv_aload_n hx hb dL_law_1450 rfl (lv_at hl 4 rfl) ?_
  refine lv_iload hx hb dL_law_1451 (lv_at hl 0 rfl) ?_
  refine lv_iconst (v := 2) hx hb dL_law_1453 (by decide) ?_
  refine lv_iadd hx hb dL_law_1454 ?_
  refine lo_sld (k := 5 * t + 2) hx hb hB hW hX hbl (by rw [show (2 : Int32) = nI 2 from rfl, nI_add]) (by omega) hL dL_law_1455 ?_
  refine lv_aload_n hx hb dL_law_1456 rfl (lv_at hl 1 rfl) ?_
  refine lo_w (np := 4) (As := [.ref (eA E 0), .int (xs (5 * t + 1)), .int (xs (5 * t + 2)), .ref (eO E)]) (rest := []) hx hb hml hown hB hK hW kcw_L_bestStep kI_RL ⟨by decide +kernel, by decide +kernel⟩ (by decide +kernel) kst_L_bestStep kM_RL_172 (wL_bestStep l hfl hf (tel_c htel)) rfl dL_law_1457 rfl hl.1 (Nat.le_of_ble_eq_true rfl) ⟨Nat.le_of_ble_eq_true rfl, Nat.le_of_ble_eq_true rfl⟩ hcs (fun H locs hW => ?_)
  refine lv_istore (lv' := [(5, .int (μ' 20 0)), (4, .int (nI (5 * t))), (3, .ref (eO E)), (2, .ref (eA E 9)), (1, .ref (eA E 0)), (0, .ref b)]) hx hb dL_law_1460 hl (by decide) rfl (fun ls hl => ?_)
  refine lv_aload_n hx hb dL_law_1462 rfl (lv_at hl 3 rfl) ?_
  refine lv_aload_n hx hb dL_law_1463 rfl (lv_at hl 5 rfl) ?_
  refine lv_iload hx hb dL_law_1464 (lv_at hl 1 rfl) ?_
  refine lv_iconst (v := 1) hx hb dL_law_1466 (by decide) ?_
  refine lv_iadd hx hb dL_law_1467 ?_
  refine lo_sld (k := 5 * t + 1) hx hb hB hW hX hbl (by rw [show (1 : Int32) = nI 1 from rfl, nI_add]) (by omega) hL dL_law_1468 ?_
  refine lv_aload_n hx hb dL_law_1469 rfl (lv_at hl 5 rfl) ?_
  refine lv_iload hx hb dL_law_1470 (lv_at hl 1 rfl) ?_
  refine lv_iconst (v := 2) hx hb dL_law_1472 (by decide) ?_
  refine lv_iadd hx hb dL_law_1473 ?_
  refine lo_sld (k := 5 * t + 2) hx hb hB hW hX hbl (by rw [show (2 : Int32) = nI 2 from rfl, nI_add]) (by omega) hL dL_law_1474 ?_
  refine lo_i (np := 2) (As := [.int (xs (5 * t + 1)), .int (xs (5 * t + 2))]) (rest := []) (q := 9) (T := TX7) (N := 20) hx hb hml hown hB hK hW ⟨⟨kI_RX7, kc_X7_bestStep, ⟨by decide +kernel, by decide +kernel⟩, by decide +kernel⟩, ki_X7_bestStep, ks_X7_bestStep⟩ kM_RL_174 rfl (by decide) (c_fx (by decide)) (mX7_bestStep l hg) rfl dL_law_1475 rfl hl.1 (Nat.le_of_ble_eq_true rfl) ⟨Nat.le_of_ble_eq_true rfl, Nat.le_of_ble_eq_true rfl⟩ ⟨hcs.1, hcs.2⟩ (fun H locs hW => ?_)
  refine lv_istore (lv' := [(6, .int r), (5, .int (μ' 20 0)), (4, .int (nI (5 * t))), (3, .ref (eO E)), (2, .ref (eA E 9)), (1, .ref (eA E 0)), (0, .ref b)]) hx hb dL_law_1478 hl (by decide) rfl (fun ls hl => ?_)
  refine lv_aload_n hx hb dL_law_1480 rfl (lv_at hl 4 rfl) ?_
  refine lo_i (np := 0) (As := []) (rest := []) (q := 9) (T := TX7) (N := 20) hx hb hml hown hB hK hW ⟨⟨kI_RX7, kc_X7_thrown, ⟨by decide +kernel, by decide +kernel⟩, by decide +kernel⟩, ki_X7_thrown, ks_X7_thrown⟩ kM_RL_96 rfl (by decide) (c_fx (by decide)) (mX7_thrown l rfl) rfl dL_law_1481 rfl hl.1 (Nat.le_of_ble_eq_true rfl) ⟨Nat.le_of_ble_eq_true rfl, Nat.le_of_ble_eq_true rfl⟩ ⟨hcs.1, hcs.2⟩ (fun H locs hW => ?_)
  refine lv_iload hx hb dL_law_1484 (lv_at hl 1 rfl) ?_
  refine lv_icmp_eq (tgt := 1491) hx hb dL_law_1486 (by decide) (fun c1 => ?_) (fun c1 => absurd rfl c1)
  refine lv_iload hx hb dL_law_1491 (lv_at hl 1 rfl) ?_
  refine lv_if_ne (tgt := 1508) hx hb dL_law_1493 (by decide) (fun c2 => ?_) (fun c2 => ?_)
  · refine lv_goto (tgt := 1677) hx hb dL_law_1508 (by decide) ?_
    exact kk _ _ _ _ _ _ _ hR1 hW (lv_sub hl [2, 3, 4, 5, 6] rfl)
  refine lv_aload_n hx hb dL_law_1496 rfl (lv_at hl 3 rfl) ?_
  refine lv_iconst (v := 0) hx hb dL_law_1497 (by decide) ?_
  refine lo_lald hx hb hK hW dL_law_1498 ?_
  refine lv_iload hx hb dL_law_1499 (lv_at hl 0 rfl) ?_
  refine lv_i2l (v := (r).toInt64) hx hb dL_law_1501 rfl ?_
  refine W.lcmp hx hb dL_law_1502 ?_
  rw [tel_r htel c2, lg_cmp_self]
  refine lv_if_eq (tgt := 1508) hx hb dL_law_1503 (by decide) (fun c3 => ?_) (fun c3 => absurd rfl c3)
  refine lv_goto (tgt := 1677) hx hb dL_law_1508 (by decide) ?_
  exact kk _ _ _ _ _ _ _ hR1 hW (lv_sub hl [2, 3, 4, 5, 6] rfl)
set_option maxHeartbeats 4000000 in
set_option maxRecDepth 100000 in
theorem lc_ifSpoiled (hfl : l.stackTraces = false) (hx : p.tables.exec = Jvm.exec) (hb : c.code = code) (hml : c.maxLocals = 9) (hown : s.vm.findClass RL = some m.cls) (hB : s.heap.size = eB E) (hK : Ko E s) (hX : va_X b L xs s s.heap) (hbl : b < s.heap.size) (hL : L ≤ 2560) (h5 : 5 * t + 5 ≤ L) (hcs : cells + 1 ≤ 1157 ∧ slots + 6 ≤ 14449) (hop : ∀ σ μ dg, Rel σ μ dg → ∀ (a1 : Int32) (a2 : Int32), ∃ res σ' r μ', fX6_ifSpoiled a1 a2 σ = some (res, σ') ∧ fX7_ifSpoiled a1 a2 μ = some (r, μ') ∧ tel [1, 0] res r (μ' 20 0) ∧ Rel σ' μ' dg) (hRl : Rel σ μ dg) (hW : Lk E σ μ dg w s H locs) (hl : lv_has ls 9 [(4, .int (nI (5 * t))), (3, .ref (eO E)), (2, .ref (eA E 9)), (1, .ref (eA E 0)), (0, .ref b)])
    (kk : ∀ (σ' μ' : Sg) (dg' w' : Int64) (H' : Heap) (locs' : List Loc) (ls' : Array Slot), Rel σ' μ' dg' → Lk E σ' μ' dg' w' s H' locs' → lv_has ls' 9 [(4, .int (nI (5 * t))), (3, .ref (eO E)), (2, .ref (eA E 9)), (1, .ref (eA E 0)), (0, .ref b)] → W p l e room_1 s m args below meth c H' locs' (cells + 1) (slots + 6) Q (F0 m 1677 ls' [])) : W p l e room_1 s m args below meth c H locs cells slots Q (F0 m 1511 ls []) := by
  obtain ⟨res, σ', r, μ', hf, hg, htel, hR1⟩ := hop σ μ dg hRl (xs (5 * t + 1)) (xs (5 * t + 2))
  refine lv_aload_n hx hb dL_law_1511 rfl (lv_at hl 3 rfl) ?_
  refine lv_aload_n hx hb dL_law_1512 rfl (lv_at hl 4 rfl) ?_
  refine lv_iload hx hb dL_law_1513 (lv_at hl 0 rfl) ?_
  refine lv_iconst (v := 1) hx hb dL_law_1515 (by decide) ?_
  refine lv_iadd hx hb dL_law_1516 ?_
  refine lo_sld (k := 5 * t + 1) hx hb hB hW hX hbl (by rw [show (1 : Int32) = nI 1 from rfl, nI_add]) (by omega) hL dL_law_1517 ?_
  refine lv_aload_n hx hb dL_law_1518 rfl (lv_at hl 4 rfl) ?_
  refine lv_iload hx hb dL_law_1519 (lv_at hl 0 rfl) ?_
  refine lv_iconst (v := 2) hx hb dL_law_1521 (by decide) ?_
  refine lv_iadd hx hb dL_law_1522 ?_
  refine lo_sld (k := 5 * t + 2) hx hb hB hW hX hbl (by rw [show (2 : Int32) = nI 2 from rfl, nI_add]) (by omega) hL dL_law_1523 ?_
  refine lv_aload_n hx hb dL_law_1524 rfl (lv_at hl 1 rfl) ?_
  refine lo_w (np := 4) (As := [.ref (eA E 0), .int (xs (5 * t + 1)), .int (xs (5 * t + 2)), .ref (eO E)]) (rest := []) hx hb hml hown hB hK hW kcw_L_ifSpoiled kI_RL ⟨by decide +kernel, by decide +kernel⟩ (by decide +kernel) kst_L_ifSpoiled kM_RL_175 (wL_ifSpoiled l hfl hf (tel_c htel)) rfl dL_law_1525 rfl hl.1 (Nat.le_of_ble_eq_true rfl) ⟨Nat.le_of_ble_eq_true rfl, Nat.le_of_ble_eq_true rfl⟩ hcs (fun H locs hW => ?_)
  refine lv_istore (lv' := [(5, .int (μ' 20 0)), (4, .int (nI (5 * t))), (3, .ref (eO E)), (2, .ref (eA E 9)), (1, .ref (eA E 0)), (0, .ref b)]) hx hb dL_law_1528 hl (by decide) rfl (fun ls hl => ?_)
  refine lv_aload_n hx hb dL_law_1530 rfl (lv_at hl 3 rfl) ?_
  refine lv_aload_n hx hb dL_law_1531 rfl (lv_at hl 5 rfl) ?_
  refine lv_iload hx hb dL_law_1532 (lv_at hl 1 rfl) ?_
  refine lv_iconst (v := 1) hx hb dL_law_1534 (by decide) ?_
  refine lv_iadd hx hb dL_law_1535 ?_
  refine lo_sld (k := 5 * t + 1) hx hb hB hW hX hbl (by rw [show (1 : Int32) = nI 1 from rfl, nI_add]) (by omega) hL dL_law_1536 ?_
  refine lv_aload_n hx hb dL_law_1537 rfl (lv_at hl 5 rfl) ?_
  refine lv_iload hx hb dL_law_1538 (lv_at hl 1 rfl) ?_
  refine lv_iconst (v := 2) hx hb dL_law_1540 (by decide) ?_
  refine lv_iadd hx hb dL_law_1541 ?_
  refine lo_sld (k := 5 * t + 2) hx hb hB hW hX hbl (by rw [show (2 : Int32) = nI 2 from rfl, nI_add]) (by omega) hL dL_law_1542 ?_
  refine lo_i (np := 2) (As := [.int (xs (5 * t + 1)), .int (xs (5 * t + 2))]) (rest := []) (q := 9) (T := TX7) (N := 20) hx hb hml hown hB hK hW ⟨⟨kI_RX7, kc_X7_ifSpoiled, ⟨by decide +kernel, by decide +kernel⟩, by decide +kernel⟩, ki_X7_ifSpoiled, ks_X7_ifSpoiled⟩ kM_RL_177 rfl (by decide) (c_fx (by decide)) (mX7_ifSpoiled l hg) rfl dL_law_1543 rfl hl.1 (Nat.le_of_ble_eq_true rfl) ⟨Nat.le_of_ble_eq_true rfl, Nat.le_of_ble_eq_true rfl⟩ ⟨hcs.1, hcs.2⟩ (fun H locs hW => ?_)
  refine lv_istore (lv' := [(6, .int r), (5, .int (μ' 20 0)), (4, .int (nI (5 * t))), (3, .ref (eO E)), (2, .ref (eA E 9)), (1, .ref (eA E 0)), (0, .ref b)]) hx hb dL_law_1546 hl (by decide) rfl (fun ls hl => ?_)
  refine lv_aload_n hx hb dL_law_1548 rfl (lv_at hl 4 rfl) ?_
  refine lo_i (np := 0) (As := []) (rest := []) (q := 9) (T := TX7) (N := 20) hx hb hml hown hB hK hW ⟨⟨kI_RX7, kc_X7_thrown, ⟨by decide +kernel, by decide +kernel⟩, by decide +kernel⟩, ki_X7_thrown, ks_X7_thrown⟩ kM_RL_96 rfl (by decide) (c_fx (by decide)) (mX7_thrown l rfl) rfl dL_law_1549 rfl hl.1 (Nat.le_of_ble_eq_true rfl) ⟨Nat.le_of_ble_eq_true rfl, Nat.le_of_ble_eq_true rfl⟩ ⟨hcs.1, hcs.2⟩ (fun H locs hW => ?_)
  refine lv_iload hx hb dL_law_1552 (lv_at hl 1 rfl) ?_
  refine lv_icmp_eq (tgt := 1559) hx hb dL_law_1554 (by decide) (fun c1 => ?_) (fun c1 => absurd rfl c1)
  refine lv_iload hx hb dL_law_1559 (lv_at hl 1 rfl) ?_
  refine lv_if_ne (tgt := 1576) hx hb dL_law_1561 (by decide) (fun c2 => ?_) (fun c2 => ?_)
  · refine lv_goto (tgt := 1677) hx hb dL_law_1576 (by decide) ?_
    exact kk _ _ _ _ _ _ _ hR1 hW (lv_sub hl [2, 3, 4, 5, 6] rfl)
  refine lv_aload_n hx hb dL_law_1564 rfl (lv_at hl 3 rfl) ?_
  refine lv_iconst (v := 0) hx hb dL_law_1565 (by decide) ?_
  refine lo_lald hx hb hK hW dL_law_1566 ?_
  refine lv_iload hx hb dL_law_1567 (lv_at hl 0 rfl) ?_
  refine lv_i2l (v := (r).toInt64) hx hb dL_law_1569 rfl ?_
  refine W.lcmp hx hb dL_law_1570 ?_
  rw [tel_r htel c2, lg_cmp_self]
  refine lv_if_eq (tgt := 1576) hx hb dL_law_1571 (by decide) (fun c3 => ?_) (fun c3 => absurd rfl c3)
  refine lv_goto (tgt := 1677) hx hb dL_law_1576 (by decide) ?_
  exact kk _ _ _ _ _ _ _ hR1 hW (lv_sub hl [2, 3, 4, 5, 6] rfl)
set_option maxHeartbeats 4000000 in
set_option maxRecDepth 100000 in
theorem lc_meanSquare (hfl : l.stackTraces = false) (hx : p.tables.exec = Jvm.exec) (hb : c.code = code) (hml : c.maxLocals = 9) (hown : s.vm.findClass RL = some m.cls) (hB : s.heap.size = eB E) (hK : Ko E s) (hX : va_X b L xs s s.heap) (hbl : b < s.heap.size) (hL : L ≤ 2560) (h5 : 5 * t + 5 ≤ L) (hcs : cells + 1 ≤ 1157 ∧ slots + 6 ≤ 14449) (hop : ∀ σ μ dg, Rel σ μ dg → ∃ r σ' μ', fX6_meanSquare σ = some (r, σ') ∧ fX7_meanSquare μ = some (r, μ') ∧ Op.cmpValue (FP.dcmp r r) .l = 0 ∧ Rel σ' μ' dg) (hRl : Rel σ μ dg) (hW : Lk E σ μ dg w s H locs) (hl : lv_has ls 9 [(4, .int (nI (5 * t))), (3, .ref (eO E)), (2, .ref (eA E 9)), (1, .ref (eA E 0)), (0, .ref b)])
    (kk : ∀ (σ' μ' : Sg) (dg' w' : Int64) (H' : Heap) (locs' : List Loc) (ls' : Array Slot), Rel σ' μ' dg' → Lk E σ' μ' dg' w' s H' locs' → lv_has ls' 9 [(4, .int (nI (5 * t))), (3, .ref (eO E)), (2, .ref (eA E 9)), (1, .ref (eA E 0)), (0, .ref b)] → W p l e room_1 s m args below meth c H' locs' (cells + 1) (slots + 6) Q (F0 m 1677 ls' [])) : W p l e room_1 s m args below meth c H locs cells slots Q (F0 m 1579 ls []) := by
  obtain ⟨r, σ', μ', hf, hg, hcmp, hR1⟩ := hop σ μ dg hRl
  refine lv_aload_n hx hb dL_law_1579 rfl (lv_at hl 3 rfl) ?_
  refine lo_d (np := 0) (As := []) (rest := []) (q := 0) (T := TX6) (N := 9) hx hb hml hown hB hK hW ⟨⟨kI_RX6, kc_X6_meanSquare, ⟨by decide +kernel, by decide +kernel⟩, by decide +kernel⟩, ki_X6_meanSquare, ks_X6_meanSquare⟩ kM_RL_178 rfl (by decide) (c_fx (by decide)) (mX6_meanSquare l  hf) rfl dL_law_1580 rfl hl.1 (Nat.le_of_ble_eq_true rfl) ⟨Nat.le_of_ble_eq_true rfl, Nat.le_of_ble_eq_true rfl⟩ ⟨show cells ≤ 1157 by have := hcs.1; omega, show slots ≤ 14449 by have := hcs.2; omega⟩ (fun H locs hW => ?_)
  refine lv_dstore (lv' := [(5, .double r), (4, .int (nI (5 * t))), (3, .ref (eO E)), (2, .ref (eA E 9)), (1, .ref (eA E 0)), (0, .ref b)]) hx hb dL_law_1583 hl (by decide) rfl (fun ls hl => ?_)
  refine lv_aload_n hx hb dL_law_1585 rfl (lv_at hl 3 rfl) ?_
  refine lo_d (np := 0) (As := []) (rest := []) (q := 9) (T := TX7) (N := 20) hx hb hml hown hB hK hW ⟨⟨kI_RX7, kc_X7_meanSquare, ⟨by decide +kernel, by decide +kernel⟩, by decide +kernel⟩, ki_X7_meanSquare, ks_X7_meanSquare⟩ kM_RL_182 rfl (by decide) (c_fx (by decide)) (mX7_meanSquare l  hg) rfl dL_law_1586 rfl hl.1 (Nat.le_of_ble_eq_true rfl) ⟨Nat.le_of_ble_eq_true rfl, Nat.le_of_ble_eq_true rfl⟩ ⟨show cells ≤ 1157 by have := hcs.1; omega, show slots ≤ 14449 by have := hcs.2; omega⟩ (fun H locs hW => ?_)
  refine lv_dstore (lv' := [(7, .double r), (5, .double r), (4, .int (nI (5 * t))), (3, .ref (eO E)), (2, .ref (eA E 9)), (1, .ref (eA E 0)), (0, .ref b)]) hx hb dL_law_1589 hl (by decide) rfl (fun ls hl => ?_)
  refine lv_dload hx hb dL_law_1591 (lv_at hl 1 rfl) ?_
  refine lv_dload hx hb dL_law_1593 (lv_at hl 0 rfl) ?_
  refine lv_dcmp hx hb dL_law_1595 ?_
  rw [hcmp]
  refine lv_if_eq (tgt := 1617) hx hb dL_law_1596 (by decide) (fun c3 => ?_) (fun c3 => absurd rfl c3)
  refine lv_goto (tgt := 1677) hx hb dL_law_1617 (by decide) ?_
  exact W.widen (by omega) (by omega) (kk _ _ _ _ _ _ _ hR1 hW (lv_sub hl [2, 3, 4, 5, 6] rfl))
set_option maxHeartbeats 4000000 in
set_option maxRecDepth 100000 in
theorem lc_loudness (hfl : l.stackTraces = false) (hx : p.tables.exec = Jvm.exec) (hb : c.code = code) (hml : c.maxLocals = 9) (hown : s.vm.findClass RL = some m.cls) (hB : s.heap.size = eB E) (hK : Ko E s) (hX : va_X b L xs s s.heap) (hbl : b < s.heap.size) (hL : L ≤ 2560) (h5 : 5 * t + 5 ≤ L) (hcs : cells + 1 ≤ 1157 ∧ slots + 6 ≤ 14449) (hop : ∀ σ μ dg, Rel σ μ dg → ∃ r σ' μ', fX6_loudness σ = some (r, σ') ∧ fX7_loudness μ = some (r, μ') ∧ vf_n64 (FP.f2d r) ∧ Op.cmpValue (FP.dcmp (FP.f2d r) (FP.f2d r)) .l = 0 ∧ Rel σ' μ' dg) (hRl : Rel σ μ dg) (hW : Lk E σ μ dg w s H locs) (hl : lv_has ls 9 [(4, .int (nI (5 * t))), (3, .ref (eO E)), (2, .ref (eA E 9)), (1, .ref (eA E 0)), (0, .ref b)])
    (kk : ∀ (σ' μ' : Sg) (dg' w' : Int64) (H' : Heap) (locs' : List Loc) (ls' : Array Slot), Rel σ' μ' dg' → Lk E σ' μ' dg' w' s H' locs' → lv_has ls' 9 [(4, .int (nI (5 * t))), (3, .ref (eO E)), (2, .ref (eA E 9)), (1, .ref (eA E 0)), (0, .ref b)] → W p l e room_1 s m args below meth c H' locs' (cells + 1) (slots + 6) Q (F0 m 1677 ls' [])) : W p l e room_1 s m args below meth c H locs cells slots Q (F0 m 1620 ls []) := by
  obtain ⟨r, σ', μ', hf, hg, hn64, hcmp, hR1⟩ := hop σ μ dg hRl
  refine lv_aload_n hx hb dL_law_1620 rfl (lv_at hl 3 rfl) ?_
  refine lo_f (np := 0) (As := []) (rest := []) (q := 0) (T := TX6) (N := 9) hx hb hml hown hB hK hW ⟨⟨kI_RX6, kc_X6_loudness, ⟨by decide +kernel, by decide +kernel⟩, by decide +kernel⟩, ki_X6_loudness, ks_X6_loudness⟩ kM_RL_183 rfl (by decide) (c_fx (by decide)) (mX6_loudness l  hf) rfl dL_law_1621 rfl hl.1 (Nat.le_of_ble_eq_true rfl) ⟨Nat.le_of_ble_eq_true rfl, Nat.le_of_ble_eq_true rfl⟩ ⟨show cells ≤ 1157 by have := hcs.1; omega, show slots ≤ 14449 by have := hcs.2; omega⟩ (fun H locs hW => ?_)
  refine lv_f2d hx hb dL_law_1624 hn64 ?_
  refine lv_dstore (lv' := [(5, .double (FP.f2d r)), (4, .int (nI (5 * t))), (3, .ref (eO E)), (2, .ref (eA E 9)), (1, .ref (eA E 0)), (0, .ref b)]) hx hb dL_law_1625 hl (by decide) rfl (fun ls hl => ?_)
  refine lv_aload_n hx hb dL_law_1627 rfl (lv_at hl 3 rfl) ?_
  refine lo_f (np := 0) (As := []) (rest := []) (q := 9) (T := TX7) (N := 20) hx hb hml hown hB hK hW ⟨⟨kI_RX7, kc_X7_loudness, ⟨by decide +kernel, by decide +kernel⟩, by decide +kernel⟩, ki_X7_loudness, ks_X7_loudness⟩ kM_RL_187 rfl (by decide) (c_fx (by decide)) (mX7_loudness l  hg) rfl dL_law_1628 rfl hl.1 (Nat.le_of_ble_eq_true rfl) ⟨Nat.le_of_ble_eq_true rfl, Nat.le_of_ble_eq_true rfl⟩ ⟨show cells ≤ 1157 by have := hcs.1; omega, show slots ≤ 14449 by have := hcs.2; omega⟩ (fun H locs hW => ?_)
  refine lv_f2d hx hb dL_law_1631 hn64 ?_
  refine lv_dstore (lv' := [(7, .double (FP.f2d r)), (5, .double (FP.f2d r)), (4, .int (nI (5 * t))), (3, .ref (eO E)), (2, .ref (eA E 9)), (1, .ref (eA E 0)), (0, .ref b)]) hx hb dL_law_1632 hl (by decide) rfl (fun ls hl => ?_)
  refine lv_dload hx hb dL_law_1634 (lv_at hl 1 rfl) ?_
  refine lv_dload hx hb dL_law_1636 (lv_at hl 0 rfl) ?_
  refine lv_dcmp hx hb dL_law_1638 ?_
  rw [hcmp]
  refine lv_if_eq (tgt := 1660) hx hb dL_law_1639 (by decide) (fun c3 => ?_) (fun c3 => absurd rfl c3)
  refine lv_goto (tgt := 1677) hx hb dL_law_1660 (by decide) ?_
  exact W.widen (by omega) (by omega) (kk _ _ _ _ _ _ _ hR1 hW (lv_sub hl [2, 3, 4, 5, 6] rfl))
set_option maxHeartbeats 4000000 in
set_option maxRecDepth 100000 in
theorem lc_digest (hfl : l.stackTraces = false) (hx : p.tables.exec = Jvm.exec) (hb : c.code = code) (hml : c.maxLocals = 9) (hown : s.vm.findClass RL = some m.cls) (hB : s.heap.size = eB E) (hK : Ko E s) (hX : va_X b L xs s s.heap) (hbl : b < s.heap.size) (hL : L ≤ 2560) (h5 : 5 * t + 5 ≤ L) (hcs : cells + 1 ≤ 1157 ∧ slots + 6 ≤ 14449) (hop : ∀ σ μ dg, Rel σ μ dg → ∃ r σ' μ' dg', fX6_digest σ = some (r, σ') ∧ fX7_digest μ dg = some (r, μ', dg') ∧ Rel σ' μ' dg') (hRl : Rel σ μ dg) (hW : Lk E σ μ dg w s H locs) (hl : lv_has ls 9 [(4, .int (nI (5 * t))), (3, .ref (eO E)), (2, .ref (eA E 9)), (1, .ref (eA E 0)), (0, .ref b)])
    (kk : ∀ (σ' μ' : Sg) (dg' w' : Int64) (H' : Heap) (locs' : List Loc) (ls' : Array Slot), Rel σ' μ' dg' → Lk E σ' μ' dg' w' s H' locs' → lv_has ls' 9 [(4, .int (nI (5 * t))), (3, .ref (eO E)), (2, .ref (eA E 9)), (1, .ref (eA E 0)), (0, .ref b)] → W p l e room_1 s m args below meth c H' locs' (cells + 1) (slots + 6) Q (F0 m 1677 ls' [])) : W p l e room_1 s m args below meth c H locs cells slots Q (F0 m 1663 ls []) := by
  obtain ⟨r, σ', μ', dg', hf, hg, hR1⟩ := hop σ μ dg hRl
  refine lv_aload_n hx hb dL_law_1663 rfl (lv_at hl 3 rfl) ?_
  refine lo_l (np := 0) (As := []) (rest := []) (q := 0) (T := TX6) (N := 9) hx hb hml hown hB hK hW ⟨⟨kI_RX6, kc_X6_digest, ⟨by decide +kernel, by decide +kernel⟩, by decide +kernel⟩, ki_X6_digest, ks_X6_digest⟩ kM_RL_188 rfl (by decide) (c_fx (by decide)) (mX6_digest l hfl hf) rfl dL_law_1664 rfl hl.1 (Nat.le_of_ble_eq_true rfl) ⟨Nat.le_of_ble_eq_true rfl, Nat.le_of_ble_eq_true rfl⟩ ⟨show cells ≤ 1157 by have := hcs.1; omega, show slots ≤ 14449 by have := hcs.2; omega⟩ (fun H locs hW => ?_)
  refine lv_aload_n hx hb dL_law_1667 rfl (lv_at hl 2 rfl) ?_
  refine lo_l (np := 0) (As := []) (rest := [.long r]) (q := 9) (T := TX7) (N := 20) hx hb hml hown hB hK hW ⟨⟨kI_RX7, kc_X7_digest, ⟨by decide +kernel, by decide +kernel⟩, by decide +kernel⟩, ki_X7_digest, ks_X7_digest⟩ kM_RL_192 rfl (by decide) (c_fx (by decide)) (mX7_digest l  hg) rfl dL_law_1668 rfl hl.1 (Nat.le_of_ble_eq_true rfl) ⟨Nat.le_of_ble_eq_true rfl, Nat.le_of_ble_eq_true rfl⟩ ⟨show cells ≤ 1157 by have := hcs.1; omega, show slots ≤ 14449 by have := hcs.2; omega⟩ (fun H locs hW => ?_)
  refine W.lcmp hx hb dL_law_1671 ?_
  rw [lg_cmp_self]
  refine lv_if_eq (tgt := 1677) hx hb dL_law_1672 (by decide) (fun c3 => ?_) (fun c3 => absurd rfl c3)
  exact W.widen (by omega) (by omega) (kk _ _ _ _ _ _ _ hR1 hW (lv_sub hl [0, 1, 2, 3, 4] rfl))
end LC
