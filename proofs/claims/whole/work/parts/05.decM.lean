theorem dX7_init_0 : decode cX7_init 0 = .ok (.aload_n 0, 1) := by decide +kernel
theorem dX7_init_1 : decode cX7_init 1 = .ok (.invokespecial 1, 3) := by decide +kernel
theorem dX7_init_4 : decode cX7_init 4 = .ok (.aload_n 0, 1) := by decide +kernel
theorem dX7_init_5 : decode cX7_init 5 = .ok (.sipush 295, 3) := by decide +kernel
theorem dX7_init_8 : decode cX7_init 8 = .ok (.newarray .int, 2) := by decide +kernel
theorem dX7_init_10 : decode cX7_init 10 = .ok (.putfield 7, 3) := by decide +kernel
theorem dX7_init_13 : decode cX7_init 13 = .ok (.aload_n 0, 1) := by decide +kernel
theorem dX7_init_14 : decode cX7_init 14 = .ok (.sipush 1770, 3) := by decide +kernel
theorem dX7_init_17 : decode cX7_init 17 = .ok (.newarray .int, 2) := by decide +kernel
theorem dX7_init_19 : decode cX7_init 19 = .ok (.putfield 13, 3) := by decide +kernel
theorem dX7_init_22 : decode cX7_init 22 = .ok (.aload_n 0, 1) := by decide +kernel
theorem dX7_init_23 : decode cX7_init 23 = .ok (.sipush 590, 3) := by decide +kernel
theorem dX7_init_26 : decode cX7_init 26 = .ok (.newarray .int, 2) := by decide +kernel
theorem dX7_init_28 : decode cX7_init 28 = .ok (.putfield 16, 3) := by decide +kernel
theorem dX7_init_31 : decode cX7_init 31 = .ok (.aload_n 0, 1) := by decide +kernel
theorem dX7_init_32 : decode cX7_init 32 = .ok (.iconst 2, 1) := by decide +kernel
theorem dX7_init_33 : decode cX7_init 33 = .ok (.newarray .boolean, 2) := by decide +kernel
theorem dX7_init_35 : decode cX7_init 35 = .ok (.putfield 19, 3) := by decide +kernel
theorem dX7_init_38 : decode cX7_init 38 = .ok (.aload_n 0, 1) := by decide +kernel
theorem dX7_init_39 : decode cX7_init 39 = .ok (.bipush 40, 2) := by decide +kernel
theorem dX7_init_41 : decode cX7_init 41 = .ok (.newarray .int, 2) := by decide +kernel
theorem dX7_init_43 : decode cX7_init 43 = .ok (.putfield 23, 3) := by decide +kernel
theorem dX7_init_46 : decode cX7_init 46 = .ok (.aload_n 0, 1) := by decide +kernel
theorem dX7_init_47 : decode cX7_init 47 = .ok (.bipush 49, 2) := by decide +kernel
theorem dX7_init_49 : decode cX7_init 49 = .ok (.newarray .int, 2) := by decide +kernel
theorem dX7_init_51 : decode cX7_init 51 = .ok (.putfield 26, 3) := by decide +kernel
theorem dX7_init_54 : decode cX7_init 54 = .ok (.aload_n 0, 1) := by decide +kernel
theorem dX7_init_55 : decode cX7_init 55 = .ok (.bipush 64, 2) := by decide +kernel
theorem dX7_init_57 : decode cX7_init 57 = .ok (.newarray .int, 2) := by decide +kernel
theorem dX7_init_59 : decode cX7_init 59 = .ok (.putfield 29, 3) := by decide +kernel
theorem dX7_init_62 : decode cX7_init 62 = .ok (.aload_n 0, 1) := by decide +kernel
theorem dX7_init_63 : decode cX7_init 63 = .ok (.bipush 64, 2) := by decide +kernel
theorem dX7_init_65 : decode cX7_init 65 = .ok (.newarray .int, 2) := by decide +kernel
theorem dX7_init_67 : decode cX7_init 67 = .ok (.putfield 32, 3) := by decide +kernel
theorem dX7_init_70 : decode cX7_init 70 = .ok (.aload_n 0, 1) := by decide +kernel
theorem dX7_init_71 : decode cX7_init 71 = .ok (.bipush 32, 2) := by decide +kernel
theorem dX7_init_73 : decode cX7_init 73 = .ok (.newarray .int, 2) := by decide +kernel
theorem dX7_init_75 : decode cX7_init 75 = .ok (.putfield 35, 3) := by decide +kernel
theorem dX7_init_78 : decode cX7_init 78 = .ok (.aload_n 0, 1) := by decide +kernel
theorem dX7_init_79 : decode cX7_init 79 = .ok (.bipush 64, 2) := by decide +kernel
theorem dX7_init_81 : decode cX7_init 81 = .ok (.newarray .int, 2) := by decide +kernel
theorem dX7_init_83 : decode cX7_init 83 = .ok (.putfield 38, 3) := by decide +kernel
theorem dX7_init_86 : decode cX7_init 86 = .ok (.aload_n 0, 1) := by decide +kernel
theorem dX7_init_87 : decode cX7_init 87 = .ok (.bipush 15, 2) := by decide +kernel
theorem dX7_init_89 : decode cX7_init 89 = .ok (.newarray .int, 2) := by decide +kernel
theorem dX7_init_91 : decode cX7_init 91 = .ok (.putfield 41, 3) := by decide +kernel
theorem dX7_init_94 : decode cX7_init 94 = .ok (.aload_n 0, 1) := by decide +kernel
theorem dX7_init_95 : decode cX7_init 95 = .ok (.getfield 7, 3) := by decide +kernel
theorem dX7_init_98 : decode cX7_init 98 = .ok (.iconst 0, 1) := by decide +kernel
theorem dX7_init_99 : decode cX7_init 99 = .ok (.bipush 32, 2) := by decide +kernel
theorem dX7_init_101 : decode cX7_init 101 = .ok (.iastore, 1) := by decide +kernel
theorem dX7_init_102 : decode cX7_init 102 = .ok (.aload_n 0, 1) := by decide +kernel
theorem dX7_init_103 : decode cX7_init 103 = .ok (.getfield 7, 3) := by decide +kernel
theorem dX7_init_106 : decode cX7_init 106 = .ok (.iconst 2, 1) := by decide +kernel
theorem dX7_init_107 : decode cX7_init 107 = .ok (.bipush 8, 2) := by decide +kernel
theorem dX7_init_109 : decode cX7_init 109 = .ok (.iastore, 1) := by decide +kernel
theorem dX7_init_110 : decode cX7_init 110 = .ok (.aload_n 0, 1) := by decide +kernel
theorem dX7_init_111 : decode cX7_init 111 = .ok (.getfield 26, 3) := by decide +kernel
theorem dX7_init_114 : decode cX7_init 114 = .ok (.iconst 0, 1) := by decide +kernel
theorem dX7_init_115 : decode cX7_init 115 = .ok (.bipush 7, 2) := by decide +kernel
theorem dX7_init_117 : decode cX7_init 117 = .ok (.iastore, 1) := by decide +kernel
theorem dX7_init_118 : decode cX7_init 118 = .ok (.iconst 1, 1) := by decide +kernel
theorem dX7_init_119 : decode cX7_init 119 = .ok (.istore_n 1, 1) := by decide +kernel
theorem dX7_init_120 : decode cX7_init 120 = .ok (.iload_n 1, 1) := by decide +kernel
theorem dX7_init_121 : decode cX7_init 121 = .ok (.bipush 49, 2) := by decide +kernel
theorem dX7_init_123 : decode cX7_init 123 = .ok (.if_icmp .ge 37, 3) := by decide +kernel
theorem dX7_init_126 : decode cX7_init 126 = .ok (.aload_n 0, 1) := by decide +kernel
theorem dX7_init_127 : decode cX7_init 127 = .ok (.getfield 26, 3) := by decide +kernel
theorem dX7_init_130 : decode cX7_init 130 = .ok (.iload_n 1, 1) := by decide +kernel
theorem dX7_init_131 : decode cX7_init 131 = .ok (.aload_n 0, 1) := by decide +kernel
theorem dX7_init_132 : decode cX7_init 132 = .ok (.getfield 26, 3) := by decide +kernel
theorem dX7_init_135 : decode cX7_init 135 = .ok (.iload_n 1, 1) := by decide +kernel
theorem dX7_init_136 : decode cX7_init 136 = .ok (.iconst 1, 1) := by decide +kernel
theorem dX7_init_137 : decode cX7_init 137 = .ok (.isub, 1) := by decide +kernel
theorem dX7_init_138 : decode cX7_init 138 = .ok (.iaload, 1) := by decide +kernel
theorem dX7_init_139 : decode cX7_init 139 = .ok (.aload_n 0, 1) := by decide +kernel
theorem dX7_init_140 : decode cX7_init 140 = .ok (.getfield 26, 3) := by decide +kernel
theorem dX7_init_143 : decode cX7_init 143 = .ok (.iload_n 1, 1) := by decide +kernel
theorem dX7_init_144 : decode cX7_init 144 = .ok (.iconst 1, 1) := by decide +kernel
theorem dX7_init_145 : decode cX7_init 145 = .ok (.isub, 1) := by decide +kernel
theorem dX7_init_146 : decode cX7_init 146 = .ok (.iaload, 1) := by decide +kernel
theorem dX7_init_147 : decode cX7_init 147 = .ok (.bipush 10, 2) := by decide +kernel
theorem dX7_init_149 : decode cX7_init 149 = .ok (.idiv, 1) := by decide +kernel
theorem dX7_init_150 : decode cX7_init 150 = .ok (.iadd, 1) := by decide +kernel
theorem dX7_init_151 : decode cX7_init 151 = .ok (.iconst 1, 1) := by decide +kernel
theorem dX7_init_152 : decode cX7_init 152 = .ok (.iadd, 1) := by decide +kernel
theorem dX7_init_153 : decode cX7_init 153 = .ok (.iastore, 1) := by decide +kernel
theorem dX7_init_154 : decode cX7_init 154 = .ok (.iinc 1 1, 3) := by decide +kernel
theorem dX7_init_157 : decode cX7_init 157 = .ok (.goto (-37), 3) := by decide +kernel
theorem dX7_init_160 : decode cX7_init 160 = .ok (.return_, 1) := by decide +kernel
theorem dX7_thrown_0 : decode cX7_thrown 0 = .ok (.aload_n 0, 1) := by decide +kernel
theorem dX7_thrown_1 : decode cX7_thrown 1 = .ok (.getfield 44, 3) := by decide +kernel
theorem dX7_thrown_4 : decode cX7_thrown 4 = .ok (.ireturn, 1) := by decide +kernel
theorem dX7_in_0 : decode cX7_in 0 = .ok (.iload_n 0, 1) := by decide +kernel
theorem dX7_in_1 : decode cX7_in 1 = .ok (.iload_n 1, 1) := by decide +kernel
theorem dX7_in_2 : decode cX7_in 2 = .ok (.if_icmp .lt 12, 3) := by decide +kernel
theorem dX7_in_5 : decode cX7_in 5 = .ok (.iload_n 0, 1) := by decide +kernel
theorem dX7_in_6 : decode cX7_in 6 = .ok (.iload_n 2, 1) := by decide +kernel
theorem dX7_in_7 : decode cX7_in 7 = .ok (.if_icmp .gt 7, 3) := by decide +kernel
theorem dX7_in_10 : decode cX7_in 10 = .ok (.iconst 1, 1) := by decide +kernel
theorem dX7_in_11 : decode cX7_in 11 = .ok (.goto 4, 3) := by decide +kernel
theorem dX7_in_14 : decode cX7_in 14 = .ok (.iconst 0, 1) := by decide +kernel
theorem dX7_in_15 : decode cX7_in 15 = .ok (.ireturn, 1) := by decide +kernel
theorem dX7_holds_0 : decode cX7_holds 0 = .ok (.aload_n 0, 1) := by decide +kernel
theorem dX7_holds_1 : decode cX7_holds 1 = .ok (.iload_n 1, 1) := by decide +kernel
theorem dX7_holds_2 : decode cX7_holds 2 = .ok (.putfield 44, 3) := by decide +kernel
theorem dX7_holds_5 : decode cX7_holds 5 = .ok (.iload_n 1, 1) := by decide +kernel
theorem dX7_holds_6 : decode cX7_holds 6 = .ok (.ifCond .ne 7, 3) := by decide +kernel
theorem dX7_holds_9 : decode cX7_holds 9 = .ok (.iconst 1, 1) := by decide +kernel
theorem dX7_holds_10 : decode cX7_holds 10 = .ok (.goto 4, 3) := by decide +kernel
theorem dX7_holds_13 : decode cX7_holds 13 = .ok (.iconst 0, 1) := by decide +kernel
theorem dX7_holds_14 : decode cX7_holds 14 = .ok (.ireturn, 1) := by decide +kernel
theorem dX7_save_0 : decode cX7_save 0 = .ok (.aload_n 0, 1) := by decide +kernel
theorem dX7_save_1 : decode cX7_save 1 = .ok (.getfield 48, 3) := by decide +kernel
theorem dX7_save_4 : decode cX7_save 4 = .ok (.bipush 6, 2) := by decide +kernel
theorem dX7_save_6 : decode cX7_save 6 = .ok (.if_icmp .ne 44, 3) := by decide +kernel
theorem dX7_save_9 : decode cX7_save 9 = .ok (.iconst 0, 1) := by decide +kernel
theorem dX7_save_10 : decode cX7_save 10 = .ok (.istore_n 1, 1) := by decide +kernel
theorem dX7_save_11 : decode cX7_save 11 = .ok (.iload_n 1, 1) := by decide +kernel
theorem dX7_save_12 : decode cX7_save 12 = .ok (.sipush 1475, 3) := by decide +kernel
theorem dX7_save_15 : decode cX7_save 15 = .ok (.if_icmp .ge 25, 3) := by decide +kernel
theorem dX7_save_18 : decode cX7_save 18 = .ok (.aload_n 0, 1) := by decide +kernel
theorem dX7_save_19 : decode cX7_save 19 = .ok (.getfield 13, 3) := by decide +kernel
theorem dX7_save_22 : decode cX7_save 22 = .ok (.iload_n 1, 1) := by decide +kernel
theorem dX7_save_23 : decode cX7_save 23 = .ok (.aload_n 0, 1) := by decide +kernel
theorem dX7_save_24 : decode cX7_save 24 = .ok (.getfield 13, 3) := by decide +kernel
theorem dX7_save_27 : decode cX7_save 27 = .ok (.sipush 295, 3) := by decide +kernel
theorem dX7_save_30 : decode cX7_save 30 = .ok (.iload_n 1, 1) := by decide +kernel
theorem dX7_save_31 : decode cX7_save 31 = .ok (.iadd, 1) := by decide +kernel
theorem dX7_save_32 : decode cX7_save 32 = .ok (.iaload, 1) := by decide +kernel
theorem dX7_save_33 : decode cX7_save 33 = .ok (.iastore, 1) := by decide +kernel
theorem dX7_save_34 : decode cX7_save 34 = .ok (.iinc 1 1, 3) := by decide +kernel
theorem dX7_save_37 : decode cX7_save 37 = .ok (.goto (-26), 3) := by decide +kernel
theorem dX7_save_40 : decode cX7_save 40 = .ok (.aload_n 0, 1) := by decide +kernel
theorem dX7_save_41 : decode cX7_save 41 = .ok (.dup, 1) := by decide +kernel
theorem dX7_save_42 : decode cX7_save 42 = .ok (.getfield 48, 3) := by decide +kernel
theorem dX7_save_45 : decode cX7_save 45 = .ok (.iconst 1, 1) := by decide +kernel
theorem dX7_save_46 : decode cX7_save 46 = .ok (.isub, 1) := by decide +kernel
theorem dX7_save_47 : decode cX7_save 47 = .ok (.putfield 48, 3) := by decide +kernel
theorem dX7_save_50 : decode cX7_save 50 = .ok (.iconst 0, 1) := by decide +kernel
theorem dX7_save_51 : decode cX7_save 51 = .ok (.istore_n 1, 1) := by decide +kernel
theorem dX7_save_52 : decode cX7_save 52 = .ok (.iload_n 1, 1) := by decide +kernel
theorem dX7_save_53 : decode cX7_save 53 = .ok (.sipush 295, 3) := by decide +kernel
theorem dX7_save_56 : decode cX7_save 56 = .ok (.if_icmp .ge 30, 3) := by decide +kernel
theorem dX7_save_59 : decode cX7_save 59 = .ok (.aload_n 0, 1) := by decide +kernel
theorem dX7_save_60 : decode cX7_save 60 = .ok (.getfield 13, 3) := by decide +kernel
theorem dX7_save_63 : decode cX7_save 63 = .ok (.sipush 295, 3) := by decide +kernel
theorem dX7_save_66 : decode cX7_save 66 = .ok (.aload_n 0, 1) := by decide +kernel
theorem dX7_save_67 : decode cX7_save 67 = .ok (.getfield 48, 3) := by decide +kernel
theorem dX7_save_70 : decode cX7_save 70 = .ok (.imul, 1) := by decide +kernel
theorem dX7_save_71 : decode cX7_save 71 = .ok (.iload_n 1, 1) := by decide +kernel
theorem dX7_save_72 : decode cX7_save 72 = .ok (.iadd, 1) := by decide +kernel
theorem dX7_save_73 : decode cX7_save 73 = .ok (.aload_n 0, 1) := by decide +kernel
theorem dX7_save_74 : decode cX7_save 74 = .ok (.getfield 7, 3) := by decide +kernel
theorem dX7_save_77 : decode cX7_save 77 = .ok (.iload_n 1, 1) := by decide +kernel
theorem dX7_save_78 : decode cX7_save 78 = .ok (.iaload, 1) := by decide +kernel
theorem dX7_save_79 : decode cX7_save 79 = .ok (.iastore, 1) := by decide +kernel
theorem dX7_save_80 : decode cX7_save 80 = .ok (.iinc 1 1, 3) := by decide +kernel
theorem dX7_save_83 : decode cX7_save 83 = .ok (.goto (-31), 3) := by decide +kernel
theorem dX7_save_86 : decode cX7_save 86 = .ok (.aload_n 0, 1) := by decide +kernel
theorem dX7_save_87 : decode cX7_save 87 = .ok (.dup, 1) := by decide +kernel
theorem dX7_save_88 : decode cX7_save 88 = .ok (.getfield 48, 3) := by decide +kernel
theorem dX7_save_91 : decode cX7_save 91 = .ok (.iconst 1, 1) := by decide +kernel
theorem dX7_save_92 : decode cX7_save 92 = .ok (.iadd, 1) := by decide +kernel
theorem dX7_save_93 : decode cX7_save 93 = .ok (.putfield 48, 3) := by decide +kernel
theorem dX7_save_96 : decode cX7_save 96 = .ok (.return_, 1) := by decide +kernel
theorem dX7_isCoded_0 : decode cX7_isCoded 0 = .ok (.aload_n 0, 1) := by decide +kernel
theorem dX7_isCoded_1 : decode cX7_isCoded 1 = .ok (.getfield 7, 3) := by decide +kernel
theorem dX7_isCoded_4 : decode cX7_isCoded 4 = .ok (.iconst 1, 1) := by decide +kernel
theorem dX7_isCoded_5 : decode cX7_isCoded 5 = .ok (.iaload, 1) := by decide +kernel
theorem dX7_isCoded_6 : decode cX7_isCoded 6 = .ok (.iconst 1, 1) := by decide +kernel
theorem dX7_isCoded_7 : decode cX7_isCoded 7 = .ok (.if_icmp .ne 7, 3) := by decide +kernel
theorem dX7_isCoded_10 : decode cX7_isCoded 10 = .ok (.iconst 1, 1) := by decide +kernel
theorem dX7_isCoded_11 : decode cX7_isCoded 11 = .ok (.goto 4, 3) := by decide +kernel
theorem dX7_isCoded_14 : decode cX7_isCoded 14 = .ok (.iconst 0, 1) := by decide +kernel
theorem dX7_isCoded_15 : decode cX7_isCoded 15 = .ok (.ireturn, 1) := by decide +kernel
theorem dX7_isSample_0 : decode cX7_isSample 0 = .ok (.iload_n 1, 1) := by decide +kernel
theorem dX7_isSample_1 : decode cX7_isSample 1 = .ok (.iconst 0, 1) := by decide +kernel
theorem dX7_isSample_2 : decode cX7_isSample 2 = .ok (.aload_n 0, 1) := by decide +kernel
theorem dX7_isSample_3 : decode cX7_isSample 3 = .ok (.getfield 7, 3) := by decide +kernel
theorem dX7_isSample_6 : decode cX7_isSample 6 = .ok (.iconst 0, 1) := by decide +kernel
theorem dX7_isSample_7 : decode cX7_isSample 7 = .ok (.iaload, 1) := by decide +kernel
theorem dX7_isSample_8 : decode cX7_isSample 8 = .ok (.iconst 1, 1) := by decide +kernel
theorem dX7_isSample_9 : decode cX7_isSample 9 = .ok (.isub, 1) := by decide +kernel
theorem dX7_isSample_10 : decode cX7_isSample 10 = .ok (.invokestatic 51, 3) := by decide +kernel
theorem dX7_isSample_13 : decode cX7_isSample 13 = .ok (.ireturn, 1) := by decide +kernel
theorem dX7_blocks_0 : decode cX7_blocks 0 = .ok (.aload_n 0, 1) := by decide +kernel
theorem dX7_blocks_1 : decode cX7_blocks 1 = .ok (.invokevirtual 55, 3) := by decide +kernel
theorem dX7_blocks_4 : decode cX7_blocks 4 = .ok (.ifCond .eq 28, 3) := by decide +kernel
theorem dX7_blocks_7 : decode cX7_blocks 7 = .ok (.aload_n 0, 1) := by decide +kernel
theorem dX7_blocks_8 : decode cX7_blocks 8 = .ok (.getfield 7, 3) := by decide +kernel
theorem dX7_blocks_11 : decode cX7_blocks 11 = .ok (.iconst 0, 1) := by decide +kernel
theorem dX7_blocks_12 : decode cX7_blocks 12 = .ok (.iaload, 1) := by decide +kernel
theorem dX7_blocks_13 : decode cX7_blocks 13 = .ok (.aload_n 0, 1) := by decide +kernel
theorem dX7_blocks_14 : decode cX7_blocks 14 = .ok (.getfield 7, 3) := by decide +kernel
theorem dX7_blocks_17 : decode cX7_blocks 17 = .ok (.iconst 2, 1) := by decide +kernel
theorem dX7_blocks_18 : decode cX7_blocks 18 = .ok (.iaload, 1) := by decide +kernel
theorem dX7_blocks_19 : decode cX7_blocks 19 = .ok (.iadd, 1) := by decide +kernel
theorem dX7_blocks_20 : decode cX7_blocks 20 = .ok (.iconst 1, 1) := by decide +kernel
theorem dX7_blocks_21 : decode cX7_blocks 21 = .ok (.isub, 1) := by decide +kernel
theorem dX7_blocks_22 : decode cX7_blocks 22 = .ok (.aload_n 0, 1) := by decide +kernel
theorem dX7_blocks_23 : decode cX7_blocks 23 = .ok (.getfield 7, 3) := by decide +kernel
theorem dX7_blocks_26 : decode cX7_blocks 26 = .ok (.iconst 2, 1) := by decide +kernel
theorem dX7_blocks_27 : decode cX7_blocks 27 = .ok (.iaload, 1) := by decide +kernel
theorem dX7_blocks_28 : decode cX7_blocks 28 = .ok (.idiv, 1) := by decide +kernel
theorem dX7_blocks_29 : decode cX7_blocks 29 = .ok (.goto 4, 3) := by decide +kernel
theorem dX7_blocks_32 : decode cX7_blocks 32 = .ok (.iconst 0, 1) := by decide +kernel
theorem dX7_blocks_33 : decode cX7_blocks 33 = .ok (.ireturn, 1) := by decide +kernel
theorem dX7_isBlock_0 : decode cX7_isBlock 0 = .ok (.iload_n 1, 1) := by decide +kernel
theorem dX7_isBlock_1 : decode cX7_isBlock 1 = .ok (.iconst 0, 1) := by decide +kernel
theorem dX7_isBlock_2 : decode cX7_isBlock 2 = .ok (.aload_n 0, 1) := by decide +kernel
theorem dX7_isBlock_3 : decode cX7_isBlock 3 = .ok (.invokevirtual 59, 3) := by decide +kernel
theorem dX7_isBlock_6 : decode cX7_isBlock 6 = .ok (.iconst 1, 1) := by decide +kernel
theorem dX7_isBlock_7 : decode cX7_isBlock 7 = .ok (.isub, 1) := by decide +kernel
theorem dX7_isBlock_8 : decode cX7_isBlock 8 = .ok (.invokestatic 51, 3) := by decide +kernel
theorem dX7_isBlock_11 : decode cX7_isBlock 11 = .ok (.ireturn, 1) := by decide +kernel
theorem dX7_endOf_0 : decode cX7_endOf 0 = .ok (.iload_n 1, 1) := by decide +kernel
theorem dX7_endOf_1 : decode cX7_endOf 1 = .ok (.iconst 1, 1) := by decide +kernel
theorem dX7_endOf_2 : decode cX7_endOf 2 = .ok (.iadd, 1) := by decide +kernel
theorem dX7_endOf_3 : decode cX7_endOf 3 = .ok (.aload_n 0, 1) := by decide +kernel
theorem dX7_endOf_4 : decode cX7_endOf 4 = .ok (.getfield 7, 3) := by decide +kernel
theorem dX7_endOf_7 : decode cX7_endOf 7 = .ok (.iconst 2, 1) := by decide +kernel
theorem dX7_endOf_8 : decode cX7_endOf 8 = .ok (.iaload, 1) := by decide +kernel
theorem dX7_endOf_9 : decode cX7_endOf 9 = .ok (.imul, 1) := by decide +kernel
theorem dX7_endOf_10 : decode cX7_endOf 10 = .ok (.istore_n 2, 1) := by decide +kernel
theorem dX7_endOf_11 : decode cX7_endOf 11 = .ok (.iload_n 2, 1) := by decide +kernel
theorem dX7_endOf_12 : decode cX7_endOf 12 = .ok (.aload_n 0, 1) := by decide +kernel
theorem dX7_endOf_13 : decode cX7_endOf 13 = .ok (.getfield 7, 3) := by decide +kernel
theorem dX7_endOf_16 : decode cX7_endOf 16 = .ok (.iconst 0, 1) := by decide +kernel
theorem dX7_endOf_17 : decode cX7_endOf 17 = .ok (.iaload, 1) := by decide +kernel
theorem dX7_endOf_18 : decode cX7_endOf 18 = .ok (.if_icmp .ge 7, 3) := by decide +kernel
theorem dX7_endOf_21 : decode cX7_endOf 21 = .ok (.iload_n 2, 1) := by decide +kernel
theorem dX7_endOf_22 : decode cX7_endOf 22 = .ok (.goto 9, 3) := by decide +kernel
theorem dX7_endOf_25 : decode cX7_endOf 25 = .ok (.aload_n 0, 1) := by decide +kernel
theorem dX7_endOf_26 : decode cX7_endOf 26 = .ok (.getfield 7, 3) := by decide +kernel
theorem dX7_endOf_29 : decode cX7_endOf 29 = .ok (.iconst 0, 1) := by decide +kernel
theorem dX7_endOf_30 : decode cX7_endOf 30 = .ok (.iaload, 1) := by decide +kernel
theorem dX7_endOf_31 : decode cX7_endOf 31 = .ok (.ireturn, 1) := by decide +kernel
theorem dX7_hasCode_0 : decode cX7_hasCode 0 = .ok (.aload_n 0, 1) := by decide +kernel
theorem dX7_hasCode_1 : decode cX7_hasCode 1 = .ok (.invokevirtual 55, 3) := by decide +kernel
theorem dX7_hasCode_4 : decode cX7_hasCode 4 = .ok (.ifCond .eq 26, 3) := by decide +kernel
theorem dX7_hasCode_7 : decode cX7_hasCode 7 = .ok (.aload_n 0, 1) := by decide +kernel
theorem dX7_hasCode_8 : decode cX7_hasCode 8 = .ok (.iload_n 1, 1) := by decide +kernel
theorem dX7_hasCode_9 : decode cX7_hasCode 9 = .ok (.invokevirtual 63, 3) := by decide +kernel
theorem dX7_hasCode_12 : decode cX7_hasCode 12 = .ok (.ifCond .eq 18, 3) := by decide +kernel
theorem dX7_hasCode_15 : decode cX7_hasCode 15 = .ok (.iload_n 1, 1) := by decide +kernel
theorem dX7_hasCode_16 : decode cX7_hasCode 16 = .ok (.aload_n 0, 1) := by decide +kernel
theorem dX7_hasCode_17 : decode cX7_hasCode 17 = .ok (.getfield 7, 3) := by decide +kernel
theorem dX7_hasCode_20 : decode cX7_hasCode 20 = .ok (.iconst 2, 1) := by decide +kernel
theorem dX7_hasCode_21 : decode cX7_hasCode 21 = .ok (.iaload, 1) := by decide +kernel
theorem dX7_hasCode_22 : decode cX7_hasCode 22 = .ok (.irem, 1) := by decide +kernel
theorem dX7_hasCode_23 : decode cX7_hasCode 23 = .ok (.ifCond .le 7, 3) := by decide +kernel
theorem dX7_hasCode_26 : decode cX7_hasCode 26 = .ok (.iconst 1, 1) := by decide +kernel
theorem dX7_hasCode_27 : decode cX7_hasCode 27 = .ok (.goto 4, 3) := by decide +kernel
theorem dX7_hasCode_30 : decode cX7_hasCode 30 = .ok (.iconst 0, 1) := by decide +kernel
theorem dX7_hasCode_31 : decode cX7_hasCode 31 = .ok (.ireturn, 1) := by decide +kernel
theorem dX7_clipped_0 : decode cX7_clipped 0 = .ok (.iload_n 0, 1) := by decide +kernel
theorem dX7_clipped_1 : decode cX7_clipped 1 = .ok (.sipush (-2048), 3) := by decide +kernel
theorem dX7_clipped_4 : decode cX7_clipped 4 = .ok (.if_icmp .ge 9, 3) := by decide +kernel
theorem dX7_clipped_7 : decode cX7_clipped 7 = .ok (.sipush (-2048), 3) := by decide +kernel
theorem dX7_clipped_10 : decode cX7_clipped 10 = .ok (.goto 17, 3) := by decide +kernel
theorem dX7_clipped_13 : decode cX7_clipped 13 = .ok (.iload_n 0, 1) := by decide +kernel
theorem dX7_clipped_14 : decode cX7_clipped 14 = .ok (.sipush 2047, 3) := by decide +kernel
theorem dX7_clipped_17 : decode cX7_clipped 17 = .ok (.if_icmp .le 9, 3) := by decide +kernel
theorem dX7_clipped_20 : decode cX7_clipped 20 = .ok (.sipush 2047, 3) := by decide +kernel
theorem dX7_clipped_23 : decode cX7_clipped 23 = .ok (.goto 4, 3) := by decide +kernel
theorem dX7_clipped_26 : decode cX7_clipped 26 = .ok (.iload_n 0, 1) := by decide +kernel
theorem dX7_clipped_27 : decode cX7_clipped 27 = .ok (.ireturn, 1) := by decide +kernel
theorem dX7_nextGuess_0 : decode cX7_nextGuess 0 = .ok (.aload_n 0, 1) := by decide +kernel
theorem dX7_nextGuess_1 : decode cX7_nextGuess 1 = .ok (.getfield 26, 3) := by decide +kernel
theorem dX7_nextGuess_4 : decode cX7_nextGuess 4 = .ok (.iload_n 2, 1) := by decide +kernel
theorem dX7_nextGuess_5 : decode cX7_nextGuess 5 = .ok (.iaload, 1) := by decide +kernel
theorem dX7_nextGuess_6 : decode cX7_nextGuess 6 = .ok (.istore 4, 2) := by decide +kernel
theorem dX7_nextGuess_8 : decode cX7_nextGuess 8 = .ok (.iload 4, 2) := by decide +kernel
theorem dX7_nextGuess_10 : decode cX7_nextGuess 10 = .ok (.bipush 8, 2) := by decide +kernel
theorem dX7_nextGuess_12 : decode cX7_nextGuess 12 = .ok (.idiv, 1) := by decide +kernel
theorem dX7_nextGuess_13 : decode cX7_nextGuess 13 = .ok (.istore 5, 2) := by decide +kernel
theorem dX7_nextGuess_15 : decode cX7_nextGuess 15 = .ok (.iload 5, 2) := by decide +kernel
theorem dX7_nextGuess_17 : decode cX7_nextGuess 17 = .ok (.iload_n 3, 1) := by decide +kernel
theorem dX7_nextGuess_18 : decode cX7_nextGuess 18 = .ok (.iconst 4, 1) := by decide +kernel
theorem dX7_nextGuess_19 : decode cX7_nextGuess 19 = .ok (.iand, 1) := by decide +kernel
theorem dX7_nextGuess_20 : decode cX7_nextGuess 20 = .ok (.ifCond .ne 7, 3) := by decide +kernel
theorem dX7_nextGuess_23 : decode cX7_nextGuess 23 = .ok (.iconst 0, 1) := by decide +kernel
theorem dX7_nextGuess_24 : decode cX7_nextGuess 24 = .ok (.goto 5, 3) := by decide +kernel
theorem dX7_nextGuess_27 : decode cX7_nextGuess 27 = .ok (.iload 4, 2) := by decide +kernel
theorem dX7_nextGuess_29 : decode cX7_nextGuess 29 = .ok (.iadd, 1) := by decide +kernel
theorem dX7_nextGuess_30 : decode cX7_nextGuess 30 = .ok (.istore 5, 2) := by decide +kernel
theorem dX7_nextGuess_32 : decode cX7_nextGuess 32 = .ok (.iload 5, 2) := by decide +kernel
theorem dX7_nextGuess_34 : decode cX7_nextGuess 34 = .ok (.iload_n 3, 1) := by decide +kernel
theorem dX7_nextGuess_35 : decode cX7_nextGuess 35 = .ok (.iconst 2, 1) := by decide +kernel
theorem dX7_nextGuess_36 : decode cX7_nextGuess 36 = .ok (.iand, 1) := by decide +kernel
theorem dX7_nextGuess_37 : decode cX7_nextGuess 37 = .ok (.ifCond .ne 7, 3) := by decide +kernel
theorem dX7_nextGuess_40 : decode cX7_nextGuess 40 = .ok (.iconst 0, 1) := by decide +kernel
theorem dX7_nextGuess_41 : decode cX7_nextGuess 41 = .ok (.goto 7, 3) := by decide +kernel
theorem dX7_nextGuess_44 : decode cX7_nextGuess 44 = .ok (.iload 4, 2) := by decide +kernel
theorem dX7_nextGuess_46 : decode cX7_nextGuess 46 = .ok (.iconst 2, 1) := by decide +kernel
theorem dX7_nextGuess_47 : decode cX7_nextGuess 47 = .ok (.idiv, 1) := by decide +kernel
theorem dX7_nextGuess_48 : decode cX7_nextGuess 48 = .ok (.iadd, 1) := by decide +kernel
theorem dX7_nextGuess_49 : decode cX7_nextGuess 49 = .ok (.istore 5, 2) := by decide +kernel
theorem dX7_nextGuess_51 : decode cX7_nextGuess 51 = .ok (.iload 5, 2) := by decide +kernel
theorem dX7_nextGuess_53 : decode cX7_nextGuess 53 = .ok (.iload_n 3, 1) := by decide +kernel
theorem dX7_nextGuess_54 : decode cX7_nextGuess 54 = .ok (.iconst 1, 1) := by decide +kernel
theorem dX7_nextGuess_55 : decode cX7_nextGuess 55 = .ok (.iand, 1) := by decide +kernel
theorem dX7_nextGuess_56 : decode cX7_nextGuess 56 = .ok (.ifCond .ne 7, 3) := by decide +kernel
theorem dX7_nextGuess_59 : decode cX7_nextGuess 59 = .ok (.iconst 0, 1) := by decide +kernel
theorem dX7_nextGuess_60 : decode cX7_nextGuess 60 = .ok (.goto 7, 3) := by decide +kernel
theorem dX7_nextGuess_63 : decode cX7_nextGuess 63 = .ok (.iload 4, 2) := by decide +kernel
theorem dX7_nextGuess_65 : decode cX7_nextGuess 65 = .ok (.iconst 4, 1) := by decide +kernel
theorem dX7_nextGuess_66 : decode cX7_nextGuess 66 = .ok (.idiv, 1) := by decide +kernel
theorem dX7_nextGuess_67 : decode cX7_nextGuess 67 = .ok (.iadd, 1) := by decide +kernel
theorem dX7_nextGuess_68 : decode cX7_nextGuess 68 = .ok (.istore 5, 2) := by decide +kernel
theorem dX7_nextGuess_70 : decode cX7_nextGuess 70 = .ok (.iload_n 3, 1) := by decide +kernel
theorem dX7_nextGuess_71 : decode cX7_nextGuess 71 = .ok (.bipush 8, 2) := by decide +kernel
theorem dX7_nextGuess_73 : decode cX7_nextGuess 73 = .ok (.iand, 1) := by decide +kernel
theorem dX7_nextGuess_74 : decode cX7_nextGuess 74 = .ok (.ifCond .ne 10, 3) := by decide +kernel
theorem dX7_nextGuess_77 : decode cX7_nextGuess 77 = .ok (.iload_n 1, 1) := by decide +kernel
theorem dX7_nextGuess_78 : decode cX7_nextGuess 78 = .ok (.iload 5, 2) := by decide +kernel
theorem dX7_nextGuess_80 : decode cX7_nextGuess 80 = .ok (.iadd, 1) := by decide +kernel
theorem dX7_nextGuess_81 : decode cX7_nextGuess 81 = .ok (.goto 7, 3) := by decide +kernel
theorem dX7_nextGuess_84 : decode cX7_nextGuess 84 = .ok (.iload_n 1, 1) := by decide +kernel
theorem dX7_nextGuess_85 : decode cX7_nextGuess 85 = .ok (.iload 5, 2) := by decide +kernel
theorem dX7_nextGuess_87 : decode cX7_nextGuess 87 = .ok (.isub, 1) := by decide +kernel
theorem dX7_nextGuess_88 : decode cX7_nextGuess 88 = .ok (.invokestatic 67, 3) := by decide +kernel
theorem dX7_nextGuess_91 : decode cX7_nextGuess 91 = .ok (.ireturn, 1) := by decide +kernel
theorem dX7_nextNumber_0 : decode cX7_nextNumber 0 = .ok (.iload_n 1, 1) := by decide +kernel
theorem dX7_nextNumber_1 : decode cX7_nextNumber 1 = .ok (.bipush 7, 2) := by decide +kernel
theorem dX7_nextNumber_3 : decode cX7_nextNumber 3 = .ok (.iand, 1) := by decide +kernel
theorem dX7_nextNumber_4 : decode cX7_nextNumber 4 = .ok (.istore_n 2, 1) := by decide +kernel
theorem dX7_nextNumber_5 : decode cX7_nextNumber 5 = .ok (.iload_n 2, 1) := by decide +kernel
theorem dX7_nextNumber_6 : decode cX7_nextNumber 6 = .ok (.iconst 4, 1) := by decide +kernel
theorem dX7_nextNumber_7 : decode cX7_nextNumber 7 = .ok (.if_icmp .ge 9, 3) := by decide +kernel
theorem dX7_nextNumber_10 : decode cX7_nextNumber 10 = .ok (.iload_n 0, 1) := by decide +kernel
theorem dX7_nextNumber_11 : decode cX7_nextNumber 11 = .ok (.iconst 1, 1) := by decide +kernel
theorem dX7_nextNumber_12 : decode cX7_nextNumber 12 = .ok (.isub, 1) := by decide +kernel
theorem dX7_nextNumber_13 : decode cX7_nextNumber 13 = .ok (.goto 10, 3) := by decide +kernel
theorem dX7_nextNumber_16 : decode cX7_nextNumber 16 = .ok (.iload_n 0, 1) := by decide +kernel
theorem dX7_nextNumber_17 : decode cX7_nextNumber 17 = .ok (.iconst 2, 1) := by decide +kernel
theorem dX7_nextNumber_18 : decode cX7_nextNumber 18 = .ok (.iload_n 2, 1) := by decide +kernel
theorem dX7_nextNumber_19 : decode cX7_nextNumber 19 = .ok (.iconst 3, 1) := by decide +kernel
theorem dX7_nextNumber_20 : decode cX7_nextNumber 20 = .ok (.isub, 1) := by decide +kernel
theorem dX7_nextNumber_21 : decode cX7_nextNumber 21 = .ok (.imul, 1) := by decide +kernel
theorem dX7_nextNumber_22 : decode cX7_nextNumber 22 = .ok (.iadd, 1) := by decide +kernel
theorem dX7_nextNumber_23 : decode cX7_nextNumber 23 = .ok (.istore_n 3, 1) := by decide +kernel
theorem dX7_nextNumber_24 : decode cX7_nextNumber 24 = .ok (.iload_n 3, 1) := by decide +kernel
theorem dX7_nextNumber_25 : decode cX7_nextNumber 25 = .ok (.ifCond .ge 7, 3) := by decide +kernel
theorem dX7_nextNumber_28 : decode cX7_nextNumber 28 = .ok (.iconst 0, 1) := by decide +kernel
theorem dX7_nextNumber_29 : decode cX7_nextNumber 29 = .ok (.goto 15, 3) := by decide +kernel
theorem dX7_nextNumber_32 : decode cX7_nextNumber 32 = .ok (.iload_n 3, 1) := by decide +kernel
theorem dX7_nextNumber_33 : decode cX7_nextNumber 33 = .ok (.bipush 48, 2) := by decide +kernel
theorem dX7_nextNumber_35 : decode cX7_nextNumber 35 = .ok (.if_icmp .le 8, 3) := by decide +kernel
theorem dX7_nextNumber_38 : decode cX7_nextNumber 38 = .ok (.bipush 48, 2) := by decide +kernel
theorem dX7_nextNumber_40 : decode cX7_nextNumber 40 = .ok (.goto 4, 3) := by decide +kernel
theorem dX7_nextNumber_43 : decode cX7_nextNumber 43 = .ok (.iload_n 3, 1) := by decide +kernel
theorem dX7_nextNumber_44 : decode cX7_nextNumber 44 = .ok (.ireturn, 1) := by decide +kernel
theorem dX7_codeFor_0 : decode cX7_codeFor 0 = .ok (.iload_n 3, 1) := by decide +kernel
theorem dX7_codeFor_1 : decode cX7_codeFor 1 = .ok (.iload_n 1, 1) := by decide +kernel
theorem dX7_codeFor_2 : decode cX7_codeFor 2 = .ok (.if_icmp .ge 9, 3) := by decide +kernel
theorem dX7_codeFor_5 : decode cX7_codeFor 5 = .ok (.iload_n 1, 1) := by decide +kernel
theorem dX7_codeFor_6 : decode cX7_codeFor 6 = .ok (.iload_n 3, 1) := by decide +kernel
theorem dX7_codeFor_7 : decode cX7_codeFor 7 = .ok (.isub, 1) := by decide +kernel
theorem dX7_codeFor_8 : decode cX7_codeFor 8 = .ok (.goto 6, 3) := by decide +kernel
theorem dX7_codeFor_11 : decode cX7_codeFor 11 = .ok (.iload_n 3, 1) := by decide +kernel
theorem dX7_codeFor_12 : decode cX7_codeFor 12 = .ok (.iload_n 1, 1) := by decide +kernel
theorem dX7_codeFor_13 : decode cX7_codeFor 13 = .ok (.isub, 1) := by decide +kernel
theorem dX7_codeFor_14 : decode cX7_codeFor 14 = .ok (.istore 4, 2) := by decide +kernel
theorem dX7_codeFor_16 : decode cX7_codeFor 16 = .ok (.iload_n 3, 1) := by decide +kernel
theorem dX7_codeFor_17 : decode cX7_codeFor 17 = .ok (.iload_n 1, 1) := by decide +kernel
theorem dX7_codeFor_18 : decode cX7_codeFor 18 = .ok (.if_icmp .ge 8, 3) := by decide +kernel
theorem dX7_codeFor_21 : decode cX7_codeFor 21 = .ok (.bipush 8, 2) := by decide +kernel
theorem dX7_codeFor_23 : decode cX7_codeFor 23 = .ok (.goto 4, 3) := by decide +kernel
theorem dX7_codeFor_26 : decode cX7_codeFor 26 = .ok (.iconst 0, 1) := by decide +kernel
theorem dX7_codeFor_27 : decode cX7_codeFor 27 = .ok (.istore 5, 2) := by decide +kernel
theorem dX7_codeFor_29 : decode cX7_codeFor 29 = .ok (.aload_n 0, 1) := by decide +kernel
theorem dX7_codeFor_30 : decode cX7_codeFor 30 = .ok (.getfield 26, 3) := by decide +kernel
theorem dX7_codeFor_33 : decode cX7_codeFor 33 = .ok (.iload_n 2, 1) := by decide +kernel
theorem dX7_codeFor_34 : decode cX7_codeFor 34 = .ok (.iaload, 1) := by decide +kernel
theorem dX7_codeFor_35 : decode cX7_codeFor 35 = .ok (.istore 6, 2) := by decide +kernel
theorem dX7_codeFor_37 : decode cX7_codeFor 37 = .ok (.iload 4, 2) := by decide +kernel
theorem dX7_codeFor_39 : decode cX7_codeFor 39 = .ok (.iload 6, 2) := by decide +kernel
theorem dX7_codeFor_41 : decode cX7_codeFor 41 = .ok (.if_icmp .lt 13, 3) := by decide +kernel
theorem dX7_codeFor_44 : decode cX7_codeFor 44 = .ok (.iinc 5 4, 3) := by decide +kernel
theorem dX7_codeFor_47 : decode cX7_codeFor 47 = .ok (.iload 4, 2) := by decide +kernel
theorem dX7_codeFor_49 : decode cX7_codeFor 49 = .ok (.iload 6, 2) := by decide +kernel
theorem dX7_codeFor_51 : decode cX7_codeFor 51 = .ok (.isub, 1) := by decide +kernel
theorem dX7_codeFor_52 : decode cX7_codeFor 52 = .ok (.istore 4, 2) := by decide +kernel
theorem dX7_codeFor_54 : decode cX7_codeFor 54 = .ok (.aload_n 0, 1) := by decide +kernel
theorem dX7_codeFor_55 : decode cX7_codeFor 55 = .ok (.getfield 26, 3) := by decide +kernel
theorem dX7_codeFor_58 : decode cX7_codeFor 58 = .ok (.iload_n 2, 1) := by decide +kernel
theorem dX7_codeFor_59 : decode cX7_codeFor 59 = .ok (.iaload, 1) := by decide +kernel
theorem dX7_codeFor_60 : decode cX7_codeFor 60 = .ok (.iconst 2, 1) := by decide +kernel
theorem dX7_codeFor_61 : decode cX7_codeFor 61 = .ok (.idiv, 1) := by decide +kernel
theorem dX7_codeFor_62 : decode cX7_codeFor 62 = .ok (.istore 6, 2) := by decide +kernel
theorem dX7_codeFor_64 : decode cX7_codeFor 64 = .ok (.iload 4, 2) := by decide +kernel
theorem dX7_codeFor_66 : decode cX7_codeFor 66 = .ok (.iload 6, 2) := by decide +kernel
theorem dX7_codeFor_68 : decode cX7_codeFor 68 = .ok (.if_icmp .lt 13, 3) := by decide +kernel
theorem dX7_codeFor_71 : decode cX7_codeFor 71 = .ok (.iinc 5 2, 3) := by decide +kernel
theorem dX7_codeFor_74 : decode cX7_codeFor 74 = .ok (.iload 4, 2) := by decide +kernel
theorem dX7_codeFor_76 : decode cX7_codeFor 76 = .ok (.iload 6, 2) := by decide +kernel
theorem dX7_codeFor_78 : decode cX7_codeFor 78 = .ok (.isub, 1) := by decide +kernel
theorem dX7_codeFor_79 : decode cX7_codeFor 79 = .ok (.istore 4, 2) := by decide +kernel
theorem dX7_codeFor_81 : decode cX7_codeFor 81 = .ok (.iload 4, 2) := by decide +kernel
theorem dX7_codeFor_83 : decode cX7_codeFor 83 = .ok (.aload_n 0, 1) := by decide +kernel
theorem dX7_codeFor_84 : decode cX7_codeFor 84 = .ok (.getfield 26, 3) := by decide +kernel
theorem dX7_codeFor_87 : decode cX7_codeFor 87 = .ok (.iload_n 2, 1) := by decide +kernel
theorem dX7_codeFor_88 : decode cX7_codeFor 88 = .ok (.iaload, 1) := by decide +kernel
theorem dX7_codeFor_89 : decode cX7_codeFor 89 = .ok (.iconst 4, 1) := by decide +kernel
theorem dX7_codeFor_90 : decode cX7_codeFor 90 = .ok (.idiv, 1) := by decide +kernel
theorem dX7_codeFor_91 : decode cX7_codeFor 91 = .ok (.if_icmp .lt 10, 3) := by decide +kernel
theorem dX7_codeFor_94 : decode cX7_codeFor 94 = .ok (.iload 5, 2) := by decide +kernel
theorem dX7_codeFor_96 : decode cX7_codeFor 96 = .ok (.iconst 1, 1) := by decide +kernel
theorem dX7_codeFor_97 : decode cX7_codeFor 97 = .ok (.iadd, 1) := by decide +kernel
theorem dX7_codeFor_98 : decode cX7_codeFor 98 = .ok (.goto 5, 3) := by decide +kernel
theorem dX7_codeFor_101 : decode cX7_codeFor 101 = .ok (.iload 5, 2) := by decide +kernel
theorem dX7_codeFor_103 : decode cX7_codeFor 103 = .ok (.ireturn, 1) := by decide +kernel
theorem dX7_square_0 : decode cX7_square 0 = .ok (.iload_n 0, 1) := by decide +kernel
theorem dX7_square_1 : decode cX7_square 1 = .ok (.iload_n 0, 1) := by decide +kernel
theorem dX7_square_2 : decode cX7_square 2 = .ok (.imul, 1) := by decide +kernel
theorem dX7_square_3 : decode cX7_square 3 = .ok (.ireturn, 1) := by decide +kernel
theorem dX7_errorOf_0 : decode cX7_errorOf 0 = .ok (.iconst 0, 1) := by decide +kernel
theorem dX7_errorOf_1 : decode cX7_errorOf 1 = .ok (.istore 4, 2) := by decide +kernel
theorem dX7_errorOf_3 : decode cX7_errorOf 3 = .ok (.aload_n 0, 1) := by decide +kernel
theorem dX7_errorOf_4 : decode cX7_errorOf 4 = .ok (.getfield 7, 3) := by decide +kernel
theorem dX7_errorOf_7 : decode cX7_errorOf 7 = .ok (.bipush 7, 2) := by decide +kernel
theorem dX7_errorOf_9 : decode cX7_errorOf 9 = .ok (.iload_n 1, 1) := by decide +kernel
theorem dX7_errorOf_10 : decode cX7_errorOf 10 = .ok (.iadd, 1) := by decide +kernel
theorem dX7_errorOf_11 : decode cX7_errorOf 11 = .ok (.iaload, 1) := by decide +kernel
theorem dX7_errorOf_12 : decode cX7_errorOf 12 = .ok (.istore 5, 2) := by decide +kernel
theorem dX7_errorOf_14 : decode cX7_errorOf 14 = .ok (.iload_n 3, 1) := by decide +kernel
theorem dX7_errorOf_15 : decode cX7_errorOf 15 = .ok (.istore 6, 2) := by decide +kernel
theorem dX7_errorOf_17 : decode cX7_errorOf 17 = .ok (.iload_n 1, 1) := by decide +kernel
theorem dX7_errorOf_18 : decode cX7_errorOf 18 = .ok (.iconst 1, 1) := by decide +kernel
theorem dX7_errorOf_19 : decode cX7_errorOf 19 = .ok (.iadd, 1) := by decide +kernel
theorem dX7_errorOf_20 : decode cX7_errorOf 20 = .ok (.istore 7, 2) := by decide +kernel
theorem dX7_errorOf_22 : decode cX7_errorOf 22 = .ok (.iload 7, 2) := by decide +kernel
theorem dX7_errorOf_24 : decode cX7_errorOf 24 = .ok (.iload_n 1, 1) := by decide +kernel
theorem dX7_errorOf_25 : decode cX7_errorOf 25 = .ok (.iload_n 2, 1) := by decide +kernel
theorem dX7_errorOf_26 : decode cX7_errorOf 26 = .ok (.iadd, 1) := by decide +kernel
theorem dX7_errorOf_27 : decode cX7_errorOf 27 = .ok (.if_icmp .ge 71, 3) := by decide +kernel
theorem dX7_errorOf_30 : decode cX7_errorOf 30 = .ok (.aload_n 0, 1) := by decide +kernel
theorem dX7_errorOf_31 : decode cX7_errorOf 31 = .ok (.iload 5, 2) := by decide +kernel
theorem dX7_errorOf_33 : decode cX7_errorOf 33 = .ok (.iload 6, 2) := by decide +kernel
theorem dX7_errorOf_35 : decode cX7_errorOf 35 = .ok (.aload_n 0, 1) := by decide +kernel
theorem dX7_errorOf_36 : decode cX7_errorOf 36 = .ok (.getfield 7, 3) := by decide +kernel
theorem dX7_errorOf_39 : decode cX7_errorOf 39 = .ok (.bipush 7, 2) := by decide +kernel
theorem dX7_errorOf_41 : decode cX7_errorOf 41 = .ok (.iload 7, 2) := by decide +kernel
theorem dX7_errorOf_43 : decode cX7_errorOf 43 = .ok (.iadd, 1) := by decide +kernel
theorem dX7_errorOf_44 : decode cX7_errorOf 44 = .ok (.iaload, 1) := by decide +kernel
theorem dX7_errorOf_45 : decode cX7_errorOf 45 = .ok (.invokevirtual 71, 3) := by decide +kernel
theorem dX7_errorOf_48 : decode cX7_errorOf 48 = .ok (.istore 8, 2) := by decide +kernel
theorem dX7_errorOf_50 : decode cX7_errorOf 50 = .ok (.aload_n 0, 1) := by decide +kernel
theorem dX7_errorOf_51 : decode cX7_errorOf 51 = .ok (.iload 5, 2) := by decide +kernel
theorem dX7_errorOf_53 : decode cX7_errorOf 53 = .ok (.iload 6, 2) := by decide +kernel
theorem dX7_errorOf_55 : decode cX7_errorOf 55 = .ok (.iload 8, 2) := by decide +kernel
theorem dX7_errorOf_57 : decode cX7_errorOf 57 = .ok (.invokevirtual 75, 3) := by decide +kernel
theorem dX7_errorOf_60 : decode cX7_errorOf 60 = .ok (.istore 5, 2) := by decide +kernel
theorem dX7_errorOf_62 : decode cX7_errorOf 62 = .ok (.iload 6, 2) := by decide +kernel
theorem dX7_errorOf_64 : decode cX7_errorOf 64 = .ok (.iload 8, 2) := by decide +kernel
theorem dX7_errorOf_66 : decode cX7_errorOf 66 = .ok (.invokestatic 78, 3) := by decide +kernel
theorem dX7_errorOf_69 : decode cX7_errorOf 69 = .ok (.istore 6, 2) := by decide +kernel
theorem dX7_errorOf_71 : decode cX7_errorOf 71 = .ok (.iload 4, 2) := by decide +kernel
theorem dX7_errorOf_73 : decode cX7_errorOf 73 = .ok (.aload_n 0, 1) := by decide +kernel
theorem dX7_errorOf_74 : decode cX7_errorOf 74 = .ok (.getfield 7, 3) := by decide +kernel
theorem dX7_errorOf_77 : decode cX7_errorOf 77 = .ok (.bipush 7, 2) := by decide +kernel
theorem dX7_errorOf_79 : decode cX7_errorOf 79 = .ok (.iload 7, 2) := by decide +kernel
theorem dX7_errorOf_81 : decode cX7_errorOf 81 = .ok (.iadd, 1) := by decide +kernel
theorem dX7_errorOf_82 : decode cX7_errorOf 82 = .ok (.iaload, 1) := by decide +kernel
theorem dX7_errorOf_83 : decode cX7_errorOf 83 = .ok (.iload 5, 2) := by decide +kernel
theorem dX7_errorOf_85 : decode cX7_errorOf 85 = .ok (.isub, 1) := by decide +kernel
theorem dX7_errorOf_86 : decode cX7_errorOf 86 = .ok (.invokestatic 82, 3) := by decide +kernel
theorem dX7_errorOf_89 : decode cX7_errorOf 89 = .ok (.iadd, 1) := by decide +kernel
theorem dX7_errorOf_90 : decode cX7_errorOf 90 = .ok (.istore 4, 2) := by decide +kernel
theorem dX7_errorOf_92 : decode cX7_errorOf 92 = .ok (.iinc 7 1, 3) := by decide +kernel
theorem dX7_errorOf_95 : decode cX7_errorOf 95 = .ok (.goto (-73), 3) := by decide +kernel
theorem dX7_errorOf_98 : decode cX7_errorOf 98 = .ok (.iload 4, 2) := by decide +kernel
theorem dX7_errorOf_100 : decode cX7_errorOf 100 = .ok (.ireturn, 1) := by decide +kernel
theorem dX7_best_0 : decode cX7_best 0 = .ok (.bipush 48, 2) := by decide +kernel
theorem dX7_best_2 : decode cX7_best 2 = .ok (.istore_n 3, 1) := by decide +kernel
theorem dX7_best_3 : decode cX7_best 3 = .ok (.bipush 47, 2) := by decide +kernel
theorem dX7_best_5 : decode cX7_best 5 = .ok (.istore 4, 2) := by decide +kernel
theorem dX7_best_7 : decode cX7_best 7 = .ok (.iload 4, 2) := by decide +kernel
theorem dX7_best_9 : decode cX7_best 9 = .ok (.ifCond .lt 34, 3) := by decide +kernel
theorem dX7_best_12 : decode cX7_best 12 = .ok (.aload_n 0, 1) := by decide +kernel
theorem dX7_best_13 : decode cX7_best 13 = .ok (.iload_n 1, 1) := by decide +kernel
theorem dX7_best_14 : decode cX7_best 14 = .ok (.iload_n 2, 1) := by decide +kernel
theorem dX7_best_15 : decode cX7_best 15 = .ok (.iload 4, 2) := by decide +kernel
theorem dX7_best_17 : decode cX7_best 17 = .ok (.invokevirtual 85, 3) := by decide +kernel
theorem dX7_best_20 : decode cX7_best 20 = .ok (.aload_n 0, 1) := by decide +kernel
theorem dX7_best_21 : decode cX7_best 21 = .ok (.iload_n 1, 1) := by decide +kernel
theorem dX7_best_22 : decode cX7_best 22 = .ok (.iload_n 2, 1) := by decide +kernel
theorem dX7_best_23 : decode cX7_best 23 = .ok (.iload_n 3, 1) := by decide +kernel
theorem dX7_best_24 : decode cX7_best 24 = .ok (.invokevirtual 85, 3) := by decide +kernel
theorem dX7_best_27 : decode cX7_best 27 = .ok (.if_icmp .gt 8, 3) := by decide +kernel
theorem dX7_best_30 : decode cX7_best 30 = .ok (.iload 4, 2) := by decide +kernel
theorem dX7_best_32 : decode cX7_best 32 = .ok (.goto 4, 3) := by decide +kernel
theorem dX7_best_35 : decode cX7_best 35 = .ok (.iload_n 3, 1) := by decide +kernel
theorem dX7_best_36 : decode cX7_best 36 = .ok (.istore_n 3, 1) := by decide +kernel
theorem dX7_best_37 : decode cX7_best 37 = .ok (.iinc 4 (-1), 3) := by decide +kernel
theorem dX7_best_40 : decode cX7_best 40 = .ok (.goto (-33), 3) := by decide +kernel
theorem dX7_best_43 : decode cX7_best 43 = .ok (.iload_n 3, 1) := by decide +kernel
theorem dX7_best_44 : decode cX7_best 44 = .ok (.ireturn, 1) := by decide +kernel
theorem dX7_codes_0 : decode cX7_codes 0 = .ok (.iload_n 1, 1) := by decide +kernel
theorem dX7_codes_1 : decode cX7_codes 1 = .ok (.aload_n 0, 1) := by decide +kernel
theorem dX7_codes_2 : decode cX7_codes 2 = .ok (.getfield 7, 3) := by decide +kernel
theorem dX7_codes_5 : decode cX7_codes 5 = .ok (.iconst 2, 1) := by decide +kernel
theorem dX7_codes_6 : decode cX7_codes 6 = .ok (.iaload, 1) := by decide +kernel
theorem dX7_codes_7 : decode cX7_codes 7 = .ok (.imul, 1) := by decide +kernel
theorem dX7_codes_8 : decode cX7_codes 8 = .ok (.istore_n 3, 1) := by decide +kernel
theorem dX7_codes_9 : decode cX7_codes 9 = .ok (.aload_n 0, 1) := by decide +kernel
theorem dX7_codes_10 : decode cX7_codes 10 = .ok (.getfield 7, 3) := by decide +kernel
theorem dX7_codes_13 : decode cX7_codes 13 = .ok (.bipush 7, 2) := by decide +kernel
theorem dX7_codes_15 : decode cX7_codes 15 = .ok (.iload_n 3, 1) := by decide +kernel
theorem dX7_codes_16 : decode cX7_codes 16 = .ok (.iadd, 1) := by decide +kernel
theorem dX7_codes_17 : decode cX7_codes 17 = .ok (.iaload, 1) := by decide +kernel
theorem dX7_codes_18 : decode cX7_codes 18 = .ok (.istore 4, 2) := by decide +kernel
theorem dX7_codes_20 : decode cX7_codes 20 = .ok (.iload_n 2, 1) := by decide +kernel
theorem dX7_codes_21 : decode cX7_codes 21 = .ok (.istore 5, 2) := by decide +kernel
theorem dX7_codes_23 : decode cX7_codes 23 = .ok (.aload_n 0, 1) := by decide +kernel
theorem dX7_codes_24 : decode cX7_codes 24 = .ok (.getfield 7, 3) := by decide +kernel
theorem dX7_codes_27 : decode cX7_codes 27 = .ok (.sipush 199, 3) := by decide +kernel
theorem dX7_codes_30 : decode cX7_codes 30 = .ok (.iload_n 1, 1) := by decide +kernel
theorem dX7_codes_31 : decode cX7_codes 31 = .ok (.iadd, 1) := by decide +kernel
theorem dX7_codes_32 : decode cX7_codes 32 = .ok (.iload 4, 2) := by decide +kernel
theorem dX7_codes_34 : decode cX7_codes 34 = .ok (.iastore, 1) := by decide +kernel
theorem dX7_codes_35 : decode cX7_codes 35 = .ok (.aload_n 0, 1) := by decide +kernel
theorem dX7_codes_36 : decode cX7_codes 36 = .ok (.getfield 7, 3) := by decide +kernel
theorem dX7_codes_39 : decode cX7_codes 39 = .ok (.sipush 231, 3) := by decide +kernel
theorem dX7_codes_42 : decode cX7_codes 42 = .ok (.iload_n 1, 1) := by decide +kernel
theorem dX7_codes_43 : decode cX7_codes 43 = .ok (.iadd, 1) := by decide +kernel
theorem dX7_codes_44 : decode cX7_codes 44 = .ok (.iload_n 2, 1) := by decide +kernel
theorem dX7_codes_45 : decode cX7_codes 45 = .ok (.iastore, 1) := by decide +kernel
theorem dX7_codes_46 : decode cX7_codes 46 = .ok (.aload_n 0, 1) := by decide +kernel
theorem dX7_codes_47 : decode cX7_codes 47 = .ok (.getfield 7, 3) := by decide +kernel
theorem dX7_codes_50 : decode cX7_codes 50 = .ok (.sipush 263, 3) := by decide +kernel
theorem dX7_codes_53 : decode cX7_codes 53 = .ok (.iload_n 1, 1) := by decide +kernel
theorem dX7_codes_54 : decode cX7_codes 54 = .ok (.iadd, 1) := by decide +kernel
theorem dX7_codes_55 : decode cX7_codes 55 = .ok (.iconst 0, 1) := by decide +kernel
theorem dX7_codes_56 : decode cX7_codes 56 = .ok (.iastore, 1) := by decide +kernel
theorem dX7_codes_57 : decode cX7_codes 57 = .ok (.aload_n 0, 1) := by decide +kernel
theorem dX7_codes_58 : decode cX7_codes 58 = .ok (.getfield 7, 3) := by decide +kernel
theorem dX7_codes_61 : decode cX7_codes 61 = .ok (.bipush 71, 2) := by decide +kernel
theorem dX7_codes_63 : decode cX7_codes 63 = .ok (.iload_n 3, 1) := by decide +kernel
theorem dX7_codes_64 : decode cX7_codes 64 = .ok (.iadd, 1) := by decide +kernel
theorem dX7_codes_65 : decode cX7_codes 65 = .ok (.iconst (-1), 1) := by decide +kernel
theorem dX7_codes_66 : decode cX7_codes 66 = .ok (.iastore, 1) := by decide +kernel
theorem dX7_codes_67 : decode cX7_codes 67 = .ok (.aload_n 0, 1) := by decide +kernel
theorem dX7_codes_68 : decode cX7_codes 68 = .ok (.getfield 7, 3) := by decide +kernel
theorem dX7_codes_71 : decode cX7_codes 71 = .ok (.sipush 135, 3) := by decide +kernel
theorem dX7_codes_74 : decode cX7_codes 74 = .ok (.iload_n 3, 1) := by decide +kernel
theorem dX7_codes_75 : decode cX7_codes 75 = .ok (.iadd, 1) := by decide +kernel
theorem dX7_codes_76 : decode cX7_codes 76 = .ok (.iload 4, 2) := by decide +kernel
theorem dX7_codes_78 : decode cX7_codes 78 = .ok (.iastore, 1) := by decide +kernel
theorem dX7_codes_79 : decode cX7_codes 79 = .ok (.iload_n 3, 1) := by decide +kernel
theorem dX7_codes_80 : decode cX7_codes 80 = .ok (.iconst 1, 1) := by decide +kernel
theorem dX7_codes_81 : decode cX7_codes 81 = .ok (.iadd, 1) := by decide +kernel
theorem dX7_codes_82 : decode cX7_codes 82 = .ok (.istore 6, 2) := by decide +kernel
theorem dX7_codes_84 : decode cX7_codes 84 = .ok (.iload 6, 2) := by decide +kernel
theorem dX7_codes_86 : decode cX7_codes 86 = .ok (.aload_n 0, 1) := by decide +kernel
theorem dX7_codes_87 : decode cX7_codes 87 = .ok (.iload_n 1, 1) := by decide +kernel
theorem dX7_codes_88 : decode cX7_codes 88 = .ok (.invokevirtual 88, 3) := by decide +kernel
theorem dX7_codes_91 : decode cX7_codes 91 = .ok (.if_icmp .ge 75, 3) := by decide +kernel
theorem dX7_codes_94 : decode cX7_codes 94 = .ok (.aload_n 0, 1) := by decide +kernel
theorem dX7_codes_95 : decode cX7_codes 95 = .ok (.iload 4, 2) := by decide +kernel
theorem dX7_codes_97 : decode cX7_codes 97 = .ok (.iload 5, 2) := by decide +kernel
theorem dX7_codes_99 : decode cX7_codes 99 = .ok (.aload_n 0, 1) := by decide +kernel
theorem dX7_codes_100 : decode cX7_codes 100 = .ok (.getfield 7, 3) := by decide +kernel
theorem dX7_codes_103 : decode cX7_codes 103 = .ok (.bipush 7, 2) := by decide +kernel
theorem dX7_codes_105 : decode cX7_codes 105 = .ok (.iload 6, 2) := by decide +kernel
theorem dX7_codes_107 : decode cX7_codes 107 = .ok (.iadd, 1) := by decide +kernel
theorem dX7_codes_108 : decode cX7_codes 108 = .ok (.iaload, 1) := by decide +kernel
theorem dX7_codes_109 : decode cX7_codes 109 = .ok (.invokevirtual 71, 3) := by decide +kernel
theorem dX7_codes_112 : decode cX7_codes 112 = .ok (.istore 7, 2) := by decide +kernel
theorem dX7_codes_114 : decode cX7_codes 114 = .ok (.aload_n 0, 1) := by decide +kernel
theorem dX7_codes_115 : decode cX7_codes 115 = .ok (.iload 4, 2) := by decide +kernel
theorem dX7_codes_117 : decode cX7_codes 117 = .ok (.iload 5, 2) := by decide +kernel
theorem dX7_codes_119 : decode cX7_codes 119 = .ok (.iload 7, 2) := by decide +kernel
theorem dX7_codes_121 : decode cX7_codes 121 = .ok (.invokevirtual 75, 3) := by decide +kernel
theorem dX7_codes_124 : decode cX7_codes 124 = .ok (.istore 4, 2) := by decide +kernel
theorem dX7_codes_126 : decode cX7_codes 126 = .ok (.iload 5, 2) := by decide +kernel
theorem dX7_codes_128 : decode cX7_codes 128 = .ok (.iload 7, 2) := by decide +kernel
theorem dX7_codes_130 : decode cX7_codes 130 = .ok (.invokestatic 78, 3) := by decide +kernel
theorem dX7_codes_133 : decode cX7_codes 133 = .ok (.istore 5, 2) := by decide +kernel
theorem dX7_codes_135 : decode cX7_codes 135 = .ok (.aload_n 0, 1) := by decide +kernel
theorem dX7_codes_136 : decode cX7_codes 136 = .ok (.getfield 7, 3) := by decide +kernel
theorem dX7_codes_139 : decode cX7_codes 139 = .ok (.bipush 71, 2) := by decide +kernel
theorem dX7_codes_141 : decode cX7_codes 141 = .ok (.iload 6, 2) := by decide +kernel
theorem dX7_codes_143 : decode cX7_codes 143 = .ok (.iadd, 1) := by decide +kernel
theorem dX7_codes_144 : decode cX7_codes 144 = .ok (.iload 7, 2) := by decide +kernel
theorem dX7_codes_146 : decode cX7_codes 146 = .ok (.iastore, 1) := by decide +kernel
theorem dX7_codes_147 : decode cX7_codes 147 = .ok (.aload_n 0, 1) := by decide +kernel
theorem dX7_codes_148 : decode cX7_codes 148 = .ok (.getfield 7, 3) := by decide +kernel
theorem dX7_codes_151 : decode cX7_codes 151 = .ok (.sipush 135, 3) := by decide +kernel
theorem dX7_codes_154 : decode cX7_codes 154 = .ok (.iload 6, 2) := by decide +kernel
theorem dX7_codes_156 : decode cX7_codes 156 = .ok (.iadd, 1) := by decide +kernel
theorem dX7_codes_157 : decode cX7_codes 157 = .ok (.iload 4, 2) := by decide +kernel
theorem dX7_codes_159 : decode cX7_codes 159 = .ok (.iastore, 1) := by decide +kernel
theorem dX7_codes_160 : decode cX7_codes 160 = .ok (.iinc 6 1, 3) := by decide +kernel
theorem dX7_codes_163 : decode cX7_codes 163 = .ok (.goto (-79), 3) := by decide +kernel
theorem dX7_codes_166 : decode cX7_codes 166 = .ok (.iload 5, 2) := by decide +kernel
theorem dX7_codes_168 : decode cX7_codes 168 = .ok (.ireturn, 1) := by decide +kernel
theorem dX7_filled_0 : decode cX7_filled 0 = .ok (.aload_n 0, 1) := by decide +kernel
theorem dX7_filled_1 : decode cX7_filled 1 = .ok (.getfield 7, 3) := by decide +kernel
theorem dX7_filled_4 : decode cX7_filled 4 = .ok (.iconst 2, 1) := by decide +kernel
theorem dX7_filled_5 : decode cX7_filled 5 = .ok (.iaload, 1) := by decide +kernel
theorem dX7_filled_6 : decode cX7_filled 6 = .ok (.istore_n 2, 1) := by decide +kernel
theorem dX7_filled_7 : decode cX7_filled 7 = .ok (.iload_n 1, 1) := by decide +kernel
theorem dX7_filled_8 : decode cX7_filled 8 = .ok (.iload_n 1, 1) := by decide +kernel
theorem dX7_filled_9 : decode cX7_filled 9 = .ok (.iload_n 2, 1) := by decide +kernel
theorem dX7_filled_10 : decode cX7_filled 10 = .ok (.irem, 1) := by decide +kernel
theorem dX7_filled_11 : decode cX7_filled 11 = .ok (.isub, 1) := by decide +kernel
theorem dX7_filled_12 : decode cX7_filled 12 = .ok (.istore_n 3, 1) := by decide +kernel
theorem dX7_filled_13 : decode cX7_filled 13 = .ok (.iload_n 3, 1) := by decide +kernel
theorem dX7_filled_14 : decode cX7_filled 14 = .ok (.ifCond .eq 13, 3) := by decide +kernel
theorem dX7_filled_17 : decode cX7_filled 17 = .ok (.aload_n 0, 1) := by decide +kernel
theorem dX7_filled_18 : decode cX7_filled 18 = .ok (.getfield 7, 3) := by decide +kernel
theorem dX7_filled_21 : decode cX7_filled 21 = .ok (.iconst 4, 1) := by decide +kernel
theorem dX7_filled_22 : decode cX7_filled 22 = .ok (.iaload, 1) := by decide +kernel
theorem dX7_filled_23 : decode cX7_filled 23 = .ok (.iconst 1, 1) := by decide +kernel
theorem dX7_filled_24 : decode cX7_filled 24 = .ok (.if_icmp .ne 5, 3) := by decide +kernel
theorem dX7_filled_27 : decode cX7_filled 27 = .ok (.iconst 0, 1) := by decide +kernel
theorem dX7_filled_28 : decode cX7_filled 28 = .ok (.ireturn, 1) := by decide +kernel
theorem dX7_filled_29 : decode cX7_filled 29 = .ok (.aload_n 0, 1) := by decide +kernel
theorem dX7_filled_30 : decode cX7_filled 30 = .ok (.getfield 7, 3) := by decide +kernel
theorem dX7_filled_33 : decode cX7_filled 33 = .ok (.iconst 4, 1) := by decide +kernel
theorem dX7_filled_34 : decode cX7_filled 34 = .ok (.iaload, 1) := by decide +kernel
theorem dX7_filled_35 : decode cX7_filled 35 = .ok (.ifCond .ne 14, 3) := by decide +kernel
theorem dX7_filled_38 : decode cX7_filled 38 = .ok (.aload_n 0, 1) := by decide +kernel
theorem dX7_filled_39 : decode cX7_filled 39 = .ok (.getfield 29, 3) := by decide +kernel
theorem dX7_filled_42 : decode cX7_filled 42 = .ok (.iload_n 3, 1) := by decide +kernel
theorem dX7_filled_43 : decode cX7_filled 43 = .ok (.iconst 1, 1) := by decide +kernel
theorem dX7_filled_44 : decode cX7_filled 44 = .ok (.isub, 1) := by decide +kernel
theorem dX7_filled_45 : decode cX7_filled 45 = .ok (.iaload, 1) := by decide +kernel
theorem dX7_filled_46 : decode cX7_filled 46 = .ok (.goto 11, 3) := by decide +kernel
theorem dX7_filled_49 : decode cX7_filled 49 = .ok (.aload_n 0, 1) := by decide +kernel
theorem dX7_filled_50 : decode cX7_filled 50 = .ok (.getfield 29, 3) := by decide +kernel
theorem dX7_filled_53 : decode cX7_filled 53 = .ok (.iload_n 1, 1) := by decide +kernel
theorem dX7_filled_54 : decode cX7_filled 54 = .ok (.iload_n 2, 1) := by decide +kernel
theorem dX7_filled_55 : decode cX7_filled 55 = .ok (.isub, 1) := by decide +kernel
theorem dX7_filled_56 : decode cX7_filled 56 = .ok (.iaload, 1) := by decide +kernel
theorem dX7_filled_57 : decode cX7_filled 57 = .ok (.ireturn, 1) := by decide +kernel
theorem dX7_decodes_0 : decode cX7_decodes 0 = .ok (.iconst 0, 1) := by decide +kernel
theorem dX7_decodes_1 : decode cX7_decodes 1 = .ok (.istore_n 1, 1) := by decide +kernel
theorem dX7_decodes_2 : decode cX7_decodes 2 = .ok (.iconst 0, 1) := by decide +kernel
theorem dX7_decodes_3 : decode cX7_decodes 3 = .ok (.istore_n 2, 1) := by decide +kernel
theorem dX7_decodes_4 : decode cX7_decodes 4 = .ok (.iconst 0, 1) := by decide +kernel
theorem dX7_decodes_5 : decode cX7_decodes 5 = .ok (.istore_n 3, 1) := by decide +kernel
theorem dX7_decodes_6 : decode cX7_decodes 6 = .ok (.iload_n 3, 1) := by decide +kernel
theorem dX7_decodes_7 : decode cX7_decodes 7 = .ok (.aload_n 0, 1) := by decide +kernel
theorem dX7_decodes_8 : decode cX7_decodes 8 = .ok (.getfield 7, 3) := by decide +kernel
theorem dX7_decodes_11 : decode cX7_decodes 11 = .ok (.iconst 0, 1) := by decide +kernel
theorem dX7_decodes_12 : decode cX7_decodes 12 = .ok (.iaload, 1) := by decide +kernel
theorem dX7_decodes_13 : decode cX7_decodes 13 = .ok (.if_icmp .ge 150, 3) := by decide +kernel
theorem dX7_decodes_16 : decode cX7_decodes 16 = .ok (.iload_n 3, 1) := by decide +kernel
theorem dX7_decodes_17 : decode cX7_decodes 17 = .ok (.aload_n 0, 1) := by decide +kernel
theorem dX7_decodes_18 : decode cX7_decodes 18 = .ok (.getfield 7, 3) := by decide +kernel
theorem dX7_decodes_21 : decode cX7_decodes 21 = .ok (.iconst 2, 1) := by decide +kernel
theorem dX7_decodes_22 : decode cX7_decodes 22 = .ok (.iaload, 1) := by decide +kernel
theorem dX7_decodes_23 : decode cX7_decodes 23 = .ok (.idiv, 1) := by decide +kernel
theorem dX7_decodes_24 : decode cX7_decodes 24 = .ok (.istore 4, 2) := by decide +kernel
theorem dX7_decodes_26 : decode cX7_decodes 26 = .ok (.iload_n 3, 1) := by decide +kernel
theorem dX7_decodes_27 : decode cX7_decodes 27 = .ok (.aload_n 0, 1) := by decide +kernel
theorem dX7_decodes_28 : decode cX7_decodes 28 = .ok (.getfield 7, 3) := by decide +kernel
theorem dX7_decodes_31 : decode cX7_decodes 31 = .ok (.iconst 2, 1) := by decide +kernel
theorem dX7_decodes_32 : decode cX7_decodes 32 = .ok (.iaload, 1) := by decide +kernel
theorem dX7_decodes_33 : decode cX7_decodes 33 = .ok (.irem, 1) := by decide +kernel
theorem dX7_decodes_34 : decode cX7_decodes 34 = .ok (.ifCond .ne 7, 3) := by decide +kernel
theorem dX7_decodes_37 : decode cX7_decodes 37 = .ok (.iconst 1, 1) := by decide +kernel
theorem dX7_decodes_38 : decode cX7_decodes 38 = .ok (.goto 4, 3) := by decide +kernel
theorem dX7_decodes_41 : decode cX7_decodes 41 = .ok (.iconst 0, 1) := by decide +kernel
theorem dX7_decodes_42 : decode cX7_decodes 42 = .ok (.istore 5, 2) := by decide +kernel
theorem dX7_decodes_44 : decode cX7_decodes 44 = .ok (.iload 5, 2) := by decide +kernel
theorem dX7_decodes_46 : decode cX7_decodes 46 = .ok (.ifCond .eq 17, 3) := by decide +kernel
theorem dX7_decodes_49 : decode cX7_decodes 49 = .ok (.aload_n 0, 1) := by decide +kernel
theorem dX7_decodes_50 : decode cX7_decodes 50 = .ok (.getfield 7, 3) := by decide +kernel
theorem dX7_decodes_53 : decode cX7_decodes 53 = .ok (.sipush 199, 3) := by decide +kernel
theorem dX7_decodes_56 : decode cX7_decodes 56 = .ok (.iload 4, 2) := by decide +kernel
theorem dX7_decodes_58 : decode cX7_decodes 58 = .ok (.iadd, 1) := by decide +kernel
theorem dX7_decodes_59 : decode cX7_decodes 59 = .ok (.iaload, 1) := by decide +kernel
theorem dX7_decodes_60 : decode cX7_decodes 60 = .ok (.goto 18, 3) := by decide +kernel
theorem dX7_decodes_63 : decode cX7_decodes 63 = .ok (.aload_n 0, 1) := by decide +kernel
theorem dX7_decodes_64 : decode cX7_decodes 64 = .ok (.iload_n 1, 1) := by decide +kernel
theorem dX7_decodes_65 : decode cX7_decodes 65 = .ok (.iload_n 2, 1) := by decide +kernel
theorem dX7_decodes_66 : decode cX7_decodes 66 = .ok (.aload_n 0, 1) := by decide +kernel
theorem dX7_decodes_67 : decode cX7_decodes 67 = .ok (.getfield 7, 3) := by decide +kernel
theorem dX7_decodes_70 : decode cX7_decodes 70 = .ok (.bipush 71, 2) := by decide +kernel
theorem dX7_decodes_72 : decode cX7_decodes 72 = .ok (.iload_n 3, 1) := by decide +kernel
theorem dX7_decodes_73 : decode cX7_decodes 73 = .ok (.iadd, 1) := by decide +kernel
theorem dX7_decodes_74 : decode cX7_decodes 74 = .ok (.iaload, 1) := by decide +kernel
theorem dX7_decodes_75 : decode cX7_decodes 75 = .ok (.invokevirtual 75, 3) := by decide +kernel
theorem dX7_decodes_78 : decode cX7_decodes 78 = .ok (.istore_n 1, 1) := by decide +kernel
theorem dX7_decodes_79 : decode cX7_decodes 79 = .ok (.iload 5, 2) := by decide +kernel
theorem dX7_decodes_81 : decode cX7_decodes 81 = .ok (.ifCond .eq 17, 3) := by decide +kernel
theorem dX7_decodes_84 : decode cX7_decodes 84 = .ok (.aload_n 0, 1) := by decide +kernel
theorem dX7_decodes_85 : decode cX7_decodes 85 = .ok (.getfield 7, 3) := by decide +kernel
theorem dX7_decodes_88 : decode cX7_decodes 88 = .ok (.sipush 231, 3) := by decide +kernel
theorem dX7_decodes_91 : decode cX7_decodes 91 = .ok (.iload 4, 2) := by decide +kernel
theorem dX7_decodes_93 : decode cX7_decodes 93 = .ok (.iadd, 1) := by decide +kernel
theorem dX7_decodes_94 : decode cX7_decodes 94 = .ok (.iaload, 1) := by decide +kernel
theorem dX7_decodes_95 : decode cX7_decodes 95 = .ok (.goto 16, 3) := by decide +kernel
theorem dX7_decodes_98 : decode cX7_decodes 98 = .ok (.iload_n 2, 1) := by decide +kernel
theorem dX7_decodes_99 : decode cX7_decodes 99 = .ok (.aload_n 0, 1) := by decide +kernel
theorem dX7_decodes_100 : decode cX7_decodes 100 = .ok (.getfield 7, 3) := by decide +kernel
theorem dX7_decodes_103 : decode cX7_decodes 103 = .ok (.bipush 71, 2) := by decide +kernel
theorem dX7_decodes_105 : decode cX7_decodes 105 = .ok (.iload_n 3, 1) := by decide +kernel
theorem dX7_decodes_106 : decode cX7_decodes 106 = .ok (.iadd, 1) := by decide +kernel
theorem dX7_decodes_107 : decode cX7_decodes 107 = .ok (.iaload, 1) := by decide +kernel
theorem dX7_decodes_108 : decode cX7_decodes 108 = .ok (.invokestatic 78, 3) := by decide +kernel
theorem dX7_decodes_111 : decode cX7_decodes 111 = .ok (.istore_n 2, 1) := by decide +kernel
theorem dX7_decodes_112 : decode cX7_decodes 112 = .ok (.aload_n 0, 1) := by decide +kernel
theorem dX7_decodes_113 : decode cX7_decodes 113 = .ok (.getfield 29, 3) := by decide +kernel
theorem dX7_decodes_116 : decode cX7_decodes 116 = .ok (.iload_n 3, 1) := by decide +kernel
theorem dX7_decodes_117 : decode cX7_decodes 117 = .ok (.aload_n 0, 1) := by decide +kernel
theorem dX7_decodes_118 : decode cX7_decodes 118 = .ok (.getfield 7, 3) := by decide +kernel
theorem dX7_decodes_121 : decode cX7_decodes 121 = .ok (.sipush 263, 3) := by decide +kernel
theorem dX7_decodes_124 : decode cX7_decodes 124 = .ok (.iload 4, 2) := by decide +kernel
theorem dX7_decodes_126 : decode cX7_decodes 126 = .ok (.iadd, 1) := by decide +kernel
theorem dX7_decodes_127 : decode cX7_decodes 127 = .ok (.iaload, 1) := by decide +kernel
theorem dX7_decodes_128 : decode cX7_decodes 128 = .ok (.iconst 1, 1) := by decide +kernel
theorem dX7_decodes_129 : decode cX7_decodes 129 = .ok (.if_icmp .ne 11, 3) := by decide +kernel
theorem dX7_decodes_132 : decode cX7_decodes 132 = .ok (.aload_n 0, 1) := by decide +kernel
theorem dX7_decodes_133 : decode cX7_decodes 133 = .ok (.iload_n 3, 1) := by decide +kernel
theorem dX7_decodes_134 : decode cX7_decodes 134 = .ok (.invokevirtual 91, 3) := by decide +kernel
theorem dX7_decodes_137 : decode cX7_decodes 137 = .ok (.goto 4, 3) := by decide +kernel
theorem dX7_decodes_140 : decode cX7_decodes 140 = .ok (.iload_n 1, 1) := by decide +kernel
theorem dX7_decodes_141 : decode cX7_decodes 141 = .ok (.iastore, 1) := by decide +kernel
theorem dX7_decodes_142 : decode cX7_decodes 142 = .ok (.aload_n 0, 1) := by decide +kernel
theorem dX7_decodes_143 : decode cX7_decodes 143 = .ok (.getfield 32, 3) := by decide +kernel
theorem dX7_decodes_146 : decode cX7_decodes 146 = .ok (.iload_n 3, 1) := by decide +kernel
theorem dX7_decodes_147 : decode cX7_decodes 147 = .ok (.iload_n 2, 1) := by decide +kernel
theorem dX7_decodes_148 : decode cX7_decodes 148 = .ok (.iastore, 1) := by decide +kernel
theorem dX7_decodes_149 : decode cX7_decodes 149 = .ok (.aload_n 0, 1) := by decide +kernel
theorem dX7_decodes_150 : decode cX7_decodes 150 = .ok (.getfield 35, 3) := by decide +kernel
theorem dX7_decodes_153 : decode cX7_decodes 153 = .ok (.iload 4, 2) := by decide +kernel
theorem dX7_decodes_155 : decode cX7_decodes 155 = .ok (.iload_n 2, 1) := by decide +kernel
theorem dX7_decodes_156 : decode cX7_decodes 156 = .ok (.iastore, 1) := by decide +kernel
theorem dX7_decodes_157 : decode cX7_decodes 157 = .ok (.iinc 3 1, 3) := by decide +kernel
theorem dX7_decodes_160 : decode cX7_decodes 160 = .ok (.goto (-154), 3) := by decide +kernel
theorem dX7_decodes_163 : decode cX7_decodes 163 = .ok (.return_, 1) := by decide +kernel
theorem dX7_decodesBefore_0 : decode cX7_decodesBefore 0 = .ok (.aload_n 0, 1) := by decide +kernel
theorem dX7_decodesBefore_1 : decode cX7_decodesBefore 1 = .ok (.invokevirtual 94, 3) := by decide +kernel
theorem dX7_decodesBefore_4 : decode cX7_decodesBefore 4 = .ok (.iconst 0, 1) := by decide +kernel
theorem dX7_decodesBefore_5 : decode cX7_decodesBefore 5 = .ok (.istore_n 1, 1) := by decide +kernel
theorem dX7_decodesBefore_6 : decode cX7_decodesBefore 6 = .ok (.iload_n 1, 1) := by decide +kernel
theorem dX7_decodesBefore_7 : decode cX7_decodesBefore 7 = .ok (.aload_n 0, 1) := by decide +kernel
theorem dX7_decodesBefore_8 : decode cX7_decodesBefore 8 = .ok (.getfield 7, 3) := by decide +kernel
theorem dX7_decodesBefore_11 : decode cX7_decodesBefore 11 = .ok (.iconst 0, 1) := by decide +kernel
theorem dX7_decodesBefore_12 : decode cX7_decodesBefore 12 = .ok (.iaload, 1) := by decide +kernel
theorem dX7_decodesBefore_13 : decode cX7_decodesBefore 13 = .ok (.if_icmp .ge 21, 3) := by decide +kernel
theorem dX7_decodesBefore_16 : decode cX7_decodesBefore 16 = .ok (.aload_n 0, 1) := by decide +kernel
theorem dX7_decodesBefore_17 : decode cX7_decodesBefore 17 = .ok (.getfield 38, 3) := by decide +kernel
theorem dX7_decodesBefore_20 : decode cX7_decodesBefore 20 = .ok (.iload_n 1, 1) := by decide +kernel
theorem dX7_decodesBefore_21 : decode cX7_decodesBefore 21 = .ok (.aload_n 0, 1) := by decide +kernel
theorem dX7_decodesBefore_22 : decode cX7_decodesBefore 22 = .ok (.getfield 29, 3) := by decide +kernel
theorem dX7_decodesBefore_25 : decode cX7_decodesBefore 25 = .ok (.iload_n 1, 1) := by decide +kernel
theorem dX7_decodesBefore_26 : decode cX7_decodesBefore 26 = .ok (.iaload, 1) := by decide +kernel
theorem dX7_decodesBefore_27 : decode cX7_decodesBefore 27 = .ok (.iastore, 1) := by decide +kernel
theorem dX7_decodesBefore_28 : decode cX7_decodesBefore 28 = .ok (.iinc 1 1, 3) := by decide +kernel
theorem dX7_decodesBefore_31 : decode cX7_decodesBefore 31 = .ok (.goto (-25), 3) := by decide +kernel
theorem dX7_decodesBefore_34 : decode cX7_decodesBefore 34 = .ok (.return_, 1) := by decide +kernel
theorem dX7_others_0 : decode cX7_others 0 = .ok (.aload_n 0, 1) := by decide +kernel
theorem dX7_others_1 : decode cX7_others 1 = .ok (.invokevirtual 94, 3) := by decide +kernel
theorem dX7_others_4 : decode cX7_others 4 = .ok (.iconst 0, 1) := by decide +kernel
theorem dX7_others_5 : decode cX7_others 5 = .ok (.istore_n 1, 1) := by decide +kernel
theorem dX7_others_6 : decode cX7_others 6 = .ok (.iconst 0, 1) := by decide +kernel
theorem dX7_others_7 : decode cX7_others 7 = .ok (.istore_n 2, 1) := by decide +kernel
theorem dX7_others_8 : decode cX7_others 8 = .ok (.iload_n 2, 1) := by decide +kernel
theorem dX7_others_9 : decode cX7_others 9 = .ok (.aload_n 0, 1) := by decide +kernel
theorem dX7_others_10 : decode cX7_others 10 = .ok (.getfield 7, 3) := by decide +kernel
theorem dX7_others_13 : decode cX7_others 13 = .ok (.iconst 0, 1) := by decide +kernel
theorem dX7_others_14 : decode cX7_others 14 = .ok (.iaload, 1) := by decide +kernel
theorem dX7_others_15 : decode cX7_others 15 = .ok (.if_icmp .ge 32, 3) := by decide +kernel
theorem dX7_others_18 : decode cX7_others 18 = .ok (.iload_n 1, 1) := by decide +kernel
theorem dX7_others_19 : decode cX7_others 19 = .ok (.aload_n 0, 1) := by decide +kernel
theorem dX7_others_20 : decode cX7_others 20 = .ok (.getfield 29, 3) := by decide +kernel
theorem dX7_others_23 : decode cX7_others 23 = .ok (.iload_n 2, 1) := by decide +kernel
theorem dX7_others_24 : decode cX7_others 24 = .ok (.iaload, 1) := by decide +kernel
theorem dX7_others_25 : decode cX7_others 25 = .ok (.aload_n 0, 1) := by decide +kernel
theorem dX7_others_26 : decode cX7_others 26 = .ok (.getfield 38, 3) := by decide +kernel
theorem dX7_others_29 : decode cX7_others 29 = .ok (.iload_n 2, 1) := by decide +kernel
theorem dX7_others_30 : decode cX7_others 30 = .ok (.iaload, 1) := by decide +kernel
theorem dX7_others_31 : decode cX7_others 31 = .ok (.if_icmp .ne 7, 3) := by decide +kernel
theorem dX7_others_34 : decode cX7_others 34 = .ok (.iconst 0, 1) := by decide +kernel
theorem dX7_others_35 : decode cX7_others 35 = .ok (.goto 4, 3) := by decide +kernel
theorem dX7_others_38 : decode cX7_others 38 = .ok (.iconst 1, 1) := by decide +kernel
theorem dX7_others_39 : decode cX7_others 39 = .ok (.iadd, 1) := by decide +kernel
theorem dX7_others_40 : decode cX7_others 40 = .ok (.istore_n 1, 1) := by decide +kernel
theorem dX7_others_41 : decode cX7_others 41 = .ok (.iinc 2 1, 3) := by decide +kernel
theorem dX7_others_44 : decode cX7_others 44 = .ok (.goto (-36), 3) := by decide +kernel
theorem dX7_others_47 : decode cX7_others 47 = .ok (.iload_n 1, 1) := by decide +kernel
theorem dX7_others_48 : decode cX7_others 48 = .ok (.ireturn, 1) := by decide +kernel
theorem dX7_errorMade_0 : decode cX7_errorMade 0 = .ok (.iconst 0, 1) := by decide +kernel
theorem dX7_errorMade_1 : decode cX7_errorMade 1 = .ok (.istore_n 3, 1) := by decide +kernel
theorem dX7_errorMade_2 : decode cX7_errorMade 2 = .ok (.iload_n 1, 1) := by decide +kernel
theorem dX7_errorMade_3 : decode cX7_errorMade 3 = .ok (.istore 4, 2) := by decide +kernel
theorem dX7_errorMade_5 : decode cX7_errorMade 5 = .ok (.iload 4, 2) := by decide +kernel
theorem dX7_errorMade_7 : decode cX7_errorMade 7 = .ok (.iload_n 2, 1) := by decide +kernel
theorem dX7_errorMade_8 : decode cX7_errorMade 8 = .ok (.if_icmp .ge 33, 3) := by decide +kernel
theorem dX7_errorMade_11 : decode cX7_errorMade 11 = .ok (.iload_n 3, 1) := by decide +kernel
theorem dX7_errorMade_12 : decode cX7_errorMade 12 = .ok (.aload_n 0, 1) := by decide +kernel
theorem dX7_errorMade_13 : decode cX7_errorMade 13 = .ok (.getfield 7, 3) := by decide +kernel
theorem dX7_errorMade_16 : decode cX7_errorMade 16 = .ok (.bipush 7, 2) := by decide +kernel
theorem dX7_errorMade_18 : decode cX7_errorMade 18 = .ok (.iload 4, 2) := by decide +kernel
theorem dX7_errorMade_20 : decode cX7_errorMade 20 = .ok (.iadd, 1) := by decide +kernel
theorem dX7_errorMade_21 : decode cX7_errorMade 21 = .ok (.iaload, 1) := by decide +kernel
theorem dX7_errorMade_22 : decode cX7_errorMade 22 = .ok (.aload_n 0, 1) := by decide +kernel
theorem dX7_errorMade_23 : decode cX7_errorMade 23 = .ok (.getfield 29, 3) := by decide +kernel
theorem dX7_errorMade_26 : decode cX7_errorMade 26 = .ok (.iload 4, 2) := by decide +kernel
theorem dX7_errorMade_28 : decode cX7_errorMade 28 = .ok (.iaload, 1) := by decide +kernel
theorem dX7_errorMade_29 : decode cX7_errorMade 29 = .ok (.isub, 1) := by decide +kernel
theorem dX7_errorMade_30 : decode cX7_errorMade 30 = .ok (.invokestatic 82, 3) := by decide +kernel
theorem dX7_errorMade_33 : decode cX7_errorMade 33 = .ok (.iadd, 1) := by decide +kernel
theorem dX7_errorMade_34 : decode cX7_errorMade 34 = .ok (.istore_n 3, 1) := by decide +kernel
theorem dX7_errorMade_35 : decode cX7_errorMade 35 = .ok (.iinc 4 1, 3) := by decide +kernel
theorem dX7_errorMade_38 : decode cX7_errorMade 38 = .ok (.goto (-33), 3) := by decide +kernel
theorem dX7_errorMade_41 : decode cX7_errorMade 41 = .ok (.iload_n 3, 1) := by decide +kernel
theorem dX7_errorMade_42 : decode cX7_errorMade 42 = .ok (.ireturn, 1) := by decide +kernel
theorem dX7_notCoded_0 : decode cX7_notCoded 0 = .ok (.aload_n 0, 1) := by decide +kernel
theorem dX7_notCoded_1 : decode cX7_notCoded 1 = .ok (.getfield 7, 3) := by decide +kernel
theorem dX7_notCoded_4 : decode cX7_notCoded 4 = .ok (.iconst 1, 1) := by decide +kernel
theorem dX7_notCoded_5 : decode cX7_notCoded 5 = .ok (.iconst 0, 1) := by decide +kernel
theorem dX7_notCoded_6 : decode cX7_notCoded 6 = .ok (.iastore, 1) := by decide +kernel
theorem dX7_notCoded_7 : decode cX7_notCoded 7 = .ok (.iconst 0, 1) := by decide +kernel
theorem dX7_notCoded_8 : decode cX7_notCoded 8 = .ok (.istore_n 1, 1) := by decide +kernel
theorem dX7_notCoded_9 : decode cX7_notCoded 9 = .ok (.iload_n 1, 1) := by decide +kernel
theorem dX7_notCoded_10 : decode cX7_notCoded 10 = .ok (.bipush 32, 2) := by decide +kernel
theorem dX7_notCoded_12 : decode cX7_notCoded 12 = .ok (.if_icmp .ge 20, 3) := by decide +kernel
theorem dX7_notCoded_15 : decode cX7_notCoded 15 = .ok (.aload_n 0, 1) := by decide +kernel
theorem dX7_notCoded_16 : decode cX7_notCoded 16 = .ok (.getfield 7, 3) := by decide +kernel
theorem dX7_notCoded_19 : decode cX7_notCoded 19 = .ok (.sipush 263, 3) := by decide +kernel
theorem dX7_notCoded_22 : decode cX7_notCoded 22 = .ok (.iload_n 1, 1) := by decide +kernel
theorem dX7_notCoded_23 : decode cX7_notCoded 23 = .ok (.iadd, 1) := by decide +kernel
theorem dX7_notCoded_24 : decode cX7_notCoded 24 = .ok (.iconst 0, 1) := by decide +kernel
theorem dX7_notCoded_25 : decode cX7_notCoded 25 = .ok (.iastore, 1) := by decide +kernel
theorem dX7_notCoded_26 : decode cX7_notCoded 26 = .ok (.iinc 1 1, 3) := by decide +kernel
theorem dX7_notCoded_29 : decode cX7_notCoded 29 = .ok (.goto (-20), 3) := by decide +kernel
theorem dX7_notCoded_32 : decode cX7_notCoded 32 = .ok (.return_, 1) := by decide +kernel
theorem dX7_wave_0 : decode cX7_wave 0 = .ok (.aload_n 0, 1) := by decide +kernel
theorem dX7_wave_1 : decode cX7_wave 1 = .ok (.iload_n 1, 1) := by decide +kernel
theorem dX7_wave_2 : decode cX7_wave 2 = .ok (.iconst 1, 1) := by decide +kernel
theorem dX7_wave_3 : decode cX7_wave 3 = .ok (.bipush 64, 2) := by decide +kernel
theorem dX7_wave_5 : decode cX7_wave 5 = .ok (.invokestatic 51, 3) := by decide +kernel
theorem dX7_wave_8 : decode cX7_wave 8 = .ok (.ifCond .eq 7, 3) := by decide +kernel
theorem dX7_wave_11 : decode cX7_wave 11 = .ok (.iconst 0, 1) := by decide +kernel
theorem dX7_wave_12 : decode cX7_wave 12 = .ok (.goto 4, 3) := by decide +kernel
theorem dX7_wave_15 : decode cX7_wave 15 = .ok (.iconst 1, 1) := by decide +kernel
theorem dX7_wave_16 : decode cX7_wave 16 = .ok (.invokevirtual 97, 3) := by decide +kernel
theorem dX7_wave_19 : decode cX7_wave 19 = .ok (.ifCond .ne 5, 3) := by decide +kernel
theorem dX7_wave_22 : decode cX7_wave 22 = .ok (.iconst 0, 1) := by decide +kernel
theorem dX7_wave_23 : decode cX7_wave 23 = .ok (.ireturn, 1) := by decide +kernel
theorem dX7_wave_24 : decode cX7_wave 24 = .ok (.aload_n 0, 1) := by decide +kernel
theorem dX7_wave_25 : decode cX7_wave 25 = .ok (.invokevirtual 100, 3) := by decide +kernel
theorem dX7_wave_28 : decode cX7_wave 28 = .ok (.aload_n 0, 1) := by decide +kernel
theorem dX7_wave_29 : decode cX7_wave 29 = .ok (.getfield 7, 3) := by decide +kernel
theorem dX7_wave_32 : decode cX7_wave 32 = .ok (.iconst 0, 1) := by decide +kernel
theorem dX7_wave_33 : decode cX7_wave 33 = .ok (.iaload, 1) := by decide +kernel
theorem dX7_wave_34 : decode cX7_wave 34 = .ok (.istore_n 2, 1) := by decide +kernel
theorem dX7_wave_35 : decode cX7_wave 35 = .ok (.aload_n 0, 1) := by decide +kernel
theorem dX7_wave_36 : decode cX7_wave 36 = .ok (.getfield 7, 3) := by decide +kernel
theorem dX7_wave_39 : decode cX7_wave 39 = .ok (.iconst 0, 1) := by decide +kernel
theorem dX7_wave_40 : decode cX7_wave 40 = .ok (.iload_n 1, 1) := by decide +kernel
theorem dX7_wave_41 : decode cX7_wave 41 = .ok (.iastore, 1) := by decide +kernel
theorem dX7_wave_42 : decode cX7_wave 42 = .ok (.iconst 0, 1) := by decide +kernel
theorem dX7_wave_43 : decode cX7_wave 43 = .ok (.istore_n 3, 1) := by decide +kernel
theorem dX7_wave_44 : decode cX7_wave 44 = .ok (.iload_n 3, 1) := by decide +kernel
theorem dX7_wave_45 : decode cX7_wave 45 = .ok (.bipush 64, 2) := by decide +kernel
theorem dX7_wave_47 : decode cX7_wave 47 = .ok (.if_icmp .ge 19, 3) := by decide +kernel
theorem dX7_wave_50 : decode cX7_wave 50 = .ok (.aload_n 0, 1) := by decide +kernel
theorem dX7_wave_51 : decode cX7_wave 51 = .ok (.getfield 7, 3) := by decide +kernel
theorem dX7_wave_54 : decode cX7_wave 54 = .ok (.bipush 7, 2) := by decide +kernel
theorem dX7_wave_56 : decode cX7_wave 56 = .ok (.iload_n 3, 1) := by decide +kernel
theorem dX7_wave_57 : decode cX7_wave 57 = .ok (.iadd, 1) := by decide +kernel
theorem dX7_wave_58 : decode cX7_wave 58 = .ok (.iconst 0, 1) := by decide +kernel
theorem dX7_wave_59 : decode cX7_wave 59 = .ok (.iastore, 1) := by decide +kernel
theorem dX7_wave_60 : decode cX7_wave 60 = .ok (.iinc 3 1, 3) := by decide +kernel
theorem dX7_wave_63 : decode cX7_wave 63 = .ok (.goto (-19), 3) := by decide +kernel
theorem dX7_wave_66 : decode cX7_wave 66 = .ok (.aload_n 0, 1) := by decide +kernel
theorem dX7_wave_67 : decode cX7_wave 67 = .ok (.invokevirtual 103, 3) := by decide +kernel
theorem dX7_wave_70 : decode cX7_wave 70 = .ok (.iload_n 2, 1) := by decide +kernel
theorem dX7_wave_71 : decode cX7_wave 71 = .ok (.ireturn, 1) := by decide +kernel
theorem dX7_sample_0 : decode cX7_sample 0 = .ok (.aload_n 0, 1) := by decide +kernel
theorem dX7_sample_1 : decode cX7_sample 1 = .ok (.aload_n 0, 1) := by decide +kernel
theorem dX7_sample_2 : decode cX7_sample 2 = .ok (.iload_n 1, 1) := by decide +kernel
theorem dX7_sample_3 : decode cX7_sample 3 = .ok (.invokevirtual 63, 3) := by decide +kernel
theorem dX7_sample_6 : decode cX7_sample 6 = .ok (.ifCond .ne 7, 3) := by decide +kernel
theorem dX7_sample_9 : decode cX7_sample 9 = .ok (.iconst 1, 1) := by decide +kernel
theorem dX7_sample_10 : decode cX7_sample 10 = .ok (.goto 21, 3) := by decide +kernel
theorem dX7_sample_13 : decode cX7_sample 13 = .ok (.iload_n 2, 1) := by decide +kernel
theorem dX7_sample_14 : decode cX7_sample 14 = .ok (.sipush (-2048), 3) := by decide +kernel
theorem dX7_sample_17 : decode cX7_sample 17 = .ok (.sipush 2047, 3) := by decide +kernel
theorem dX7_sample_20 : decode cX7_sample 20 = .ok (.invokestatic 51, 3) := by decide +kernel
theorem dX7_sample_23 : decode cX7_sample 23 = .ok (.ifCond .ne 7, 3) := by decide +kernel
theorem dX7_sample_26 : decode cX7_sample 26 = .ok (.iconst 2, 1) := by decide +kernel
theorem dX7_sample_27 : decode cX7_sample 27 = .ok (.goto 4, 3) := by decide +kernel
theorem dX7_sample_30 : decode cX7_sample 30 = .ok (.iconst 0, 1) := by decide +kernel
theorem dX7_sample_31 : decode cX7_sample 31 = .ok (.invokevirtual 97, 3) := by decide +kernel
theorem dX7_sample_34 : decode cX7_sample 34 = .ok (.ifCond .ne 5, 3) := by decide +kernel
theorem dX7_sample_37 : decode cX7_sample 37 = .ok (.iconst 0, 1) := by decide +kernel
theorem dX7_sample_38 : decode cX7_sample 38 = .ok (.ireturn, 1) := by decide +kernel
theorem dX7_sample_39 : decode cX7_sample 39 = .ok (.aload_n 0, 1) := by decide +kernel
theorem dX7_sample_40 : decode cX7_sample 40 = .ok (.invokevirtual 100, 3) := by decide +kernel
theorem dX7_sample_43 : decode cX7_sample 43 = .ok (.aload_n 0, 1) := by decide +kernel
theorem dX7_sample_44 : decode cX7_sample 44 = .ok (.getfield 7, 3) := by decide +kernel
theorem dX7_sample_47 : decode cX7_sample 47 = .ok (.bipush 7, 2) := by decide +kernel
theorem dX7_sample_49 : decode cX7_sample 49 = .ok (.iload_n 1, 1) := by decide +kernel
theorem dX7_sample_50 : decode cX7_sample 50 = .ok (.iadd, 1) := by decide +kernel
theorem dX7_sample_51 : decode cX7_sample 51 = .ok (.iaload, 1) := by decide +kernel
theorem dX7_sample_52 : decode cX7_sample 52 = .ok (.istore_n 3, 1) := by decide +kernel
theorem dX7_sample_53 : decode cX7_sample 53 = .ok (.aload_n 0, 1) := by decide +kernel
theorem dX7_sample_54 : decode cX7_sample 54 = .ok (.getfield 7, 3) := by decide +kernel
theorem dX7_sample_57 : decode cX7_sample 57 = .ok (.bipush 7, 2) := by decide +kernel
theorem dX7_sample_59 : decode cX7_sample 59 = .ok (.iload_n 1, 1) := by decide +kernel
theorem dX7_sample_60 : decode cX7_sample 60 = .ok (.iadd, 1) := by decide +kernel
theorem dX7_sample_61 : decode cX7_sample 61 = .ok (.iload_n 2, 1) := by decide +kernel
theorem dX7_sample_62 : decode cX7_sample 62 = .ok (.iastore, 1) := by decide +kernel
theorem dX7_sample_63 : decode cX7_sample 63 = .ok (.aload_n 0, 1) := by decide +kernel
theorem dX7_sample_64 : decode cX7_sample 64 = .ok (.invokevirtual 103, 3) := by decide +kernel
theorem dX7_sample_67 : decode cX7_sample 67 = .ok (.iload_n 3, 1) := by decide +kernel
theorem dX7_sample_68 : decode cX7_sample 68 = .ok (.sipush 10000, 3) := by decide +kernel
theorem dX7_sample_71 : decode cX7_sample 71 = .ok (.iadd, 1) := by decide +kernel
theorem dX7_sample_72 : decode cX7_sample 72 = .ok (.ireturn, 1) := by decide +kernel
theorem dX7_shape_0 : decode cX7_shape 0 = .ok (.iload_n 0, 1) := by decide +kernel
theorem dX7_shape_1 : decode cX7_shape 1 = .ok (.ifCond .ne 17, 3) := by decide +kernel
theorem dX7_shape_4 : decode cX7_shape 4 = .ok (.iconst 2, 1) := by decide +kernel
theorem dX7_shape_5 : decode cX7_shape 5 = .ok (.iload_n 3, 1) := by decide +kernel
theorem dX7_shape_6 : decode cX7_shape 6 = .ok (.imul, 1) := by decide +kernel
theorem dX7_shape_7 : decode cX7_shape 7 = .ok (.iload_n 2, 1) := by decide +kernel
theorem dX7_shape_8 : decode cX7_shape 8 = .ok (.if_icmp .ge 7, 3) := by decide +kernel
theorem dX7_shape_11 : decode cX7_shape 11 = .ok (.iload_n 1, 1) := by decide +kernel
theorem dX7_shape_12 : decode cX7_shape 12 = .ok (.goto 5, 3) := by decide +kernel
theorem dX7_shape_15 : decode cX7_shape 15 = .ok (.iload_n 1, 1) := by decide +kernel
theorem dX7_shape_16 : decode cX7_shape 16 = .ok (.ineg, 1) := by decide +kernel
theorem dX7_shape_17 : decode cX7_shape 17 = .ok (.ireturn, 1) := by decide +kernel
theorem dX7_shape_18 : decode cX7_shape 18 = .ok (.iload_n 2, 1) := by decide +kernel
theorem dX7_shape_19 : decode cX7_shape 19 = .ok (.iconst 2, 1) := by decide +kernel
theorem dX7_shape_20 : decode cX7_shape 20 = .ok (.idiv, 1) := by decide +kernel
theorem dX7_shape_21 : decode cX7_shape 21 = .ok (.istore 4, 2) := by decide +kernel
theorem dX7_shape_23 : decode cX7_shape 23 = .ok (.iload_n 3, 1) := by decide +kernel
theorem dX7_shape_24 : decode cX7_shape 24 = .ok (.iload 4, 2) := by decide +kernel
theorem dX7_shape_26 : decode cX7_shape 26 = .ok (.if_icmp .ge 10, 3) := by decide +kernel
theorem dX7_shape_29 : decode cX7_shape 29 = .ok (.iload 4, 2) := by decide +kernel
theorem dX7_shape_31 : decode cX7_shape 31 = .ok (.iload_n 3, 1) := by decide +kernel
theorem dX7_shape_32 : decode cX7_shape 32 = .ok (.isub, 1) := by decide +kernel
theorem dX7_shape_33 : decode cX7_shape 33 = .ok (.goto 7, 3) := by decide +kernel
theorem dX7_shape_36 : decode cX7_shape 36 = .ok (.iload_n 3, 1) := by decide +kernel
theorem dX7_shape_37 : decode cX7_shape 37 = .ok (.iload 4, 2) := by decide +kernel
theorem dX7_shape_39 : decode cX7_shape 39 = .ok (.isub, 1) := by decide +kernel
theorem dX7_shape_40 : decode cX7_shape 40 = .ok (.istore 5, 2) := by decide +kernel
theorem dX7_shape_42 : decode cX7_shape 42 = .ok (.iload_n 1, 1) := by decide +kernel
theorem dX7_shape_43 : decode cX7_shape 43 = .ok (.iload_n 0, 1) := by decide +kernel
theorem dX7_shape_44 : decode cX7_shape 44 = .ok (.iconst 1, 1) := by decide +kernel
theorem dX7_shape_45 : decode cX7_shape 45 = .ok (.if_icmp .ne 11, 3) := by decide +kernel
theorem dX7_shape_48 : decode cX7_shape 48 = .ok (.iconst 2, 1) := by decide +kernel
theorem dX7_shape_49 : decode cX7_shape 49 = .ok (.iload_n 3, 1) := by decide +kernel
theorem dX7_shape_50 : decode cX7_shape 50 = .ok (.imul, 1) := by decide +kernel
theorem dX7_shape_51 : decode cX7_shape 51 = .ok (.iload_n 2, 1) := by decide +kernel
theorem dX7_shape_52 : decode cX7_shape 52 = .ok (.isub, 1) := by decide +kernel
theorem dX7_shape_53 : decode cX7_shape 53 = .ok (.goto 9, 3) := by decide +kernel
theorem dX7_shape_56 : decode cX7_shape 56 = .ok (.iconst 4, 1) := by decide +kernel
theorem dX7_shape_57 : decode cX7_shape 57 = .ok (.iload 5, 2) := by decide +kernel
theorem dX7_shape_59 : decode cX7_shape 59 = .ok (.imul, 1) := by decide +kernel
theorem dX7_shape_60 : decode cX7_shape 60 = .ok (.iload_n 2, 1) := by decide +kernel
theorem dX7_shape_61 : decode cX7_shape 61 = .ok (.isub, 1) := by decide +kernel
theorem dX7_shape_62 : decode cX7_shape 62 = .ok (.imul, 1) := by decide +kernel
theorem dX7_shape_63 : decode cX7_shape 63 = .ok (.iload_n 2, 1) := by decide +kernel
theorem dX7_shape_64 : decode cX7_shape 64 = .ok (.idiv, 1) := by decide +kernel
theorem dX7_shape_65 : decode cX7_shape 65 = .ok (.ireturn, 1) := by decide +kernel
theorem dX7_add_0 : decode cX7_add 0 = .ok (.aload_n 0, 1) := by decide +kernel
theorem dX7_add_1 : decode cX7_add 1 = .ok (.iload_n 1, 1) := by decide +kernel
theorem dX7_add_2 : decode cX7_add 2 = .ok (.iconst 0, 1) := by decide +kernel
theorem dX7_add_3 : decode cX7_add 3 = .ok (.iconst 2, 1) := by decide +kernel
theorem dX7_add_4 : decode cX7_add 4 = .ok (.invokestatic 51, 3) := by decide +kernel
theorem dX7_add_7 : decode cX7_add 7 = .ok (.ifCond .eq 28, 3) := by decide +kernel
theorem dX7_add_10 : decode cX7_add 10 = .ok (.iload_n 2, 1) := by decide +kernel
theorem dX7_add_11 : decode cX7_add 11 = .ok (.iconst 0, 1) := by decide +kernel
theorem dX7_add_12 : decode cX7_add 12 = .ok (.sipush 2047, 3) := by decide +kernel
theorem dX7_add_15 : decode cX7_add 15 = .ok (.invokestatic 51, 3) := by decide +kernel
theorem dX7_add_18 : decode cX7_add 18 = .ok (.ifCond .eq 17, 3) := by decide +kernel
theorem dX7_add_21 : decode cX7_add 21 = .ok (.iload_n 3, 1) := by decide +kernel
theorem dX7_add_22 : decode cX7_add 22 = .ok (.iconst 1, 1) := by decide +kernel
theorem dX7_add_23 : decode cX7_add 23 = .ok (.bipush 64, 2) := by decide +kernel
theorem dX7_add_25 : decode cX7_add 25 = .ok (.invokestatic 51, 3) := by decide +kernel
theorem dX7_add_28 : decode cX7_add 28 = .ok (.ifCond .eq 7, 3) := by decide +kernel
theorem dX7_add_31 : decode cX7_add 31 = .ok (.iconst 0, 1) := by decide +kernel
theorem dX7_add_32 : decode cX7_add 32 = .ok (.goto 4, 3) := by decide +kernel
theorem dX7_add_35 : decode cX7_add 35 = .ok (.iconst 1, 1) := by decide +kernel
theorem dX7_add_36 : decode cX7_add 36 = .ok (.invokevirtual 97, 3) := by decide +kernel
theorem dX7_add_39 : decode cX7_add 39 = .ok (.ifCond .ne 5, 3) := by decide +kernel
theorem dX7_add_42 : decode cX7_add 42 = .ok (.iconst 0, 1) := by decide +kernel
theorem dX7_add_43 : decode cX7_add 43 = .ok (.ireturn, 1) := by decide +kernel
theorem dX7_add_44 : decode cX7_add 44 = .ok (.aload_n 0, 1) := by decide +kernel
theorem dX7_add_45 : decode cX7_add 45 = .ok (.invokevirtual 100, 3) := by decide +kernel
theorem dX7_add_48 : decode cX7_add 48 = .ok (.iconst 0, 1) := by decide +kernel
theorem dX7_add_49 : decode cX7_add 49 = .ok (.istore 4, 2) := by decide +kernel
theorem dX7_add_51 : decode cX7_add 51 = .ok (.iconst 0, 1) := by decide +kernel
theorem dX7_add_52 : decode cX7_add 52 = .ok (.istore 5, 2) := by decide +kernel
theorem dX7_add_54 : decode cX7_add 54 = .ok (.iload 5, 2) := by decide +kernel
theorem dX7_add_56 : decode cX7_add 56 = .ok (.aload_n 0, 1) := by decide +kernel
theorem dX7_add_57 : decode cX7_add 57 = .ok (.getfield 7, 3) := by decide +kernel
theorem dX7_add_60 : decode cX7_add 60 = .ok (.iconst 0, 1) := by decide +kernel
theorem dX7_add_61 : decode cX7_add 61 = .ok (.iaload, 1) := by decide +kernel
theorem dX7_add_62 : decode cX7_add 62 = .ok (.if_icmp .ge 67, 3) := by decide +kernel
theorem dX7_add_65 : decode cX7_add 65 = .ok (.aload_n 0, 1) := by decide +kernel
theorem dX7_add_66 : decode cX7_add 66 = .ok (.getfield 7, 3) := by decide +kernel
theorem dX7_add_69 : decode cX7_add 69 = .ok (.bipush 7, 2) := by decide +kernel
theorem dX7_add_71 : decode cX7_add 71 = .ok (.iload 5, 2) := by decide +kernel
theorem dX7_add_73 : decode cX7_add 73 = .ok (.iadd, 1) := by decide +kernel
theorem dX7_add_74 : decode cX7_add 74 = .ok (.iaload, 1) := by decide +kernel
theorem dX7_add_75 : decode cX7_add 75 = .ok (.iload_n 1, 1) := by decide +kernel
theorem dX7_add_76 : decode cX7_add 76 = .ok (.iload_n 2, 1) := by decide +kernel
theorem dX7_add_77 : decode cX7_add 77 = .ok (.iload_n 3, 1) := by decide +kernel
theorem dX7_add_78 : decode cX7_add 78 = .ok (.iload 5, 2) := by decide +kernel
theorem dX7_add_80 : decode cX7_add 80 = .ok (.iload_n 3, 1) := by decide +kernel
theorem dX7_add_81 : decode cX7_add 81 = .ok (.irem, 1) := by decide +kernel
theorem dX7_add_82 : decode cX7_add 82 = .ok (.invokestatic 106, 3) := by decide +kernel
theorem dX7_add_85 : decode cX7_add 85 = .ok (.iadd, 1) := by decide +kernel
theorem dX7_add_86 : decode cX7_add 86 = .ok (.istore 6, 2) := by decide +kernel
theorem dX7_add_88 : decode cX7_add 88 = .ok (.iload 4, 2) := by decide +kernel
theorem dX7_add_90 : decode cX7_add 90 = .ok (.iload 6, 2) := by decide +kernel
theorem dX7_add_92 : decode cX7_add 92 = .ok (.iload 6, 2) := by decide +kernel
theorem dX7_add_94 : decode cX7_add 94 = .ok (.invokestatic 67, 3) := by decide +kernel
theorem dX7_add_97 : decode cX7_add 97 = .ok (.if_icmp .ne 7, 3) := by decide +kernel
theorem dX7_add_100 : decode cX7_add 100 = .ok (.iconst 0, 1) := by decide +kernel
theorem dX7_add_101 : decode cX7_add 101 = .ok (.goto 4, 3) := by decide +kernel
theorem dX7_add_104 : decode cX7_add 104 = .ok (.iconst 1, 1) := by decide +kernel
theorem dX7_add_105 : decode cX7_add 105 = .ok (.iadd, 1) := by decide +kernel
theorem dX7_add_106 : decode cX7_add 106 = .ok (.istore 4, 2) := by decide +kernel
theorem dX7_add_108 : decode cX7_add 108 = .ok (.aload_n 0, 1) := by decide +kernel
theorem dX7_add_109 : decode cX7_add 109 = .ok (.getfield 7, 3) := by decide +kernel
theorem dX7_add_112 : decode cX7_add 112 = .ok (.bipush 7, 2) := by decide +kernel
theorem dX7_add_114 : decode cX7_add 114 = .ok (.iload 5, 2) := by decide +kernel
theorem dX7_add_116 : decode cX7_add 116 = .ok (.iadd, 1) := by decide +kernel
theorem dX7_add_117 : decode cX7_add 117 = .ok (.iload 6, 2) := by decide +kernel
theorem dX7_add_119 : decode cX7_add 119 = .ok (.invokestatic 67, 3) := by decide +kernel
theorem dX7_add_122 : decode cX7_add 122 = .ok (.iastore, 1) := by decide +kernel
theorem dX7_add_123 : decode cX7_add 123 = .ok (.iinc 5 1, 3) := by decide +kernel
theorem dX7_add_126 : decode cX7_add 126 = .ok (.goto (-72), 3) := by decide +kernel
theorem dX7_add_129 : decode cX7_add 129 = .ok (.aload_n 0, 1) := by decide +kernel
theorem dX7_add_130 : decode cX7_add 130 = .ok (.invokevirtual 103, 3) := by decide +kernel
theorem dX7_add_133 : decode cX7_add 133 = .ok (.iload 4, 2) := by decide +kernel
theorem dX7_add_135 : decode cX7_add 135 = .ok (.ireturn, 1) := by decide +kernel
theorem dX7_take_0 : decode cX7_take 0 = .ok (.aload_n 0, 1) := by decide +kernel
theorem dX7_take_1 : decode cX7_take 1 = .ok (.aload_n 0, 1) := by decide +kernel
theorem dX7_take_2 : decode cX7_take 2 = .ok (.invokevirtual 55, 3) := by decide +kernel
theorem dX7_take_5 : decode cX7_take 5 = .ok (.ifCond .eq 7, 3) := by decide +kernel
theorem dX7_take_8 : decode cX7_take 8 = .ok (.iconst 0, 1) := by decide +kernel
theorem dX7_take_9 : decode cX7_take 9 = .ok (.goto 4, 3) := by decide +kernel
theorem dX7_take_12 : decode cX7_take 12 = .ok (.iconst 1, 1) := by decide +kernel
theorem dX7_take_13 : decode cX7_take 13 = .ok (.invokevirtual 97, 3) := by decide +kernel
theorem dX7_take_16 : decode cX7_take 16 = .ok (.ifCond .ne 5, 3) := by decide +kernel
theorem dX7_take_19 : decode cX7_take 19 = .ok (.iconst 0, 1) := by decide +kernel
theorem dX7_take_20 : decode cX7_take 20 = .ok (.ireturn, 1) := by decide +kernel
theorem dX7_take_21 : decode cX7_take 21 = .ok (.aload_n 0, 1) := by decide +kernel
theorem dX7_take_22 : decode cX7_take 22 = .ok (.invokevirtual 100, 3) := by decide +kernel
theorem dX7_take_25 : decode cX7_take 25 = .ok (.aload_n 0, 1) := by decide +kernel
theorem dX7_take_26 : decode cX7_take 26 = .ok (.invokevirtual 94, 3) := by decide +kernel
theorem dX7_take_29 : decode cX7_take 29 = .ok (.iconst 0, 1) := by decide +kernel
theorem dX7_take_30 : decode cX7_take 30 = .ok (.istore_n 1, 1) := by decide +kernel
theorem dX7_take_31 : decode cX7_take 31 = .ok (.iconst 0, 1) := by decide +kernel
theorem dX7_take_32 : decode cX7_take 32 = .ok (.istore_n 2, 1) := by decide +kernel
theorem dX7_take_33 : decode cX7_take 33 = .ok (.iload_n 2, 1) := by decide +kernel
theorem dX7_take_34 : decode cX7_take 34 = .ok (.aload_n 0, 1) := by decide +kernel
theorem dX7_take_35 : decode cX7_take 35 = .ok (.getfield 7, 3) := by decide +kernel
theorem dX7_take_38 : decode cX7_take 38 = .ok (.iconst 0, 1) := by decide +kernel
theorem dX7_take_39 : decode cX7_take 39 = .ok (.iaload, 1) := by decide +kernel
theorem dX7_take_40 : decode cX7_take 40 = .ok (.if_icmp .ge 50, 3) := by decide +kernel
theorem dX7_take_43 : decode cX7_take 43 = .ok (.iload_n 1, 1) := by decide +kernel
theorem dX7_take_44 : decode cX7_take 44 = .ok (.aload_n 0, 1) := by decide +kernel
theorem dX7_take_45 : decode cX7_take 45 = .ok (.getfield 7, 3) := by decide +kernel
theorem dX7_take_48 : decode cX7_take 48 = .ok (.bipush 7, 2) := by decide +kernel
theorem dX7_take_50 : decode cX7_take 50 = .ok (.iload_n 2, 1) := by decide +kernel
theorem dX7_take_51 : decode cX7_take 51 = .ok (.iadd, 1) := by decide +kernel
theorem dX7_take_52 : decode cX7_take 52 = .ok (.iaload, 1) := by decide +kernel
theorem dX7_take_53 : decode cX7_take 53 = .ok (.aload_n 0, 1) := by decide +kernel
theorem dX7_take_54 : decode cX7_take 54 = .ok (.getfield 29, 3) := by decide +kernel
theorem dX7_take_57 : decode cX7_take 57 = .ok (.iload_n 2, 1) := by decide +kernel
theorem dX7_take_58 : decode cX7_take 58 = .ok (.iaload, 1) := by decide +kernel
theorem dX7_take_59 : decode cX7_take 59 = .ok (.if_icmp .ne 7, 3) := by decide +kernel
theorem dX7_take_62 : decode cX7_take 62 = .ok (.iconst 0, 1) := by decide +kernel
theorem dX7_take_63 : decode cX7_take 63 = .ok (.goto 4, 3) := by decide +kernel
theorem dX7_take_66 : decode cX7_take 66 = .ok (.iconst 1, 1) := by decide +kernel
theorem dX7_take_67 : decode cX7_take 67 = .ok (.iadd, 1) := by decide +kernel
theorem dX7_take_68 : decode cX7_take 68 = .ok (.istore_n 1, 1) := by decide +kernel
theorem dX7_take_69 : decode cX7_take 69 = .ok (.aload_n 0, 1) := by decide +kernel
theorem dX7_take_70 : decode cX7_take 70 = .ok (.getfield 7, 3) := by decide +kernel
theorem dX7_take_73 : decode cX7_take 73 = .ok (.bipush 7, 2) := by decide +kernel
theorem dX7_take_75 : decode cX7_take 75 = .ok (.iload_n 2, 1) := by decide +kernel
theorem dX7_take_76 : decode cX7_take 76 = .ok (.iadd, 1) := by decide +kernel
theorem dX7_take_77 : decode cX7_take 77 = .ok (.aload_n 0, 1) := by decide +kernel
theorem dX7_take_78 : decode cX7_take 78 = .ok (.getfield 29, 3) := by decide +kernel
theorem dX7_take_81 : decode cX7_take 81 = .ok (.iload_n 2, 1) := by decide +kernel
theorem dX7_take_82 : decode cX7_take 82 = .ok (.iaload, 1) := by decide +kernel
theorem dX7_take_83 : decode cX7_take 83 = .ok (.iastore, 1) := by decide +kernel
theorem dX7_take_84 : decode cX7_take 84 = .ok (.iinc 2 1, 3) := by decide +kernel
theorem dX7_take_87 : decode cX7_take 87 = .ok (.goto (-54), 3) := by decide +kernel
theorem dX7_take_90 : decode cX7_take 90 = .ok (.aload_n 0, 1) := by decide +kernel
theorem dX7_take_91 : decode cX7_take 91 = .ok (.invokevirtual 103, 3) := by decide +kernel
theorem dX7_take_94 : decode cX7_take 94 = .ok (.iload_n 1, 1) := by decide +kernel
theorem dX7_take_95 : decode cX7_take 95 = .ok (.ireturn, 1) := by decide +kernel
theorem dX7_set_0 : decode cX7_set 0 = .ok (.iload_n 2, 1) := by decide +kernel
theorem dX7_set_1 : decode cX7_set 1 = .ok (.iload_n 1, 1) := by decide +kernel
theorem dX7_set_2 : decode cX7_set 2 = .ok (.ifCond .ne 7, 3) := by decide +kernel
theorem dX7_set_5 : decode cX7_set 5 = .ok (.iconst 2, 1) := by decide +kernel
theorem dX7_set_6 : decode cX7_set 6 = .ok (.goto 4, 3) := by decide +kernel
theorem dX7_set_9 : decode cX7_set 9 = .ok (.iconst 0, 1) := by decide +kernel
theorem dX7_set_10 : decode cX7_set 10 = .ok (.iload_n 1, 1) := by decide +kernel
theorem dX7_set_11 : decode cX7_set 11 = .ok (.ifCond .ne 8, 3) := by decide +kernel
theorem dX7_set_14 : decode cX7_set 14 = .ok (.bipush 16, 2) := by decide +kernel
theorem dX7_set_16 : decode cX7_set 16 = .ok (.goto 4, 3) := by decide +kernel
theorem dX7_set_19 : decode cX7_set 19 = .ok (.iload_n 1, 1) := by decide +kernel
theorem dX7_set_20 : decode cX7_set 20 = .ok (.invokestatic 51, 3) := by decide +kernel
theorem dX7_set_23 : decode cX7_set 23 = .ok (.istore_n 3, 1) := by decide +kernel
theorem dX7_set_24 : decode cX7_set 24 = .ok (.aload_n 0, 1) := by decide +kernel
theorem dX7_set_25 : decode cX7_set 25 = .ok (.iload_n 1, 1) := by decide +kernel
theorem dX7_set_26 : decode cX7_set 26 = .ok (.iconst 0, 1) := by decide +kernel
theorem dX7_set_27 : decode cX7_set 27 = .ok (.iconst 2, 1) := by decide +kernel
theorem dX7_set_28 : decode cX7_set 28 = .ok (.invokestatic 51, 3) := by decide +kernel
theorem dX7_set_31 : decode cX7_set 31 = .ok (.ifCond .ne 7, 3) := by decide +kernel
theorem dX7_set_34 : decode cX7_set 34 = .ok (.iconst 1, 1) := by decide +kernel
theorem dX7_set_35 : decode cX7_set 35 = .ok (.goto 12, 3) := by decide +kernel
theorem dX7_set_38 : decode cX7_set 38 = .ok (.iload_n 3, 1) := by decide +kernel
theorem dX7_set_39 : decode cX7_set 39 = .ok (.ifCond .ne 7, 3) := by decide +kernel
theorem dX7_set_42 : decode cX7_set 42 = .ok (.iconst 2, 1) := by decide +kernel
theorem dX7_set_43 : decode cX7_set 43 = .ok (.goto 4, 3) := by decide +kernel
theorem dX7_set_46 : decode cX7_set 46 = .ok (.iconst 0, 1) := by decide +kernel
theorem dX7_set_47 : decode cX7_set 47 = .ok (.invokevirtual 97, 3) := by decide +kernel
theorem dX7_set_50 : decode cX7_set 50 = .ok (.ifCond .ne 5, 3) := by decide +kernel
theorem dX7_set_53 : decode cX7_set 53 = .ok (.iconst 0, 1) := by decide +kernel
theorem dX7_set_54 : decode cX7_set 54 = .ok (.ireturn, 1) := by decide +kernel
theorem dX7_set_55 : decode cX7_set 55 = .ok (.aload_n 0, 1) := by decide +kernel
theorem dX7_set_56 : decode cX7_set 56 = .ok (.invokevirtual 100, 3) := by decide +kernel
theorem dX7_set_59 : decode cX7_set 59 = .ok (.aload_n 0, 1) := by decide +kernel
theorem dX7_set_60 : decode cX7_set 60 = .ok (.getfield 7, 3) := by decide +kernel
theorem dX7_set_63 : decode cX7_set 63 = .ok (.iconst 2, 1) := by decide +kernel
theorem dX7_set_64 : decode cX7_set 64 = .ok (.iload_n 1, 1) := by decide +kernel
theorem dX7_set_65 : decode cX7_set 65 = .ok (.iadd, 1) := by decide +kernel
theorem dX7_set_66 : decode cX7_set 66 = .ok (.iaload, 1) := by decide +kernel
theorem dX7_set_67 : decode cX7_set 67 = .ok (.istore 4, 2) := by decide +kernel
theorem dX7_set_69 : decode cX7_set 69 = .ok (.aload_n 0, 1) := by decide +kernel
theorem dX7_set_70 : decode cX7_set 70 = .ok (.getfield 7, 3) := by decide +kernel
theorem dX7_set_73 : decode cX7_set 73 = .ok (.iconst 2, 1) := by decide +kernel
theorem dX7_set_74 : decode cX7_set 74 = .ok (.iload_n 1, 1) := by decide +kernel
theorem dX7_set_75 : decode cX7_set 75 = .ok (.iadd, 1) := by decide +kernel
theorem dX7_set_76 : decode cX7_set 76 = .ok (.iload_n 2, 1) := by decide +kernel
theorem dX7_set_77 : decode cX7_set 77 = .ok (.iastore, 1) := by decide +kernel
theorem dX7_set_78 : decode cX7_set 78 = .ok (.iload_n 1, 1) := by decide +kernel
theorem dX7_set_79 : decode cX7_set 79 = .ok (.iconst 2, 1) := by decide +kernel
theorem dX7_set_80 : decode cX7_set 80 = .ok (.if_icmp .ge 7, 3) := by decide +kernel
theorem dX7_set_83 : decode cX7_set 83 = .ok (.aload_n 0, 1) := by decide +kernel
theorem dX7_set_84 : decode cX7_set 84 = .ok (.invokevirtual 103, 3) := by decide +kernel
theorem dX7_set_87 : decode cX7_set 87 = .ok (.iload 4, 2) := by decide +kernel
theorem dX7_set_89 : decode cX7_set 89 = .ok (.ireturn, 1) := by decide +kernel
theorem dX7_code_0 : decode cX7_code 0 = .ok (.aload_n 0, 1) := by decide +kernel
theorem dX7_code_1 : decode cX7_code 1 = .ok (.iconst 0, 1) := by decide +kernel
theorem dX7_code_2 : decode cX7_code 2 = .ok (.putfield 44, 3) := by decide +kernel
theorem dX7_code_5 : decode cX7_code 5 = .ok (.aload_n 0, 1) := by decide +kernel
theorem dX7_code_6 : decode cX7_code 6 = .ok (.invokevirtual 100, 3) := by decide +kernel
theorem dX7_code_9 : decode cX7_code 9 = .ok (.aload_n 0, 1) := by decide +kernel
theorem dX7_code_10 : decode cX7_code 10 = .ok (.getfield 7, 3) := by decide +kernel
theorem dX7_code_13 : decode cX7_code 13 = .ok (.iconst 1, 1) := by decide +kernel
theorem dX7_code_14 : decode cX7_code 14 = .ok (.iconst 1, 1) := by decide +kernel
theorem dX7_code_15 : decode cX7_code 15 = .ok (.iastore, 1) := by decide +kernel
theorem dX7_code_16 : decode cX7_code 16 = .ok (.aload_n 0, 1) := by decide +kernel
theorem dX7_code_17 : decode cX7_code 17 = .ok (.getfield 7, 3) := by decide +kernel
theorem dX7_code_20 : decode cX7_code 20 = .ok (.iconst 5, 1) := by decide +kernel
theorem dX7_code_21 : decode cX7_code 21 = .ok (.dup2, 1) := by decide +kernel
theorem dX7_code_22 : decode cX7_code 22 = .ok (.iaload, 1) := by decide +kernel
theorem dX7_code_23 : decode cX7_code 23 = .ok (.iconst 1, 1) := by decide +kernel
theorem dX7_code_24 : decode cX7_code 24 = .ok (.iadd, 1) := by decide +kernel
theorem dX7_code_25 : decode cX7_code 25 = .ok (.iastore, 1) := by decide +kernel
theorem dX7_code_26 : decode cX7_code 26 = .ok (.iconst 0, 1) := by decide +kernel
theorem dX7_code_27 : decode cX7_code 27 = .ok (.istore_n 1, 1) := by decide +kernel
theorem dX7_code_28 : decode cX7_code 28 = .ok (.iconst 0, 1) := by decide +kernel
theorem dX7_code_29 : decode cX7_code 29 = .ok (.istore_n 2, 1) := by decide +kernel
theorem dX7_code_30 : decode cX7_code 30 = .ok (.iload_n 2, 1) := by decide +kernel
theorem dX7_code_31 : decode cX7_code 31 = .ok (.aload_n 0, 1) := by decide +kernel
theorem dX7_code_32 : decode cX7_code 32 = .ok (.invokevirtual 59, 3) := by decide +kernel
theorem dX7_code_35 : decode cX7_code 35 = .ok (.if_icmp .ge 50, 3) := by decide +kernel
theorem dX7_code_38 : decode cX7_code 38 = .ok (.iload_n 2, 1) := by decide +kernel
theorem dX7_code_39 : decode cX7_code 39 = .ok (.aload_n 0, 1) := by decide +kernel
theorem dX7_code_40 : decode cX7_code 40 = .ok (.getfield 7, 3) := by decide +kernel
theorem dX7_code_43 : decode cX7_code 43 = .ok (.iconst 2, 1) := by decide +kernel
theorem dX7_code_44 : decode cX7_code 44 = .ok (.iaload, 1) := by decide +kernel
theorem dX7_code_45 : decode cX7_code 45 = .ok (.imul, 1) := by decide +kernel
theorem dX7_code_46 : decode cX7_code 46 = .ok (.istore_n 3, 1) := by decide +kernel
theorem dX7_code_47 : decode cX7_code 47 = .ok (.aload_n 0, 1) := by decide +kernel
theorem dX7_code_48 : decode cX7_code 48 = .ok (.iload_n 2, 1) := by decide +kernel
theorem dX7_code_49 : decode cX7_code 49 = .ok (.aload_n 0, 1) := by decide +kernel
theorem dX7_code_50 : decode cX7_code 50 = .ok (.getfield 7, 3) := by decide +kernel
theorem dX7_code_53 : decode cX7_code 53 = .ok (.iconst 3, 1) := by decide +kernel
theorem dX7_code_54 : decode cX7_code 54 = .ok (.iaload, 1) := by decide +kernel
theorem dX7_code_55 : decode cX7_code 55 = .ok (.iconst 1, 1) := by decide +kernel
theorem dX7_code_56 : decode cX7_code 56 = .ok (.if_icmp .ne 18, 3) := by decide +kernel
theorem dX7_code_59 : decode cX7_code 59 = .ok (.aload_n 0, 1) := by decide +kernel
theorem dX7_code_60 : decode cX7_code 60 = .ok (.iload_n 3, 1) := by decide +kernel
theorem dX7_code_61 : decode cX7_code 61 = .ok (.aload_n 0, 1) := by decide +kernel
theorem dX7_code_62 : decode cX7_code 62 = .ok (.iload_n 2, 1) := by decide +kernel
theorem dX7_code_63 : decode cX7_code 63 = .ok (.invokevirtual 88, 3) := by decide +kernel
theorem dX7_code_66 : decode cX7_code 66 = .ok (.iload_n 3, 1) := by decide +kernel
theorem dX7_code_67 : decode cX7_code 67 = .ok (.isub, 1) := by decide +kernel
theorem dX7_code_68 : decode cX7_code 68 = .ok (.invokevirtual 110, 3) := by decide +kernel
theorem dX7_code_71 : decode cX7_code 71 = .ok (.goto 4, 3) := by decide +kernel
theorem dX7_code_74 : decode cX7_code 74 = .ok (.iload_n 1, 1) := by decide +kernel
theorem dX7_code_75 : decode cX7_code 75 = .ok (.invokevirtual 113, 3) := by decide +kernel
theorem dX7_code_78 : decode cX7_code 78 = .ok (.istore_n 1, 1) := by decide +kernel
theorem dX7_code_79 : decode cX7_code 79 = .ok (.iinc 2 1, 3) := by decide +kernel
theorem dX7_code_82 : decode cX7_code 82 = .ok (.goto (-52), 3) := by decide +kernel
theorem dX7_code_85 : decode cX7_code 85 = .ok (.aload_n 0, 1) := by decide +kernel
theorem dX7_code_86 : decode cX7_code 86 = .ok (.invokevirtual 59, 3) := by decide +kernel
theorem dX7_code_89 : decode cX7_code 89 = .ok (.ireturn, 1) := by decide +kernel
theorem dX7_lost_0 : decode cX7_lost 0 = .ok (.iconst 0, 1) := by decide +kernel
theorem dX7_lost_1 : decode cX7_lost 1 = .ok (.istore_n 1, 1) := by decide +kernel
theorem dX7_lost_2 : decode cX7_lost 2 = .ok (.iconst 0, 1) := by decide +kernel
theorem dX7_lost_3 : decode cX7_lost 3 = .ok (.istore_n 2, 1) := by decide +kernel
theorem dX7_lost_4 : decode cX7_lost 4 = .ok (.iload_n 2, 1) := by decide +kernel
theorem dX7_lost_5 : decode cX7_lost 5 = .ok (.aload_n 0, 1) := by decide +kernel
theorem dX7_lost_6 : decode cX7_lost 6 = .ok (.invokevirtual 59, 3) := by decide +kernel
theorem dX7_lost_9 : decode cX7_lost 9 = .ok (.if_icmp .ge 22, 3) := by decide +kernel
theorem dX7_lost_12 : decode cX7_lost 12 = .ok (.iload_n 1, 1) := by decide +kernel
theorem dX7_lost_13 : decode cX7_lost 13 = .ok (.aload_n 0, 1) := by decide +kernel
theorem dX7_lost_14 : decode cX7_lost 14 = .ok (.getfield 7, 3) := by decide +kernel
theorem dX7_lost_17 : decode cX7_lost 17 = .ok (.sipush 263, 3) := by decide +kernel
theorem dX7_lost_20 : decode cX7_lost 20 = .ok (.iload_n 2, 1) := by decide +kernel
theorem dX7_lost_21 : decode cX7_lost 21 = .ok (.iadd, 1) := by decide +kernel
theorem dX7_lost_22 : decode cX7_lost 22 = .ok (.iaload, 1) := by decide +kernel
theorem dX7_lost_23 : decode cX7_lost 23 = .ok (.iadd, 1) := by decide +kernel
theorem dX7_lost_24 : decode cX7_lost 24 = .ok (.istore_n 1, 1) := by decide +kernel
theorem dX7_lost_25 : decode cX7_lost 25 = .ok (.iinc 2 1, 3) := by decide +kernel
theorem dX7_lost_28 : decode cX7_lost 28 = .ok (.goto (-24), 3) := by decide +kernel
theorem dX7_lost_31 : decode cX7_lost 31 = .ok (.iload_n 1, 1) := by decide +kernel
theorem dX7_lost_32 : decode cX7_lost 32 = .ok (.ireturn, 1) := by decide +kernel
theorem dX7_lose_0 : decode cX7_lose 0 = .ok (.aload_n 0, 1) := by decide +kernel
theorem dX7_lose_1 : decode cX7_lose 1 = .ok (.aload_n 0, 1) := by decide +kernel
theorem dX7_lose_2 : decode cX7_lose 2 = .ok (.iload_n 1, 1) := by decide +kernel
theorem dX7_lose_3 : decode cX7_lose 3 = .ok (.invokevirtual 116, 3) := by decide +kernel
theorem dX7_lose_6 : decode cX7_lose 6 = .ok (.ifCond .eq 7, 3) := by decide +kernel
theorem dX7_lose_9 : decode cX7_lose 9 = .ok (.iconst 0, 1) := by decide +kernel
theorem dX7_lose_10 : decode cX7_lose 10 = .ok (.goto 4, 3) := by decide +kernel
theorem dX7_lose_13 : decode cX7_lose 13 = .ok (.iconst 1, 1) := by decide +kernel
theorem dX7_lose_14 : decode cX7_lose 14 = .ok (.invokevirtual 97, 3) := by decide +kernel
theorem dX7_lose_17 : decode cX7_lose 17 = .ok (.ifCond .ne 5, 3) := by decide +kernel
theorem dX7_lose_20 : decode cX7_lose 20 = .ok (.iconst 0, 1) := by decide +kernel
theorem dX7_lose_21 : decode cX7_lose 21 = .ok (.ireturn, 1) := by decide +kernel
theorem dX7_lose_22 : decode cX7_lose 22 = .ok (.aload_n 0, 1) := by decide +kernel
theorem dX7_lose_23 : decode cX7_lose 23 = .ok (.invokevirtual 100, 3) := by decide +kernel
theorem dX7_lose_26 : decode cX7_lose 26 = .ok (.aload_n 0, 1) := by decide +kernel
theorem dX7_lose_27 : decode cX7_lose 27 = .ok (.getfield 7, 3) := by decide +kernel
theorem dX7_lose_30 : decode cX7_lose 30 = .ok (.sipush 263, 3) := by decide +kernel
theorem dX7_lose_33 : decode cX7_lose 33 = .ok (.iload_n 1, 1) := by decide +kernel
theorem dX7_lose_34 : decode cX7_lose 34 = .ok (.iadd, 1) := by decide +kernel
theorem dX7_lose_35 : decode cX7_lose 35 = .ok (.iconst 1, 1) := by decide +kernel
theorem dX7_lose_36 : decode cX7_lose 36 = .ok (.aload_n 0, 1) := by decide +kernel
theorem dX7_lose_37 : decode cX7_lose 37 = .ok (.getfield 7, 3) := by decide +kernel
theorem dX7_lose_40 : decode cX7_lose 40 = .ok (.sipush 263, 3) := by decide +kernel
theorem dX7_lose_43 : decode cX7_lose 43 = .ok (.iload_n 1, 1) := by decide +kernel
theorem dX7_lose_44 : decode cX7_lose 44 = .ok (.iadd, 1) := by decide +kernel
theorem dX7_lose_45 : decode cX7_lose 45 = .ok (.iaload, 1) := by decide +kernel
theorem dX7_lose_46 : decode cX7_lose 46 = .ok (.isub, 1) := by decide +kernel
theorem dX7_lose_47 : decode cX7_lose 47 = .ok (.iastore, 1) := by decide +kernel
theorem dX7_lose_48 : decode cX7_lose 48 = .ok (.aload_n 0, 1) := by decide +kernel
theorem dX7_lose_49 : decode cX7_lose 49 = .ok (.invokevirtual 119, 3) := by decide +kernel
theorem dX7_lose_52 : decode cX7_lose 52 = .ok (.ireturn, 1) := by decide +kernel
theorem dX7_spoil_0 : decode cX7_spoil 0 = .ok (.aload_n 0, 1) := by decide +kernel
theorem dX7_spoil_1 : decode cX7_spoil 1 = .ok (.aload_n 0, 1) := by decide +kernel
theorem dX7_spoil_2 : decode cX7_spoil 2 = .ok (.iload_n 1, 1) := by decide +kernel
theorem dX7_spoil_3 : decode cX7_spoil 3 = .ok (.invokevirtual 122, 3) := by decide +kernel
theorem dX7_spoil_6 : decode cX7_spoil 6 = .ok (.ifCond .ne 7, 3) := by decide +kernel
theorem dX7_spoil_9 : decode cX7_spoil 9 = .ok (.iconst 1, 1) := by decide +kernel
theorem dX7_spoil_10 : decode cX7_spoil 10 = .ok (.goto 17, 3) := by decide +kernel
theorem dX7_spoil_13 : decode cX7_spoil 13 = .ok (.iload_n 2, 1) := by decide +kernel
theorem dX7_spoil_14 : decode cX7_spoil 14 = .ok (.iconst 0, 1) := by decide +kernel
theorem dX7_spoil_15 : decode cX7_spoil 15 = .ok (.iconst 3, 1) := by decide +kernel
theorem dX7_spoil_16 : decode cX7_spoil 16 = .ok (.invokestatic 51, 3) := by decide +kernel
theorem dX7_spoil_19 : decode cX7_spoil 19 = .ok (.ifCond .ne 7, 3) := by decide +kernel
theorem dX7_spoil_22 : decode cX7_spoil 22 = .ok (.iconst 2, 1) := by decide +kernel
theorem dX7_spoil_23 : decode cX7_spoil 23 = .ok (.goto 4, 3) := by decide +kernel
theorem dX7_spoil_26 : decode cX7_spoil 26 = .ok (.iconst 0, 1) := by decide +kernel
theorem dX7_spoil_27 : decode cX7_spoil 27 = .ok (.invokevirtual 97, 3) := by decide +kernel
theorem dX7_spoil_30 : decode cX7_spoil 30 = .ok (.ifCond .ne 5, 3) := by decide +kernel
theorem dX7_spoil_33 : decode cX7_spoil 33 = .ok (.iconst 0, 1) := by decide +kernel
theorem dX7_spoil_34 : decode cX7_spoil 34 = .ok (.ireturn, 1) := by decide +kernel
theorem dX7_spoil_35 : decode cX7_spoil 35 = .ok (.aload_n 0, 1) := by decide +kernel
theorem dX7_spoil_36 : decode cX7_spoil 36 = .ok (.invokevirtual 100, 3) := by decide +kernel
theorem dX7_spoil_39 : decode cX7_spoil 39 = .ok (.aload_n 0, 1) := by decide +kernel
theorem dX7_spoil_40 : decode cX7_spoil 40 = .ok (.getfield 7, 3) := by decide +kernel
theorem dX7_spoil_43 : decode cX7_spoil 43 = .ok (.bipush 71, 2) := by decide +kernel
theorem dX7_spoil_45 : decode cX7_spoil 45 = .ok (.iload_n 1, 1) := by decide +kernel
theorem dX7_spoil_46 : decode cX7_spoil 46 = .ok (.iadd, 1) := by decide +kernel
theorem dX7_spoil_47 : decode cX7_spoil 47 = .ok (.dup2, 1) := by decide +kernel
theorem dX7_spoil_48 : decode cX7_spoil 48 = .ok (.iaload, 1) := by decide +kernel
theorem dX7_spoil_49 : decode cX7_spoil 49 = .ok (.iconst 1, 1) := by decide +kernel
theorem dX7_spoil_50 : decode cX7_spoil 50 = .ok (.iload_n 2, 1) := by decide +kernel
theorem dX7_spoil_51 : decode cX7_spoil 51 = .ok (.ishl, 1) := by decide +kernel
theorem dX7_spoil_52 : decode cX7_spoil 52 = .ok (.ixor, 1) := by decide +kernel
theorem dX7_spoil_53 : decode cX7_spoil 53 = .ok (.iastore, 1) := by decide +kernel
theorem dX7_spoil_54 : decode cX7_spoil 54 = .ok (.aload_n 0, 1) := by decide +kernel
theorem dX7_spoil_55 : decode cX7_spoil 55 = .ok (.getfield 7, 3) := by decide +kernel
theorem dX7_spoil_58 : decode cX7_spoil 58 = .ok (.bipush 6, 2) := by decide +kernel
theorem dX7_spoil_60 : decode cX7_spoil 60 = .ok (.dup2, 1) := by decide +kernel
theorem dX7_spoil_61 : decode cX7_spoil 61 = .ok (.iaload, 1) := by decide +kernel
theorem dX7_spoil_62 : decode cX7_spoil 62 = .ok (.iconst 1, 1) := by decide +kernel
theorem dX7_spoil_63 : decode cX7_spoil 63 = .ok (.iadd, 1) := by decide +kernel
theorem dX7_spoil_64 : decode cX7_spoil 64 = .ok (.iastore, 1) := by decide +kernel
theorem dX7_spoil_65 : decode cX7_spoil 65 = .ok (.aload_n 0, 1) := by decide +kernel
theorem dX7_spoil_66 : decode cX7_spoil 66 = .ok (.getfield 7, 3) := by decide +kernel
theorem dX7_spoil_69 : decode cX7_spoil 69 = .ok (.bipush 71, 2) := by decide +kernel
theorem dX7_spoil_71 : decode cX7_spoil 71 = .ok (.iload_n 1, 1) := by decide +kernel
theorem dX7_spoil_72 : decode cX7_spoil 72 = .ok (.iadd, 1) := by decide +kernel
theorem dX7_spoil_73 : decode cX7_spoil 73 = .ok (.iaload, 1) := by decide +kernel
theorem dX7_spoil_74 : decode cX7_spoil 74 = .ok (.ireturn, 1) := by decide +kernel
theorem dX7_append_0 : decode cX7_append 0 = .ok (.aload_n 0, 1) := by decide +kernel
theorem dX7_append_1 : decode cX7_append 1 = .ok (.iload_n 1, 1) := by decide +kernel
theorem dX7_append_2 : decode cX7_append 2 = .ok (.bipush 33, 2) := by decide +kernel
theorem dX7_append_4 : decode cX7_append 4 = .ok (.bipush 126, 2) := by decide +kernel
theorem dX7_append_6 : decode cX7_append 6 = .ok (.invokestatic 51, 3) := by decide +kernel
theorem dX7_append_9 : decode cX7_append 9 = .ok (.ifCond .ne 7, 3) := by decide +kernel
theorem dX7_append_12 : decode cX7_append 12 = .ok (.iconst 1, 1) := by decide +kernel
theorem dX7_append_13 : decode cX7_append 13 = .ok (.goto 17, 3) := by decide +kernel
theorem dX7_append_16 : decode cX7_append 16 = .ok (.aload_n 0, 1) := by decide +kernel
theorem dX7_append_17 : decode cX7_append 17 = .ok (.getfield 125, 3) := by decide +kernel
theorem dX7_append_20 : decode cX7_append 20 = .ok (.bipush 40, 2) := by decide +kernel
theorem dX7_append_22 : decode cX7_append 22 = .ok (.if_icmp .ne 7, 3) := by decide +kernel
theorem dX7_append_25 : decode cX7_append 25 = .ok (.iconst 2, 1) := by decide +kernel
theorem dX7_append_26 : decode cX7_append 26 = .ok (.goto 4, 3) := by decide +kernel
theorem dX7_append_29 : decode cX7_append 29 = .ok (.iconst 0, 1) := by decide +kernel
theorem dX7_append_30 : decode cX7_append 30 = .ok (.invokevirtual 97, 3) := by decide +kernel
theorem dX7_append_33 : decode cX7_append 33 = .ok (.ifCond .ne 5, 3) := by decide +kernel
theorem dX7_append_36 : decode cX7_append 36 = .ok (.iconst 0, 1) := by decide +kernel
theorem dX7_append_37 : decode cX7_append 37 = .ok (.ireturn, 1) := by decide +kernel
theorem dX7_append_38 : decode cX7_append 38 = .ok (.aload_n 0, 1) := by decide +kernel
theorem dX7_append_39 : decode cX7_append 39 = .ok (.getfield 23, 3) := by decide +kernel
theorem dX7_append_42 : decode cX7_append 42 = .ok (.aload_n 0, 1) := by decide +kernel
theorem dX7_append_43 : decode cX7_append 43 = .ok (.getfield 125, 3) := by decide +kernel
theorem dX7_append_46 : decode cX7_append 46 = .ok (.iload_n 1, 1) := by decide +kernel
theorem dX7_append_47 : decode cX7_append 47 = .ok (.iastore, 1) := by decide +kernel
theorem dX7_append_48 : decode cX7_append 48 = .ok (.aload_n 0, 1) := by decide +kernel
theorem dX7_append_49 : decode cX7_append 49 = .ok (.dup, 1) := by decide +kernel
theorem dX7_append_50 : decode cX7_append 50 = .ok (.getfield 125, 3) := by decide +kernel
theorem dX7_append_53 : decode cX7_append 53 = .ok (.iconst 1, 1) := by decide +kernel
theorem dX7_append_54 : decode cX7_append 54 = .ok (.iadd, 1) := by decide +kernel
theorem dX7_append_55 : decode cX7_append 55 = .ok (.putfield 125, 3) := by decide +kernel
theorem dX7_append_58 : decode cX7_append 58 = .ok (.aload_n 0, 1) := by decide +kernel
theorem dX7_append_59 : decode cX7_append 59 = .ok (.getfield 125, 3) := by decide +kernel
theorem dX7_append_62 : decode cX7_append 62 = .ok (.ireturn, 1) := by decide +kernel
theorem dX7_clearBuffer_0 : decode cX7_clearBuffer 0 = .ok (.aload_n 0, 1) := by decide +kernel
theorem dX7_clearBuffer_1 : decode cX7_clearBuffer 1 = .ok (.iconst 0, 1) := by decide +kernel
theorem dX7_clearBuffer_2 : decode cX7_clearBuffer 2 = .ok (.putfield 44, 3) := by decide +kernel
theorem dX7_clearBuffer_5 : decode cX7_clearBuffer 5 = .ok (.aload_n 0, 1) := by decide +kernel
theorem dX7_clearBuffer_6 : decode cX7_clearBuffer 6 = .ok (.getfield 125, 3) := by decide +kernel
theorem dX7_clearBuffer_9 : decode cX7_clearBuffer 9 = .ok (.istore_n 1, 1) := by decide +kernel
theorem dX7_clearBuffer_10 : decode cX7_clearBuffer 10 = .ok (.aload_n 0, 1) := by decide +kernel
theorem dX7_clearBuffer_11 : decode cX7_clearBuffer 11 = .ok (.iconst 0, 1) := by decide +kernel
theorem dX7_clearBuffer_12 : decode cX7_clearBuffer 12 = .ok (.putfield 125, 3) := by decide +kernel
theorem dX7_clearBuffer_15 : decode cX7_clearBuffer 15 = .ok (.iload_n 1, 1) := by decide +kernel
theorem dX7_clearBuffer_16 : decode cX7_clearBuffer 16 = .ok (.ireturn, 1) := by decide +kernel
theorem dX7_isNext_0 : decode cX7_isNext 0 = .ok (.aload_n 0, 1) := by decide +kernel
theorem dX7_isNext_1 : decode cX7_isNext 1 = .ok (.getfield 128, 3) := by decide +kernel
theorem dX7_isNext_4 : decode cX7_isNext 4 = .ok (.ifCond .ne 35, 3) := by decide +kernel
theorem dX7_isNext_7 : decode cX7_isNext 7 = .ok (.aload_n 0, 1) := by decide +kernel
theorem dX7_isNext_8 : decode cX7_isNext 8 = .ok (.getfield 132, 3) := by decide +kernel
theorem dX7_isNext_11 : decode cX7_isNext 11 = .ok (.aload_n 0, 1) := by decide +kernel
theorem dX7_isNext_12 : decode cX7_isNext 12 = .ok (.getfield 125, 3) := by decide +kernel
theorem dX7_isNext_15 : decode cX7_isNext 15 = .ok (.if_icmp .ge 24, 3) := by decide +kernel
theorem dX7_isNext_18 : decode cX7_isNext 18 = .ok (.aload_n 0, 1) := by decide +kernel
theorem dX7_isNext_19 : decode cX7_isNext 19 = .ok (.getfield 23, 3) := by decide +kernel
theorem dX7_isNext_22 : decode cX7_isNext 22 = .ok (.aload_n 0, 1) := by decide +kernel
theorem dX7_isNext_23 : decode cX7_isNext 23 = .ok (.getfield 132, 3) := by decide +kernel
theorem dX7_isNext_26 : decode cX7_isNext 26 = .ok (.iaload, 1) := by decide +kernel
theorem dX7_isNext_27 : decode cX7_isNext 27 = .ok (.iload_n 1, 1) := by decide +kernel
theorem dX7_isNext_28 : decode cX7_isNext 28 = .ok (.iload_n 2, 1) := by decide +kernel
theorem dX7_isNext_29 : decode cX7_isNext 29 = .ok (.invokestatic 51, 3) := by decide +kernel
theorem dX7_isNext_32 : decode cX7_isNext 32 = .ok (.ifCond .eq 7, 3) := by decide +kernel
theorem dX7_isNext_35 : decode cX7_isNext 35 = .ok (.iconst 1, 1) := by decide +kernel
theorem dX7_isNext_36 : decode cX7_isNext 36 = .ok (.goto 4, 3) := by decide +kernel
theorem dX7_isNext_39 : decode cX7_isNext 39 = .ok (.iconst 0, 1) := by decide +kernel
theorem dX7_isNext_40 : decode cX7_isNext 40 = .ok (.ireturn, 1) := by decide +kernel
theorem dX7_takes_0 : decode cX7_takes 0 = .ok (.aload_n 0, 1) := by decide +kernel
theorem dX7_takes_1 : decode cX7_takes 1 = .ok (.getfield 132, 3) := by decide +kernel
theorem dX7_takes_4 : decode cX7_takes 4 = .ok (.aload_n 0, 1) := by decide +kernel
theorem dX7_takes_5 : decode cX7_takes 5 = .ok (.getfield 125, 3) := by decide +kernel
theorem dX7_takes_8 : decode cX7_takes 8 = .ok (.if_icmp .ge 15, 3) := by decide +kernel
theorem dX7_takes_11 : decode cX7_takes 11 = .ok (.aload_n 0, 1) := by decide +kernel
theorem dX7_takes_12 : decode cX7_takes 12 = .ok (.getfield 23, 3) := by decide +kernel
theorem dX7_takes_15 : decode cX7_takes 15 = .ok (.aload_n 0, 1) := by decide +kernel
theorem dX7_takes_16 : decode cX7_takes 16 = .ok (.getfield 132, 3) := by decide +kernel
theorem dX7_takes_19 : decode cX7_takes 19 = .ok (.iaload, 1) := by decide +kernel
theorem dX7_takes_20 : decode cX7_takes 20 = .ok (.goto 4, 3) := by decide +kernel
theorem dX7_takes_23 : decode cX7_takes 23 = .ok (.iconst 0, 1) := by decide +kernel
theorem dX7_takes_24 : decode cX7_takes 24 = .ok (.istore_n 3, 1) := by decide +kernel
theorem dX7_takes_25 : decode cX7_takes 25 = .ok (.aload_n 0, 1) := by decide +kernel
theorem dX7_takes_26 : decode cX7_takes 26 = .ok (.aload_n 0, 1) := by decide +kernel
theorem dX7_takes_27 : decode cX7_takes 27 = .ok (.getfield 128, 3) := by decide +kernel
theorem dX7_takes_30 : decode cX7_takes 30 = .ok (.ifCond .ne 12, 3) := by decide +kernel
theorem dX7_takes_33 : decode cX7_takes 33 = .ok (.iload_n 3, 1) := by decide +kernel
theorem dX7_takes_34 : decode cX7_takes 34 = .ok (.iload_n 1, 1) := by decide +kernel
theorem dX7_takes_35 : decode cX7_takes 35 = .ok (.iload_n 2, 1) := by decide +kernel
theorem dX7_takes_36 : decode cX7_takes 36 = .ok (.invokestatic 51, 3) := by decide +kernel
theorem dX7_takes_39 : decode cX7_takes 39 = .ok (.ifCond .ne 7, 3) := by decide +kernel
theorem dX7_takes_42 : decode cX7_takes 42 = .ok (.iconst 1, 1) := by decide +kernel
theorem dX7_takes_43 : decode cX7_takes 43 = .ok (.goto 4, 3) := by decide +kernel
theorem dX7_takes_46 : decode cX7_takes 46 = .ok (.iconst 0, 1) := by decide +kernel
theorem dX7_takes_47 : decode cX7_takes 47 = .ok (.putfield 128, 3) := by decide +kernel
theorem dX7_takes_50 : decode cX7_takes 50 = .ok (.aload_n 0, 1) := by decide +kernel
theorem dX7_takes_51 : decode cX7_takes 51 = .ok (.dup, 1) := by decide +kernel
theorem dX7_takes_52 : decode cX7_takes 52 = .ok (.getfield 132, 3) := by decide +kernel
theorem dX7_takes_55 : decode cX7_takes 55 = .ok (.aload_n 0, 1) := by decide +kernel
theorem dX7_takes_56 : decode cX7_takes 56 = .ok (.getfield 128, 3) := by decide +kernel
theorem dX7_takes_59 : decode cX7_takes 59 = .ok (.ifCond .eq 7, 3) := by decide +kernel
theorem dX7_takes_62 : decode cX7_takes 62 = .ok (.iconst 0, 1) := by decide +kernel
theorem dX7_takes_63 : decode cX7_takes 63 = .ok (.goto 4, 3) := by decide +kernel
theorem dX7_takes_66 : decode cX7_takes 66 = .ok (.iconst 1, 1) := by decide +kernel
theorem dX7_takes_67 : decode cX7_takes 67 = .ok (.iadd, 1) := by decide +kernel
theorem dX7_takes_68 : decode cX7_takes 68 = .ok (.putfield 132, 3) := by decide +kernel
theorem dX7_takes_71 : decode cX7_takes 71 = .ok (.iload_n 3, 1) := by decide +kernel
theorem dX7_takes_72 : decode cX7_takes 72 = .ok (.iload_n 1, 1) := by decide +kernel
theorem dX7_takes_73 : decode cX7_takes 73 = .ok (.isub, 1) := by decide +kernel
theorem dX7_takes_74 : decode cX7_takes 74 = .ok (.ireturn, 1) := by decide +kernel
theorem dX7_takesNumber_0 : decode cX7_takesNumber 0 = .ok (.iload_n 1, 1) := by decide +kernel
theorem dX7_takesNumber_1 : decode cX7_takesNumber 1 = .ok (.aload_n 0, 1) := by decide +kernel
theorem dX7_takesNumber_2 : decode cX7_takesNumber 2 = .ok (.bipush 48, 2) := by decide +kernel
theorem dX7_takesNumber_4 : decode cX7_takesNumber 4 = .ok (.iload_n 1, 1) := by decide +kernel
theorem dX7_takesNumber_5 : decode cX7_takesNumber 5 = .ok (.iadd, 1) := by decide +kernel
theorem dX7_takesNumber_6 : decode cX7_takesNumber 6 = .ok (.bipush 57, 2) := by decide +kernel
theorem dX7_takesNumber_8 : decode cX7_takesNumber 8 = .ok (.invokevirtual 135, 3) := by decide +kernel
theorem dX7_takesNumber_11 : decode cX7_takesNumber 11 = .ok (.iadd, 1) := by decide +kernel
theorem dX7_takesNumber_12 : decode cX7_takesNumber 12 = .ok (.istore_n 3, 1) := by decide +kernel
theorem dX7_takesNumber_13 : decode cX7_takesNumber 13 = .ok (.iload_n 3, 1) := by decide +kernel
theorem dX7_takesNumber_14 : decode cX7_takesNumber 14 = .ok (.ifCond .le 7, 3) := by decide +kernel
theorem dX7_takesNumber_17 : decode cX7_takesNumber 17 = .ok (.iconst 1, 1) := by decide +kernel
theorem dX7_takesNumber_18 : decode cX7_takesNumber 18 = .ok (.goto 4, 3) := by decide +kernel
theorem dX7_takesNumber_21 : decode cX7_takesNumber 21 = .ok (.iconst 0, 1) := by decide +kernel
theorem dX7_takesNumber_22 : decode cX7_takesNumber 22 = .ok (.istore 4, 2) := by decide +kernel
theorem dX7_takesNumber_24 : decode cX7_takesNumber 24 = .ok (.iload 4, 2) := by decide +kernel
theorem dX7_takesNumber_26 : decode cX7_takesNumber 26 = .ok (.ifCond .eq 68, 3) := by decide +kernel
theorem dX7_takesNumber_29 : decode cX7_takesNumber 29 = .ok (.aload_n 0, 1) := by decide +kernel
theorem dX7_takesNumber_30 : decode cX7_takesNumber 30 = .ok (.bipush 48, 2) := by decide +kernel
theorem dX7_takesNumber_32 : decode cX7_takesNumber 32 = .ok (.bipush 57, 2) := by decide +kernel
theorem dX7_takesNumber_34 : decode cX7_takesNumber 34 = .ok (.invokevirtual 138, 3) := by decide +kernel
theorem dX7_takesNumber_37 : decode cX7_takesNumber 37 = .ok (.ifCond .eq 28, 3) := by decide +kernel
theorem dX7_takesNumber_40 : decode cX7_takesNumber 40 = .ok (.bipush 10, 2) := by decide +kernel
theorem dX7_takesNumber_42 : decode cX7_takesNumber 42 = .ok (.iload_n 3, 1) := by decide +kernel
theorem dX7_takesNumber_43 : decode cX7_takesNumber 43 = .ok (.imul, 1) := by decide +kernel
theorem dX7_takesNumber_44 : decode cX7_takesNumber 44 = .ok (.aload_n 0, 1) := by decide +kernel
theorem dX7_takesNumber_45 : decode cX7_takesNumber 45 = .ok (.getfield 23, 3) := by decide +kernel
theorem dX7_takesNumber_48 : decode cX7_takesNumber 48 = .ok (.aload_n 0, 1) := by decide +kernel
theorem dX7_takesNumber_49 : decode cX7_takesNumber 49 = .ok (.getfield 132, 3) := by decide +kernel
theorem dX7_takesNumber_52 : decode cX7_takesNumber 52 = .ok (.iaload, 1) := by decide +kernel
theorem dX7_takesNumber_53 : decode cX7_takesNumber 53 = .ok (.iadd, 1) := by decide +kernel
theorem dX7_takesNumber_54 : decode cX7_takesNumber 54 = .ok (.bipush 48, 2) := by decide +kernel
theorem dX7_takesNumber_56 : decode cX7_takesNumber 56 = .ok (.isub, 1) := by decide +kernel
theorem dX7_takesNumber_57 : decode cX7_takesNumber 57 = .ok (.iload_n 2, 1) := by decide +kernel
theorem dX7_takesNumber_58 : decode cX7_takesNumber 58 = .ok (.if_icmp .gt 7, 3) := by decide +kernel
theorem dX7_takesNumber_61 : decode cX7_takesNumber 61 = .ok (.iconst 1, 1) := by decide +kernel
theorem dX7_takesNumber_62 : decode cX7_takesNumber 62 = .ok (.goto 4, 3) := by decide +kernel
theorem dX7_takesNumber_65 : decode cX7_takesNumber 65 = .ok (.iconst 0, 1) := by decide +kernel
theorem dX7_takesNumber_66 : decode cX7_takesNumber 66 = .ok (.istore 4, 2) := by decide +kernel
theorem dX7_takesNumber_68 : decode cX7_takesNumber 68 = .ok (.iload 4, 2) := by decide +kernel
theorem dX7_takesNumber_70 : decode cX7_takesNumber 70 = .ok (.ifCond .eq 19, 3) := by decide +kernel
theorem dX7_takesNumber_73 : decode cX7_takesNumber 73 = .ok (.bipush 10, 2) := by decide +kernel
theorem dX7_takesNumber_75 : decode cX7_takesNumber 75 = .ok (.iload_n 3, 1) := by decide +kernel
theorem dX7_takesNumber_76 : decode cX7_takesNumber 76 = .ok (.imul, 1) := by decide +kernel
theorem dX7_takesNumber_77 : decode cX7_takesNumber 77 = .ok (.aload_n 0, 1) := by decide +kernel
theorem dX7_takesNumber_78 : decode cX7_takesNumber 78 = .ok (.bipush 48, 2) := by decide +kernel
theorem dX7_takesNumber_80 : decode cX7_takesNumber 80 = .ok (.bipush 57, 2) := by decide +kernel
theorem dX7_takesNumber_82 : decode cX7_takesNumber 82 = .ok (.invokevirtual 135, 3) := by decide +kernel
theorem dX7_takesNumber_85 : decode cX7_takesNumber 85 = .ok (.iadd, 1) := by decide +kernel
theorem dX7_takesNumber_86 : decode cX7_takesNumber 86 = .ok (.goto 4, 3) := by decide +kernel
theorem dX7_takesNumber_89 : decode cX7_takesNumber 89 = .ok (.iload_n 3, 1) := by decide +kernel
theorem dX7_takesNumber_90 : decode cX7_takesNumber 90 = .ok (.istore_n 3, 1) := by decide +kernel
theorem dX7_takesNumber_91 : decode cX7_takesNumber 91 = .ok (.goto (-67), 3) := by decide +kernel
theorem dX7_takesNumber_94 : decode cX7_takesNumber 94 = .ok (.iload_n 3, 1) := by decide +kernel
theorem dX7_takesNumber_95 : decode cX7_takesNumber 95 = .ok (.ireturn, 1) := by decide +kernel
theorem dX7_readAll_0 : decode cX7_readAll 0 = .ok (.aload_n 0, 1) := by decide +kernel
theorem dX7_readAll_1 : decode cX7_readAll 1 = .ok (.iconst 0, 1) := by decide +kernel
theorem dX7_readAll_2 : decode cX7_readAll 2 = .ok (.putfield 132, 3) := by decide +kernel
theorem dX7_readAll_5 : decode cX7_readAll 5 = .ok (.aload_n 0, 1) := by decide +kernel
theorem dX7_readAll_6 : decode cX7_readAll 6 = .ok (.iconst 0, 1) := by decide +kernel
theorem dX7_readAll_7 : decode cX7_readAll 7 = .ok (.putfield 128, 3) := by decide +kernel
theorem dX7_readAll_10 : decode cX7_readAll 10 = .ok (.aload_n 0, 1) := by decide +kernel
theorem dX7_readAll_11 : decode cX7_readAll 11 = .ok (.iconst 0, 1) := by decide +kernel
theorem dX7_readAll_12 : decode cX7_readAll 12 = .ok (.putfield 142, 3) := by decide +kernel
theorem dX7_readAll_15 : decode cX7_readAll 15 = .ok (.aload_n 0, 1) := by decide +kernel
theorem dX7_readAll_16 : decode cX7_readAll 16 = .ok (.bipush 45, 2) := by decide +kernel
theorem dX7_readAll_18 : decode cX7_readAll 18 = .ok (.bipush 45, 2) := by decide +kernel
theorem dX7_readAll_20 : decode cX7_readAll 20 = .ok (.invokevirtual 138, 3) := by decide +kernel
theorem dX7_readAll_23 : decode cX7_readAll 23 = .ok (.istore_n 1, 1) := by decide +kernel
theorem dX7_readAll_24 : decode cX7_readAll 24 = .ok (.aload_n 0, 1) := by decide +kernel
theorem dX7_readAll_25 : decode cX7_readAll 25 = .ok (.dup, 1) := by decide +kernel
theorem dX7_readAll_26 : decode cX7_readAll 26 = .ok (.getfield 132, 3) := by decide +kernel
theorem dX7_readAll_29 : decode cX7_readAll 29 = .ok (.iload_n 1, 1) := by decide +kernel
theorem dX7_readAll_30 : decode cX7_readAll 30 = .ok (.ifCond .eq 7, 3) := by decide +kernel
theorem dX7_readAll_33 : decode cX7_readAll 33 = .ok (.iconst 1, 1) := by decide +kernel
theorem dX7_readAll_34 : decode cX7_readAll 34 = .ok (.goto 4, 3) := by decide +kernel
theorem dX7_readAll_37 : decode cX7_readAll 37 = .ok (.iconst 0, 1) := by decide +kernel
theorem dX7_readAll_38 : decode cX7_readAll 38 = .ok (.iadd, 1) := by decide +kernel
theorem dX7_readAll_39 : decode cX7_readAll 39 = .ok (.putfield 132, 3) := by decide +kernel
theorem dX7_readAll_42 : decode cX7_readAll 42 = .ok (.aload_n 0, 1) := by decide +kernel
theorem dX7_readAll_43 : decode cX7_readAll 43 = .ok (.iload_n 1, 1) := by decide +kernel
theorem dX7_readAll_44 : decode cX7_readAll 44 = .ok (.ifCond .eq 15, 3) := by decide +kernel
theorem dX7_readAll_47 : decode cX7_readAll 47 = .ok (.aload_n 0, 1) := by decide +kernel
theorem dX7_readAll_48 : decode cX7_readAll 48 = .ok (.iconst 1, 1) := by decide +kernel
theorem dX7_readAll_49 : decode cX7_readAll 49 = .ok (.sipush 2048, 3) := by decide +kernel
theorem dX7_readAll_52 : decode cX7_readAll 52 = .ok (.invokevirtual 145, 3) := by decide +kernel
theorem dX7_readAll_55 : decode cX7_readAll 55 = .ok (.ineg, 1) := by decide +kernel
theorem dX7_readAll_56 : decode cX7_readAll 56 = .ok (.goto 11, 3) := by decide +kernel
theorem dX7_readAll_59 : decode cX7_readAll 59 = .ok (.aload_n 0, 1) := by decide +kernel
theorem dX7_readAll_60 : decode cX7_readAll 60 = .ok (.iconst 0, 1) := by decide +kernel
theorem dX7_readAll_61 : decode cX7_readAll 61 = .ok (.sipush 2047, 3) := by decide +kernel
theorem dX7_readAll_64 : decode cX7_readAll 64 = .ok (.invokevirtual 145, 3) := by decide +kernel
theorem dX7_readAll_67 : decode cX7_readAll 67 = .ok (.putfield 148, 3) := by decide +kernel
theorem dX7_readAll_70 : decode cX7_readAll 70 = .ok (.aload_n 0, 1) := by decide +kernel
theorem dX7_readAll_71 : decode cX7_readAll 71 = .ok (.bipush 44, 2) := by decide +kernel
theorem dX7_readAll_73 : decode cX7_readAll 73 = .ok (.bipush 44, 2) := by decide +kernel
theorem dX7_readAll_75 : decode cX7_readAll 75 = .ok (.invokevirtual 135, 3) := by decide +kernel
theorem dX7_readAll_78 : decode cX7_readAll 78 = .ok (.istore_n 2, 1) := by decide +kernel
theorem dX7_readAll_79 : decode cX7_readAll 79 = .ok (.aload_n 0, 1) := by decide +kernel
theorem dX7_readAll_80 : decode cX7_readAll 80 = .ok (.aload_n 0, 1) := by decide +kernel
theorem dX7_readAll_81 : decode cX7_readAll 81 = .ok (.iconst 0, 1) := by decide +kernel
theorem dX7_readAll_82 : decode cX7_readAll 82 = .ok (.bipush 48, 2) := by decide +kernel
theorem dX7_readAll_84 : decode cX7_readAll 84 = .ok (.invokevirtual 145, 3) := by decide +kernel
theorem dX7_readAll_87 : decode cX7_readAll 87 = .ok (.putfield 151, 3) := by decide +kernel
theorem dX7_readAll_90 : decode cX7_readAll 90 = .ok (.aload_n 0, 1) := by decide +kernel
theorem dX7_readAll_91 : decode cX7_readAll 91 = .ok (.bipush 58, 2) := by decide +kernel
theorem dX7_readAll_93 : decode cX7_readAll 93 = .ok (.bipush 58, 2) := by decide +kernel
theorem dX7_readAll_95 : decode cX7_readAll 95 = .ok (.invokevirtual 135, 3) := by decide +kernel
theorem dX7_readAll_98 : decode cX7_readAll 98 = .ok (.istore_n 3, 1) := by decide +kernel
theorem dX7_readAll_99 : decode cX7_readAll 99 = .ok (.aload_n 0, 1) := by decide +kernel
theorem dX7_readAll_100 : decode cX7_readAll 100 = .ok (.getfield 128, 3) := by decide +kernel
theorem dX7_readAll_103 : decode cX7_readAll 103 = .ok (.ifCond .ne 102, 3) := by decide +kernel
theorem dX7_readAll_106 : decode cX7_readAll 106 = .ok (.aload_n 0, 1) := by decide +kernel
theorem dX7_readAll_107 : decode cX7_readAll 107 = .ok (.getfield 132, 3) := by decide +kernel
theorem dX7_readAll_110 : decode cX7_readAll 110 = .ok (.aload_n 0, 1) := by decide +kernel
theorem dX7_readAll_111 : decode cX7_readAll 111 = .ok (.getfield 125, 3) := by decide +kernel
theorem dX7_readAll_114 : decode cX7_readAll 114 = .ok (.if_icmp .ge 91, 3) := by decide +kernel
theorem dX7_readAll_117 : decode cX7_readAll 117 = .ok (.aload_n 0, 1) := by decide +kernel
theorem dX7_readAll_118 : decode cX7_readAll 118 = .ok (.bipush 48, 2) := by decide +kernel
theorem dX7_readAll_120 : decode cX7_readAll 120 = .ok (.bipush 57, 2) := by decide +kernel
theorem dX7_readAll_122 : decode cX7_readAll 122 = .ok (.invokevirtual 138, 3) := by decide +kernel
theorem dX7_readAll_125 : decode cX7_readAll 125 = .ok (.istore 4, 2) := by decide +kernel
theorem dX7_readAll_127 : decode cX7_readAll 127 = .ok (.aload_n 0, 1) := by decide +kernel
theorem dX7_readAll_128 : decode cX7_readAll 128 = .ok (.aload_n 0, 1) := by decide +kernel
theorem dX7_readAll_129 : decode cX7_readAll 129 = .ok (.getfield 142, 3) := by decide +kernel
theorem dX7_readAll_132 : decode cX7_readAll 132 = .ok (.bipush 15, 2) := by decide +kernel
theorem dX7_readAll_134 : decode cX7_readAll 134 = .ok (.if_icmp .ne 7, 3) := by decide +kernel
theorem dX7_readAll_137 : decode cX7_readAll 137 = .ok (.iconst 1, 1) := by decide +kernel
theorem dX7_readAll_138 : decode cX7_readAll 138 = .ok (.goto 4, 3) := by decide +kernel
theorem dX7_readAll_141 : decode cX7_readAll 141 = .ok (.iconst 0, 1) := by decide +kernel
theorem dX7_readAll_142 : decode cX7_readAll 142 = .ok (.putfield 128, 3) := by decide +kernel
theorem dX7_readAll_145 : decode cX7_readAll 145 = .ok (.iload 4, 2) := by decide +kernel
theorem dX7_readAll_147 : decode cX7_readAll 147 = .ok (.ifCond .eq 14, 3) := by decide +kernel
theorem dX7_readAll_150 : decode cX7_readAll 150 = .ok (.aload_n 0, 1) := by decide +kernel
theorem dX7_readAll_151 : decode cX7_readAll 151 = .ok (.bipush 48, 2) := by decide +kernel
theorem dX7_readAll_153 : decode cX7_readAll 153 = .ok (.bipush 57, 2) := by decide +kernel
theorem dX7_readAll_155 : decode cX7_readAll 155 = .ok (.invokevirtual 135, 3) := by decide +kernel
theorem dX7_readAll_158 : decode cX7_readAll 158 = .ok (.goto 14, 3) := by decide +kernel
theorem dX7_readAll_161 : decode cX7_readAll 161 = .ok (.bipush 10, 2) := by decide +kernel
theorem dX7_readAll_163 : decode cX7_readAll 163 = .ok (.aload_n 0, 1) := by decide +kernel
theorem dX7_readAll_164 : decode cX7_readAll 164 = .ok (.bipush 97, 2) := by decide +kernel
theorem dX7_readAll_166 : decode cX7_readAll 166 = .ok (.bipush 102, 2) := by decide +kernel
theorem dX7_readAll_168 : decode cX7_readAll 168 = .ok (.invokevirtual 135, 3) := by decide +kernel
theorem dX7_readAll_171 : decode cX7_readAll 171 = .ok (.iadd, 1) := by decide +kernel
theorem dX7_readAll_172 : decode cX7_readAll 172 = .ok (.istore 5, 2) := by decide +kernel
theorem dX7_readAll_174 : decode cX7_readAll 174 = .ok (.aload_n 0, 1) := by decide +kernel
theorem dX7_readAll_175 : decode cX7_readAll 175 = .ok (.getfield 128, 3) := by decide +kernel
theorem dX7_readAll_178 : decode cX7_readAll 178 = .ok (.ifCond .ne 24, 3) := by decide +kernel
theorem dX7_readAll_181 : decode cX7_readAll 181 = .ok (.aload_n 0, 1) := by decide +kernel
theorem dX7_readAll_182 : decode cX7_readAll 182 = .ok (.getfield 41, 3) := by decide +kernel
theorem dX7_readAll_185 : decode cX7_readAll 185 = .ok (.aload_n 0, 1) := by decide +kernel
theorem dX7_readAll_186 : decode cX7_readAll 186 = .ok (.getfield 142, 3) := by decide +kernel
theorem dX7_readAll_189 : decode cX7_readAll 189 = .ok (.iload 5, 2) := by decide +kernel
theorem dX7_readAll_191 : decode cX7_readAll 191 = .ok (.iastore, 1) := by decide +kernel
theorem dX7_readAll_192 : decode cX7_readAll 192 = .ok (.aload_n 0, 1) := by decide +kernel
theorem dX7_readAll_193 : decode cX7_readAll 193 = .ok (.dup, 1) := by decide +kernel
theorem dX7_readAll_194 : decode cX7_readAll 194 = .ok (.getfield 142, 3) := by decide +kernel
theorem dX7_readAll_197 : decode cX7_readAll 197 = .ok (.iconst 1, 1) := by decide +kernel
theorem dX7_readAll_198 : decode cX7_readAll 198 = .ok (.iadd, 1) := by decide +kernel
theorem dX7_readAll_199 : decode cX7_readAll 199 = .ok (.putfield 142, 3) := by decide +kernel
theorem dX7_readAll_202 : decode cX7_readAll 202 = .ok (.goto (-103), 3) := by decide +kernel
theorem dX7_readAll_205 : decode cX7_readAll 205 = .ok (.return_, 1) := by decide +kernel
theorem dX7_firstError_0 : decode cX7_firstError 0 = .ok (.aload_n 0, 1) := by decide +kernel
theorem dX7_firstError_1 : decode cX7_firstError 1 = .ok (.iconst 0, 1) := by decide +kernel
theorem dX7_firstError_2 : decode cX7_firstError 2 = .ok (.putfield 44, 3) := by decide +kernel
theorem dX7_firstError_5 : decode cX7_firstError 5 = .ok (.aload_n 0, 1) := by decide +kernel
theorem dX7_firstError_6 : decode cX7_firstError 6 = .ok (.invokevirtual 154, 3) := by decide +kernel
theorem dX7_firstError_9 : decode cX7_firstError 9 = .ok (.aload_n 0, 1) := by decide +kernel
theorem dX7_firstError_10 : decode cX7_firstError 10 = .ok (.getfield 128, 3) := by decide +kernel
theorem dX7_firstError_13 : decode cX7_firstError 13 = .ok (.ifCond .eq 10, 3) := by decide +kernel
theorem dX7_firstError_16 : decode cX7_firstError 16 = .ok (.aload_n 0, 1) := by decide +kernel
theorem dX7_firstError_17 : decode cX7_firstError 17 = .ok (.getfield 132, 3) := by decide +kernel
theorem dX7_firstError_20 : decode cX7_firstError 20 = .ok (.goto 7, 3) := by decide +kernel
theorem dX7_firstError_23 : decode cX7_firstError 23 = .ok (.aload_n 0, 1) := by decide +kernel
theorem dX7_firstError_24 : decode cX7_firstError 24 = .ok (.getfield 125, 3) := by decide +kernel
theorem dX7_firstError_27 : decode cX7_firstError 27 = .ok (.ireturn, 1) := by decide +kernel
theorem dX7_load_0 : decode cX7_load 0 = .ok (.aload_n 0, 1) := by decide +kernel
theorem dX7_load_1 : decode cX7_load 1 = .ok (.invokevirtual 154, 3) := by decide +kernel
theorem dX7_load_4 : decode cX7_load 4 = .ok (.aload_n 0, 1) := by decide +kernel
theorem dX7_load_5 : decode cX7_load 5 = .ok (.aload_n 0, 1) := by decide +kernel
theorem dX7_load_6 : decode cX7_load 6 = .ok (.iload_n 1, 1) := by decide +kernel
theorem dX7_load_7 : decode cX7_load 7 = .ok (.invokevirtual 116, 3) := by decide +kernel
theorem dX7_load_10 : decode cX7_load 10 = .ok (.ifCond .ne 7, 3) := by decide +kernel
theorem dX7_load_13 : decode cX7_load 13 = .ok (.iconst 1, 1) := by decide +kernel
theorem dX7_load_14 : decode cX7_load 14 = .ok (.goto 38, 3) := by decide +kernel
theorem dX7_load_17 : decode cX7_load 17 = .ok (.aload_n 0, 1) := by decide +kernel
theorem dX7_load_18 : decode cX7_load 18 = .ok (.getfield 128, 3) := by decide +kernel
theorem dX7_load_21 : decode cX7_load 21 = .ok (.ifCond .ne 26, 3) := by decide +kernel
theorem dX7_load_24 : decode cX7_load 24 = .ok (.aload_n 0, 1) := by decide +kernel
theorem dX7_load_25 : decode cX7_load 25 = .ok (.getfield 142, 3) := by decide +kernel
theorem dX7_load_28 : decode cX7_load 28 = .ok (.aload_n 0, 1) := by decide +kernel
theorem dX7_load_29 : decode cX7_load 29 = .ok (.iload_n 1, 1) := by decide +kernel
theorem dX7_load_30 : decode cX7_load 30 = .ok (.invokevirtual 88, 3) := by decide +kernel
theorem dX7_load_33 : decode cX7_load 33 = .ok (.iload_n 1, 1) := by decide +kernel
theorem dX7_load_34 : decode cX7_load 34 = .ok (.aload_n 0, 1) := by decide +kernel
theorem dX7_load_35 : decode cX7_load 35 = .ok (.getfield 7, 3) := by decide +kernel
theorem dX7_load_38 : decode cX7_load 38 = .ok (.iconst 2, 1) := by decide +kernel
theorem dX7_load_39 : decode cX7_load 39 = .ok (.iaload, 1) := by decide +kernel
theorem dX7_load_40 : decode cX7_load 40 = .ok (.imul, 1) := by decide +kernel
theorem dX7_load_41 : decode cX7_load 41 = .ok (.isub, 1) := by decide +kernel
theorem dX7_load_42 : decode cX7_load 42 = .ok (.iconst 1, 1) := by decide +kernel
theorem dX7_load_43 : decode cX7_load 43 = .ok (.isub, 1) := by decide +kernel
theorem dX7_load_44 : decode cX7_load 44 = .ok (.if_icmp .eq 7, 3) := by decide +kernel
theorem dX7_load_47 : decode cX7_load 47 = .ok (.iconst 2, 1) := by decide +kernel
theorem dX7_load_48 : decode cX7_load 48 = .ok (.goto 4, 3) := by decide +kernel
theorem dX7_load_51 : decode cX7_load 51 = .ok (.iconst 0, 1) := by decide +kernel
theorem dX7_load_52 : decode cX7_load 52 = .ok (.invokevirtual 97, 3) := by decide +kernel
theorem dX7_load_55 : decode cX7_load 55 = .ok (.ifCond .ne 5, 3) := by decide +kernel
theorem dX7_load_58 : decode cX7_load 58 = .ok (.iconst 0, 1) := by decide +kernel
theorem dX7_load_59 : decode cX7_load 59 = .ok (.ireturn, 1) := by decide +kernel
theorem dX7_load_60 : decode cX7_load 60 = .ok (.aload_n 0, 1) := by decide +kernel
theorem dX7_load_61 : decode cX7_load 61 = .ok (.invokevirtual 100, 3) := by decide +kernel
theorem dX7_load_64 : decode cX7_load 64 = .ok (.aload_n 0, 1) := by decide +kernel
theorem dX7_load_65 : decode cX7_load 65 = .ok (.invokevirtual 157, 3) := by decide +kernel
theorem dX7_load_68 : decode cX7_load 68 = .ok (.aload_n 0, 1) := by decide +kernel
theorem dX7_load_69 : decode cX7_load 69 = .ok (.getfield 7, 3) := by decide +kernel
theorem dX7_load_72 : decode cX7_load 72 = .ok (.sipush 199, 3) := by decide +kernel
theorem dX7_load_75 : decode cX7_load 75 = .ok (.iload_n 1, 1) := by decide +kernel
theorem dX7_load_76 : decode cX7_load 76 = .ok (.iadd, 1) := by decide +kernel
theorem dX7_load_77 : decode cX7_load 77 = .ok (.aload_n 0, 1) := by decide +kernel
theorem dX7_load_78 : decode cX7_load 78 = .ok (.getfield 148, 3) := by decide +kernel
theorem dX7_load_81 : decode cX7_load 81 = .ok (.iastore, 1) := by decide +kernel
theorem dX7_load_82 : decode cX7_load 82 = .ok (.aload_n 0, 1) := by decide +kernel
theorem dX7_load_83 : decode cX7_load 83 = .ok (.getfield 7, 3) := by decide +kernel
theorem dX7_load_86 : decode cX7_load 86 = .ok (.sipush 231, 3) := by decide +kernel
theorem dX7_load_89 : decode cX7_load 89 = .ok (.iload_n 1, 1) := by decide +kernel
theorem dX7_load_90 : decode cX7_load 90 = .ok (.iadd, 1) := by decide +kernel
theorem dX7_load_91 : decode cX7_load 91 = .ok (.aload_n 0, 1) := by decide +kernel
theorem dX7_load_92 : decode cX7_load 92 = .ok (.getfield 151, 3) := by decide +kernel
theorem dX7_load_95 : decode cX7_load 95 = .ok (.iastore, 1) := by decide +kernel
theorem dX7_load_96 : decode cX7_load 96 = .ok (.aload_n 0, 1) := by decide +kernel
theorem dX7_load_97 : decode cX7_load 97 = .ok (.getfield 7, 3) := by decide +kernel
theorem dX7_load_100 : decode cX7_load 100 = .ok (.sipush 263, 3) := by decide +kernel
theorem dX7_load_103 : decode cX7_load 103 = .ok (.iload_n 1, 1) := by decide +kernel
theorem dX7_load_104 : decode cX7_load 104 = .ok (.iadd, 1) := by decide +kernel
theorem dX7_load_105 : decode cX7_load 105 = .ok (.iconst 0, 1) := by decide +kernel
theorem dX7_load_106 : decode cX7_load 106 = .ok (.iastore, 1) := by decide +kernel
theorem dX7_load_107 : decode cX7_load 107 = .ok (.iconst 0, 1) := by decide +kernel
theorem dX7_load_108 : decode cX7_load 108 = .ok (.istore_n 2, 1) := by decide +kernel
theorem dX7_load_109 : decode cX7_load 109 = .ok (.iload_n 2, 1) := by decide +kernel
theorem dX7_load_110 : decode cX7_load 110 = .ok (.aload_n 0, 1) := by decide +kernel
theorem dX7_load_111 : decode cX7_load 111 = .ok (.getfield 142, 3) := by decide +kernel
theorem dX7_load_114 : decode cX7_load 114 = .ok (.if_icmp .ge 35, 3) := by decide +kernel
theorem dX7_load_117 : decode cX7_load 117 = .ok (.aload_n 0, 1) := by decide +kernel
theorem dX7_load_118 : decode cX7_load 118 = .ok (.getfield 7, 3) := by decide +kernel
theorem dX7_load_121 : decode cX7_load 121 = .ok (.bipush 71, 2) := by decide +kernel
theorem dX7_load_123 : decode cX7_load 123 = .ok (.iload_n 1, 1) := by decide +kernel
theorem dX7_load_124 : decode cX7_load 124 = .ok (.aload_n 0, 1) := by decide +kernel
theorem dX7_load_125 : decode cX7_load 125 = .ok (.getfield 7, 3) := by decide +kernel
theorem dX7_load_128 : decode cX7_load 128 = .ok (.iconst 2, 1) := by decide +kernel
theorem dX7_load_129 : decode cX7_load 129 = .ok (.iaload, 1) := by decide +kernel
theorem dX7_load_130 : decode cX7_load 130 = .ok (.imul, 1) := by decide +kernel
theorem dX7_load_131 : decode cX7_load 131 = .ok (.iadd, 1) := by decide +kernel
theorem dX7_load_132 : decode cX7_load 132 = .ok (.iconst 1, 1) := by decide +kernel
theorem dX7_load_133 : decode cX7_load 133 = .ok (.iadd, 1) := by decide +kernel
theorem dX7_load_134 : decode cX7_load 134 = .ok (.iload_n 2, 1) := by decide +kernel
theorem dX7_load_135 : decode cX7_load 135 = .ok (.iadd, 1) := by decide +kernel
theorem dX7_load_136 : decode cX7_load 136 = .ok (.aload_n 0, 1) := by decide +kernel
theorem dX7_load_137 : decode cX7_load 137 = .ok (.getfield 41, 3) := by decide +kernel
theorem dX7_load_140 : decode cX7_load 140 = .ok (.iload_n 2, 1) := by decide +kernel
theorem dX7_load_141 : decode cX7_load 141 = .ok (.iaload, 1) := by decide +kernel
theorem dX7_load_142 : decode cX7_load 142 = .ok (.iastore, 1) := by decide +kernel
theorem dX7_load_143 : decode cX7_load 143 = .ok (.iinc 2 1, 3) := by decide +kernel
theorem dX7_load_146 : decode cX7_load 146 = .ok (.goto (-37), 3) := by decide +kernel
theorem dX7_load_149 : decode cX7_load 149 = .ok (.aload_n 0, 1) := by decide +kernel
theorem dX7_load_150 : decode cX7_load 150 = .ok (.iconst 0, 1) := by decide +kernel
theorem dX7_load_151 : decode cX7_load 151 = .ok (.putfield 125, 3) := by decide +kernel
theorem dX7_load_154 : decode cX7_load 154 = .ok (.aload_n 0, 1) := by decide +kernel
theorem dX7_load_155 : decode cX7_load 155 = .ok (.invokevirtual 160, 3) := by decide +kernel
theorem dX7_load_158 : decode cX7_load 158 = .ok (.ireturn, 1) := by decide +kernel
theorem dX7_writes_0 : decode cX7_writes 0 = .ok (.aload_n 0, 1) := by decide +kernel
theorem dX7_writes_1 : decode cX7_writes 1 = .ok (.getfield 23, 3) := by decide +kernel
theorem dX7_writes_4 : decode cX7_writes 4 = .ok (.aload_n 0, 1) := by decide +kernel
theorem dX7_writes_5 : decode cX7_writes 5 = .ok (.getfield 125, 3) := by decide +kernel
theorem dX7_writes_8 : decode cX7_writes 8 = .ok (.iload_n 1, 1) := by decide +kernel
theorem dX7_writes_9 : decode cX7_writes 9 = .ok (.iastore, 1) := by decide +kernel
theorem dX7_writes_10 : decode cX7_writes 10 = .ok (.aload_n 0, 1) := by decide +kernel
theorem dX7_writes_11 : decode cX7_writes 11 = .ok (.dup, 1) := by decide +kernel
theorem dX7_writes_12 : decode cX7_writes 12 = .ok (.getfield 125, 3) := by decide +kernel
theorem dX7_writes_15 : decode cX7_writes 15 = .ok (.iconst 1, 1) := by decide +kernel
theorem dX7_writes_16 : decode cX7_writes 16 = .ok (.iadd, 1) := by decide +kernel
theorem dX7_writes_17 : decode cX7_writes 17 = .ok (.putfield 125, 3) := by decide +kernel
theorem dX7_writes_20 : decode cX7_writes 20 = .ok (.return_, 1) := by decide +kernel
theorem dX7_writesNumber_0 : decode cX7_writesNumber 0 = .ok (.iload_n 1, 1) := by decide +kernel
theorem dX7_writesNumber_1 : decode cX7_writesNumber 1 = .ok (.sipush 999, 3) := by decide +kernel
theorem dX7_writesNumber_4 : decode cX7_writesNumber 4 = .ok (.if_icmp .le 9, 3) := by decide +kernel
theorem dX7_writesNumber_7 : decode cX7_writesNumber 7 = .ok (.sipush 1000, 3) := by decide +kernel
theorem dX7_writesNumber_10 : decode cX7_writesNumber 10 = .ok (.goto 26, 3) := by decide +kernel
theorem dX7_writesNumber_13 : decode cX7_writesNumber 13 = .ok (.iload_n 1, 1) := by decide +kernel
theorem dX7_writesNumber_14 : decode cX7_writesNumber 14 = .ok (.bipush 99, 2) := by decide +kernel
theorem dX7_writesNumber_16 : decode cX7_writesNumber 16 = .ok (.if_icmp .le 8, 3) := by decide +kernel
theorem dX7_writesNumber_19 : decode cX7_writesNumber 19 = .ok (.bipush 100, 2) := by decide +kernel
theorem dX7_writesNumber_21 : decode cX7_writesNumber 21 = .ok (.goto 15, 3) := by decide +kernel
theorem dX7_writesNumber_24 : decode cX7_writesNumber 24 = .ok (.iload_n 1, 1) := by decide +kernel
theorem dX7_writesNumber_25 : decode cX7_writesNumber 25 = .ok (.bipush 9, 2) := by decide +kernel
theorem dX7_writesNumber_27 : decode cX7_writesNumber 27 = .ok (.if_icmp .le 8, 3) := by decide +kernel
theorem dX7_writesNumber_30 : decode cX7_writesNumber 30 = .ok (.bipush 10, 2) := by decide +kernel
theorem dX7_writesNumber_32 : decode cX7_writesNumber 32 = .ok (.goto 4, 3) := by decide +kernel
theorem dX7_writesNumber_35 : decode cX7_writesNumber 35 = .ok (.iconst 1, 1) := by decide +kernel
theorem dX7_writesNumber_36 : decode cX7_writesNumber 36 = .ok (.istore_n 2, 1) := by decide +kernel
theorem dX7_writesNumber_37 : decode cX7_writesNumber 37 = .ok (.iload_n 2, 1) := by decide +kernel
theorem dX7_writesNumber_38 : decode cX7_writesNumber 38 = .ok (.ifCond .le 24, 3) := by decide +kernel
theorem dX7_writesNumber_41 : decode cX7_writesNumber 41 = .ok (.aload_n 0, 1) := by decide +kernel
theorem dX7_writesNumber_42 : decode cX7_writesNumber 42 = .ok (.bipush 48, 2) := by decide +kernel
theorem dX7_writesNumber_44 : decode cX7_writesNumber 44 = .ok (.iload_n 1, 1) := by decide +kernel
theorem dX7_writesNumber_45 : decode cX7_writesNumber 45 = .ok (.iload_n 2, 1) := by decide +kernel
theorem dX7_writesNumber_46 : decode cX7_writesNumber 46 = .ok (.idiv, 1) := by decide +kernel
theorem dX7_writesNumber_47 : decode cX7_writesNumber 47 = .ok (.bipush 10, 2) := by decide +kernel
theorem dX7_writesNumber_49 : decode cX7_writesNumber 49 = .ok (.irem, 1) := by decide +kernel
theorem dX7_writesNumber_50 : decode cX7_writesNumber 50 = .ok (.iadd, 1) := by decide +kernel
theorem dX7_writesNumber_51 : decode cX7_writesNumber 51 = .ok (.invokevirtual 163, 3) := by decide +kernel
theorem dX7_writesNumber_54 : decode cX7_writesNumber 54 = .ok (.iload_n 2, 1) := by decide +kernel
theorem dX7_writesNumber_55 : decode cX7_writesNumber 55 = .ok (.bipush 10, 2) := by decide +kernel
theorem dX7_writesNumber_57 : decode cX7_writesNumber 57 = .ok (.idiv, 1) := by decide +kernel
theorem dX7_writesNumber_58 : decode cX7_writesNumber 58 = .ok (.istore_n 2, 1) := by decide +kernel
theorem dX7_writesNumber_59 : decode cX7_writesNumber 59 = .ok (.goto (-22), 3) := by decide +kernel
theorem dX7_writesNumber_62 : decode cX7_writesNumber 62 = .ok (.return_, 1) := by decide +kernel
theorem dX7_write_0 : decode cX7_write 0 = .ok (.aload_n 0, 1) := by decide +kernel
theorem dX7_write_1 : decode cX7_write 1 = .ok (.aload_n 0, 1) := by decide +kernel
theorem dX7_write_2 : decode cX7_write 2 = .ok (.iload_n 1, 1) := by decide +kernel
theorem dX7_write_3 : decode cX7_write 3 = .ok (.invokevirtual 116, 3) := by decide +kernel
theorem dX7_write_6 : decode cX7_write 6 = .ok (.ifCond .eq 7, 3) := by decide +kernel
theorem dX7_write_9 : decode cX7_write 9 = .ok (.iconst 0, 1) := by decide +kernel
theorem dX7_write_10 : decode cX7_write 10 = .ok (.goto 4, 3) := by decide +kernel
theorem dX7_write_13 : decode cX7_write 13 = .ok (.iconst 1, 1) := by decide +kernel
theorem dX7_write_14 : decode cX7_write 14 = .ok (.invokevirtual 97, 3) := by decide +kernel
theorem dX7_write_17 : decode cX7_write 17 = .ok (.ifCond .ne 5, 3) := by decide +kernel
theorem dX7_write_20 : decode cX7_write 20 = .ok (.iconst 0, 1) := by decide +kernel
theorem dX7_write_21 : decode cX7_write 21 = .ok (.ireturn, 1) := by decide +kernel
theorem dX7_write_22 : decode cX7_write 22 = .ok (.aload_n 0, 1) := by decide +kernel
theorem dX7_write_23 : decode cX7_write 23 = .ok (.iconst 0, 1) := by decide +kernel
theorem dX7_write_24 : decode cX7_write 24 = .ok (.putfield 125, 3) := by decide +kernel
theorem dX7_write_27 : decode cX7_write 27 = .ok (.aload_n 0, 1) := by decide +kernel
theorem dX7_write_28 : decode cX7_write 28 = .ok (.getfield 7, 3) := by decide +kernel
theorem dX7_write_31 : decode cX7_write 31 = .ok (.sipush 199, 3) := by decide +kernel
theorem dX7_write_34 : decode cX7_write 34 = .ok (.iload_n 1, 1) := by decide +kernel
theorem dX7_write_35 : decode cX7_write 35 = .ok (.iadd, 1) := by decide +kernel
theorem dX7_write_36 : decode cX7_write 36 = .ok (.iaload, 1) := by decide +kernel
theorem dX7_write_37 : decode cX7_write 37 = .ok (.istore_n 2, 1) := by decide +kernel
theorem dX7_write_38 : decode cX7_write 38 = .ok (.iload_n 2, 1) := by decide +kernel
theorem dX7_write_39 : decode cX7_write 39 = .ok (.ifCond .ge 9, 3) := by decide +kernel
theorem dX7_write_42 : decode cX7_write 42 = .ok (.aload_n 0, 1) := by decide +kernel
theorem dX7_write_43 : decode cX7_write 43 = .ok (.bipush 45, 2) := by decide +kernel
theorem dX7_write_45 : decode cX7_write 45 = .ok (.invokevirtual 163, 3) := by decide +kernel
theorem dX7_write_48 : decode cX7_write 48 = .ok (.aload_n 0, 1) := by decide +kernel
theorem dX7_write_49 : decode cX7_write 49 = .ok (.iload_n 2, 1) := by decide +kernel
theorem dX7_write_50 : decode cX7_write 50 = .ok (.ifCond .ge 8, 3) := by decide +kernel
theorem dX7_write_53 : decode cX7_write 53 = .ok (.iload_n 2, 1) := by decide +kernel
theorem dX7_write_54 : decode cX7_write 54 = .ok (.ineg, 1) := by decide +kernel
theorem dX7_write_55 : decode cX7_write 55 = .ok (.goto 4, 3) := by decide +kernel
theorem dX7_write_58 : decode cX7_write 58 = .ok (.iload_n 2, 1) := by decide +kernel
theorem dX7_write_59 : decode cX7_write 59 = .ok (.invokevirtual 167, 3) := by decide +kernel
theorem dX7_write_62 : decode cX7_write 62 = .ok (.aload_n 0, 1) := by decide +kernel
theorem dX7_write_63 : decode cX7_write 63 = .ok (.bipush 44, 2) := by decide +kernel
theorem dX7_write_65 : decode cX7_write 65 = .ok (.invokevirtual 163, 3) := by decide +kernel
theorem dX7_write_68 : decode cX7_write 68 = .ok (.aload_n 0, 1) := by decide +kernel
theorem dX7_write_69 : decode cX7_write 69 = .ok (.aload_n 0, 1) := by decide +kernel
theorem dX7_write_70 : decode cX7_write 70 = .ok (.getfield 7, 3) := by decide +kernel
theorem dX7_write_73 : decode cX7_write 73 = .ok (.sipush 231, 3) := by decide +kernel
theorem dX7_write_76 : decode cX7_write 76 = .ok (.iload_n 1, 1) := by decide +kernel
theorem dX7_write_77 : decode cX7_write 77 = .ok (.iadd, 1) := by decide +kernel
theorem dX7_write_78 : decode cX7_write 78 = .ok (.iaload, 1) := by decide +kernel
theorem dX7_write_79 : decode cX7_write 79 = .ok (.invokevirtual 167, 3) := by decide +kernel
theorem dX7_write_82 : decode cX7_write 82 = .ok (.aload_n 0, 1) := by decide +kernel
theorem dX7_write_83 : decode cX7_write 83 = .ok (.bipush 58, 2) := by decide +kernel
theorem dX7_write_85 : decode cX7_write 85 = .ok (.invokevirtual 163, 3) := by decide +kernel
theorem dX7_write_88 : decode cX7_write 88 = .ok (.iload_n 1, 1) := by decide +kernel
theorem dX7_write_89 : decode cX7_write 89 = .ok (.aload_n 0, 1) := by decide +kernel
theorem dX7_write_90 : decode cX7_write 90 = .ok (.getfield 7, 3) := by decide +kernel
theorem dX7_write_93 : decode cX7_write 93 = .ok (.iconst 2, 1) := by decide +kernel
theorem dX7_write_94 : decode cX7_write 94 = .ok (.iaload, 1) := by decide +kernel
theorem dX7_write_95 : decode cX7_write 95 = .ok (.imul, 1) := by decide +kernel
theorem dX7_write_96 : decode cX7_write 96 = .ok (.iconst 1, 1) := by decide +kernel
theorem dX7_write_97 : decode cX7_write 97 = .ok (.iadd, 1) := by decide +kernel
theorem dX7_write_98 : decode cX7_write 98 = .ok (.istore_n 3, 1) := by decide +kernel
theorem dX7_write_99 : decode cX7_write 99 = .ok (.iload_n 3, 1) := by decide +kernel
theorem dX7_write_100 : decode cX7_write 100 = .ok (.aload_n 0, 1) := by decide +kernel
theorem dX7_write_101 : decode cX7_write 101 = .ok (.iload_n 1, 1) := by decide +kernel
theorem dX7_write_102 : decode cX7_write 102 = .ok (.invokevirtual 88, 3) := by decide +kernel
theorem dX7_write_105 : decode cX7_write 105 = .ok (.if_icmp .ge 57, 3) := by decide +kernel
theorem dX7_write_108 : decode cX7_write 108 = .ok (.aload_n 0, 1) := by decide +kernel
theorem dX7_write_109 : decode cX7_write 109 = .ok (.aload_n 0, 1) := by decide +kernel
theorem dX7_write_110 : decode cX7_write 110 = .ok (.getfield 7, 3) := by decide +kernel
theorem dX7_write_113 : decode cX7_write 113 = .ok (.bipush 71, 2) := by decide +kernel
theorem dX7_write_115 : decode cX7_write 115 = .ok (.iload_n 3, 1) := by decide +kernel
theorem dX7_write_116 : decode cX7_write 116 = .ok (.iadd, 1) := by decide +kernel
theorem dX7_write_117 : decode cX7_write 117 = .ok (.iaload, 1) := by decide +kernel
theorem dX7_write_118 : decode cX7_write 118 = .ok (.bipush 10, 2) := by decide +kernel
theorem dX7_write_120 : decode cX7_write 120 = .ok (.if_icmp .ge 18, 3) := by decide +kernel
theorem dX7_write_123 : decode cX7_write 123 = .ok (.bipush 48, 2) := by decide +kernel
theorem dX7_write_125 : decode cX7_write 125 = .ok (.aload_n 0, 1) := by decide +kernel
theorem dX7_write_126 : decode cX7_write 126 = .ok (.getfield 7, 3) := by decide +kernel
theorem dX7_write_129 : decode cX7_write 129 = .ok (.bipush 71, 2) := by decide +kernel
theorem dX7_write_131 : decode cX7_write 131 = .ok (.iload_n 3, 1) := by decide +kernel
theorem dX7_write_132 : decode cX7_write 132 = .ok (.iadd, 1) := by decide +kernel
theorem dX7_write_133 : decode cX7_write 133 = .ok (.iaload, 1) := by decide +kernel
theorem dX7_write_134 : decode cX7_write 134 = .ok (.iadd, 1) := by decide +kernel
theorem dX7_write_135 : decode cX7_write 135 = .ok (.goto 18, 3) := by decide +kernel
theorem dX7_write_138 : decode cX7_write 138 = .ok (.bipush 97, 2) := by decide +kernel
theorem dX7_write_140 : decode cX7_write 140 = .ok (.aload_n 0, 1) := by decide +kernel
theorem dX7_write_141 : decode cX7_write 141 = .ok (.getfield 7, 3) := by decide +kernel
theorem dX7_write_144 : decode cX7_write 144 = .ok (.bipush 71, 2) := by decide +kernel
theorem dX7_write_146 : decode cX7_write 146 = .ok (.iload_n 3, 1) := by decide +kernel
theorem dX7_write_147 : decode cX7_write 147 = .ok (.iadd, 1) := by decide +kernel
theorem dX7_write_148 : decode cX7_write 148 = .ok (.iaload, 1) := by decide +kernel
theorem dX7_write_149 : decode cX7_write 149 = .ok (.iadd, 1) := by decide +kernel
theorem dX7_write_150 : decode cX7_write 150 = .ok (.bipush 10, 2) := by decide +kernel
theorem dX7_write_152 : decode cX7_write 152 = .ok (.isub, 1) := by decide +kernel
theorem dX7_write_153 : decode cX7_write 153 = .ok (.invokevirtual 163, 3) := by decide +kernel
theorem dX7_write_156 : decode cX7_write 156 = .ok (.iinc 3 1, 3) := by decide +kernel
theorem dX7_write_159 : decode cX7_write 159 = .ok (.goto (-60), 3) := by decide +kernel
theorem dX7_write_162 : decode cX7_write 162 = .ok (.aload_n 0, 1) := by decide +kernel
theorem dX7_write_163 : decode cX7_write 163 = .ok (.getfield 125, 3) := by decide +kernel
theorem dX7_write_166 : decode cX7_write 166 = .ok (.ireturn, 1) := by decide +kernel
theorem dX7_keep_0 : decode cX7_keep 0 = .ok (.aload_n 0, 1) := by decide +kernel
theorem dX7_keep_1 : decode cX7_keep 1 = .ok (.iload_n 1, 1) := by decide +kernel
theorem dX7_keep_2 : decode cX7_keep 2 = .ok (.iconst 0, 1) := by decide +kernel
theorem dX7_keep_3 : decode cX7_keep 3 = .ok (.iconst 1, 1) := by decide +kernel
theorem dX7_keep_4 : decode cX7_keep 4 = .ok (.invokestatic 51, 3) := by decide +kernel
theorem dX7_keep_7 : decode cX7_keep 7 = .ok (.ifCond .eq 7, 3) := by decide +kernel
theorem dX7_keep_10 : decode cX7_keep 10 = .ok (.iconst 0, 1) := by decide +kernel
theorem dX7_keep_11 : decode cX7_keep 11 = .ok (.goto 4, 3) := by decide +kernel
theorem dX7_keep_14 : decode cX7_keep 14 = .ok (.iconst 1, 1) := by decide +kernel
theorem dX7_keep_15 : decode cX7_keep 15 = .ok (.invokevirtual 97, 3) := by decide +kernel
theorem dX7_keep_18 : decode cX7_keep 18 = .ok (.ifCond .ne 5, 3) := by decide +kernel
theorem dX7_keep_21 : decode cX7_keep 21 = .ok (.iconst 0, 1) := by decide +kernel
theorem dX7_keep_22 : decode cX7_keep 22 = .ok (.ireturn, 1) := by decide +kernel
theorem dX7_keep_23 : decode cX7_keep 23 = .ok (.iconst 0, 1) := by decide +kernel
theorem dX7_keep_24 : decode cX7_keep 24 = .ok (.istore_n 2, 1) := by decide +kernel
theorem dX7_keep_25 : decode cX7_keep 25 = .ok (.iload_n 2, 1) := by decide +kernel
theorem dX7_keep_26 : decode cX7_keep 26 = .ok (.sipush 295, 3) := by decide +kernel
theorem dX7_keep_29 : decode cX7_keep 29 = .ok (.if_icmp .ge 27, 3) := by decide +kernel
theorem dX7_keep_32 : decode cX7_keep 32 = .ok (.aload_n 0, 1) := by decide +kernel
theorem dX7_keep_33 : decode cX7_keep 33 = .ok (.getfield 16, 3) := by decide +kernel
theorem dX7_keep_36 : decode cX7_keep 36 = .ok (.sipush 295, 3) := by decide +kernel
theorem dX7_keep_39 : decode cX7_keep 39 = .ok (.iload_n 1, 1) := by decide +kernel
theorem dX7_keep_40 : decode cX7_keep 40 = .ok (.imul, 1) := by decide +kernel
theorem dX7_keep_41 : decode cX7_keep 41 = .ok (.iload_n 2, 1) := by decide +kernel
theorem dX7_keep_42 : decode cX7_keep 42 = .ok (.iadd, 1) := by decide +kernel
theorem dX7_keep_43 : decode cX7_keep 43 = .ok (.aload_n 0, 1) := by decide +kernel
theorem dX7_keep_44 : decode cX7_keep 44 = .ok (.getfield 7, 3) := by decide +kernel
theorem dX7_keep_47 : decode cX7_keep 47 = .ok (.iload_n 2, 1) := by decide +kernel
theorem dX7_keep_48 : decode cX7_keep 48 = .ok (.iaload, 1) := by decide +kernel
theorem dX7_keep_49 : decode cX7_keep 49 = .ok (.iastore, 1) := by decide +kernel
theorem dX7_keep_50 : decode cX7_keep 50 = .ok (.iinc 2 1, 3) := by decide +kernel
theorem dX7_keep_53 : decode cX7_keep 53 = .ok (.goto (-28), 3) := by decide +kernel
theorem dX7_keep_56 : decode cX7_keep 56 = .ok (.aload_n 0, 1) := by decide +kernel
theorem dX7_keep_57 : decode cX7_keep 57 = .ok (.getfield 19, 3) := by decide +kernel
theorem dX7_keep_60 : decode cX7_keep 60 = .ok (.iload_n 1, 1) := by decide +kernel
theorem dX7_keep_61 : decode cX7_keep 61 = .ok (.iconst 1, 1) := by decide +kernel
theorem dX7_keep_62 : decode cX7_keep 62 = .ok (.bastore, 1) := by decide +kernel
theorem dX7_keep_63 : decode cX7_keep 63 = .ok (.aload_n 0, 1) := by decide +kernel
theorem dX7_keep_64 : decode cX7_keep 64 = .ok (.getfield 7, 3) := by decide +kernel
theorem dX7_keep_67 : decode cX7_keep 67 = .ok (.iconst 0, 1) := by decide +kernel
theorem dX7_keep_68 : decode cX7_keep 68 = .ok (.iaload, 1) := by decide +kernel
theorem dX7_keep_69 : decode cX7_keep 69 = .ok (.ireturn, 1) := by decide +kernel
theorem dX7_goBack_0 : decode cX7_goBack 0 = .ok (.aload_n 0, 1) := by decide +kernel
theorem dX7_goBack_1 : decode cX7_goBack 1 = .ok (.iload_n 1, 1) := by decide +kernel
theorem dX7_goBack_2 : decode cX7_goBack 2 = .ok (.iconst 0, 1) := by decide +kernel
theorem dX7_goBack_3 : decode cX7_goBack 3 = .ok (.iconst 1, 1) := by decide +kernel
theorem dX7_goBack_4 : decode cX7_goBack 4 = .ok (.invokestatic 51, 3) := by decide +kernel
theorem dX7_goBack_7 : decode cX7_goBack 7 = .ok (.ifCond .ne 7, 3) := by decide +kernel
theorem dX7_goBack_10 : decode cX7_goBack 10 = .ok (.iconst 1, 1) := by decide +kernel
theorem dX7_goBack_11 : decode cX7_goBack 11 = .ok (.goto 17, 3) := by decide +kernel
theorem dX7_goBack_14 : decode cX7_goBack 14 = .ok (.aload_n 0, 1) := by decide +kernel
theorem dX7_goBack_15 : decode cX7_goBack 15 = .ok (.getfield 19, 3) := by decide +kernel
theorem dX7_goBack_18 : decode cX7_goBack 18 = .ok (.iload_n 1, 1) := by decide +kernel
theorem dX7_goBack_19 : decode cX7_goBack 19 = .ok (.baload, 1) := by decide +kernel
theorem dX7_goBack_20 : decode cX7_goBack 20 = .ok (.ifCond .ne 7, 3) := by decide +kernel
theorem dX7_goBack_23 : decode cX7_goBack 23 = .ok (.iconst 2, 1) := by decide +kernel
theorem dX7_goBack_24 : decode cX7_goBack 24 = .ok (.goto 4, 3) := by decide +kernel
theorem dX7_goBack_27 : decode cX7_goBack 27 = .ok (.iconst 0, 1) := by decide +kernel
theorem dX7_goBack_28 : decode cX7_goBack 28 = .ok (.invokevirtual 97, 3) := by decide +kernel
theorem dX7_goBack_31 : decode cX7_goBack 31 = .ok (.ifCond .ne 5, 3) := by decide +kernel
theorem dX7_goBack_34 : decode cX7_goBack 34 = .ok (.iconst 0, 1) := by decide +kernel
theorem dX7_goBack_35 : decode cX7_goBack 35 = .ok (.ireturn, 1) := by decide +kernel
theorem dX7_goBack_36 : decode cX7_goBack 36 = .ok (.aload_n 0, 1) := by decide +kernel
theorem dX7_goBack_37 : decode cX7_goBack 37 = .ok (.invokevirtual 100, 3) := by decide +kernel
theorem dX7_goBack_40 : decode cX7_goBack 40 = .ok (.iconst 0, 1) := by decide +kernel
theorem dX7_goBack_41 : decode cX7_goBack 41 = .ok (.istore_n 2, 1) := by decide +kernel
theorem dX7_goBack_42 : decode cX7_goBack 42 = .ok (.iload_n 2, 1) := by decide +kernel
theorem dX7_goBack_43 : decode cX7_goBack 43 = .ok (.sipush 295, 3) := by decide +kernel
theorem dX7_goBack_46 : decode cX7_goBack 46 = .ok (.if_icmp .ge 27, 3) := by decide +kernel
theorem dX7_goBack_49 : decode cX7_goBack 49 = .ok (.aload_n 0, 1) := by decide +kernel
theorem dX7_goBack_50 : decode cX7_goBack 50 = .ok (.getfield 7, 3) := by decide +kernel
theorem dX7_goBack_53 : decode cX7_goBack 53 = .ok (.iload_n 2, 1) := by decide +kernel
theorem dX7_goBack_54 : decode cX7_goBack 54 = .ok (.aload_n 0, 1) := by decide +kernel
theorem dX7_goBack_55 : decode cX7_goBack 55 = .ok (.getfield 16, 3) := by decide +kernel
theorem dX7_goBack_58 : decode cX7_goBack 58 = .ok (.sipush 295, 3) := by decide +kernel
theorem dX7_goBack_61 : decode cX7_goBack 61 = .ok (.iload_n 1, 1) := by decide +kernel
theorem dX7_goBack_62 : decode cX7_goBack 62 = .ok (.imul, 1) := by decide +kernel
theorem dX7_goBack_63 : decode cX7_goBack 63 = .ok (.iload_n 2, 1) := by decide +kernel
theorem dX7_goBack_64 : decode cX7_goBack 64 = .ok (.iadd, 1) := by decide +kernel
theorem dX7_goBack_65 : decode cX7_goBack 65 = .ok (.iaload, 1) := by decide +kernel
theorem dX7_goBack_66 : decode cX7_goBack 66 = .ok (.iastore, 1) := by decide +kernel
theorem dX7_goBack_67 : decode cX7_goBack 67 = .ok (.iinc 2 1, 3) := by decide +kernel
theorem dX7_goBack_70 : decode cX7_goBack 70 = .ok (.goto (-28), 3) := by decide +kernel
theorem dX7_goBack_73 : decode cX7_goBack 73 = .ok (.aload_n 0, 1) := by decide +kernel
theorem dX7_goBack_74 : decode cX7_goBack 74 = .ok (.getfield 7, 3) := by decide +kernel
theorem dX7_goBack_77 : decode cX7_goBack 77 = .ok (.iconst 0, 1) := by decide +kernel
theorem dX7_goBack_78 : decode cX7_goBack 78 = .ok (.iaload, 1) := by decide +kernel
theorem dX7_goBack_79 : decode cX7_goBack 79 = .ok (.ireturn, 1) := by decide +kernel
theorem dX7_undo_0 : decode cX7_undo 0 = .ok (.aload_n 0, 1) := by decide +kernel
theorem dX7_undo_1 : decode cX7_undo 1 = .ok (.aload_n 0, 1) := by decide +kernel
theorem dX7_undo_2 : decode cX7_undo 2 = .ok (.getfield 48, 3) := by decide +kernel
theorem dX7_undo_5 : decode cX7_undo 5 = .ok (.ifCond .le 7, 3) := by decide +kernel
theorem dX7_undo_8 : decode cX7_undo 8 = .ok (.iconst 0, 1) := by decide +kernel
theorem dX7_undo_9 : decode cX7_undo 9 = .ok (.goto 4, 3) := by decide +kernel
theorem dX7_undo_12 : decode cX7_undo 12 = .ok (.iconst 1, 1) := by decide +kernel
theorem dX7_undo_13 : decode cX7_undo 13 = .ok (.invokevirtual 97, 3) := by decide +kernel
theorem dX7_undo_16 : decode cX7_undo 16 = .ok (.ifCond .ne 5, 3) := by decide +kernel
theorem dX7_undo_19 : decode cX7_undo 19 = .ok (.iconst 0, 1) := by decide +kernel
theorem dX7_undo_20 : decode cX7_undo 20 = .ok (.ireturn, 1) := by decide +kernel
theorem dX7_undo_21 : decode cX7_undo 21 = .ok (.aload_n 0, 1) := by decide +kernel
theorem dX7_undo_22 : decode cX7_undo 22 = .ok (.dup, 1) := by decide +kernel
theorem dX7_undo_23 : decode cX7_undo 23 = .ok (.getfield 48, 3) := by decide +kernel
theorem dX7_undo_26 : decode cX7_undo 26 = .ok (.iconst 1, 1) := by decide +kernel
theorem dX7_undo_27 : decode cX7_undo 27 = .ok (.isub, 1) := by decide +kernel
theorem dX7_undo_28 : decode cX7_undo 28 = .ok (.putfield 48, 3) := by decide +kernel
theorem dX7_undo_31 : decode cX7_undo 31 = .ok (.iconst 0, 1) := by decide +kernel
theorem dX7_undo_32 : decode cX7_undo 32 = .ok (.istore_n 1, 1) := by decide +kernel
theorem dX7_undo_33 : decode cX7_undo 33 = .ok (.iload_n 1, 1) := by decide +kernel
theorem dX7_undo_34 : decode cX7_undo 34 = .ok (.sipush 295, 3) := by decide +kernel
theorem dX7_undo_37 : decode cX7_undo 37 = .ok (.if_icmp .ge 30, 3) := by decide +kernel
theorem dX7_undo_40 : decode cX7_undo 40 = .ok (.aload_n 0, 1) := by decide +kernel
theorem dX7_undo_41 : decode cX7_undo 41 = .ok (.getfield 7, 3) := by decide +kernel
theorem dX7_undo_44 : decode cX7_undo 44 = .ok (.iload_n 1, 1) := by decide +kernel
theorem dX7_undo_45 : decode cX7_undo 45 = .ok (.aload_n 0, 1) := by decide +kernel
theorem dX7_undo_46 : decode cX7_undo 46 = .ok (.getfield 13, 3) := by decide +kernel
theorem dX7_undo_49 : decode cX7_undo 49 = .ok (.sipush 295, 3) := by decide +kernel
theorem dX7_undo_52 : decode cX7_undo 52 = .ok (.aload_n 0, 1) := by decide +kernel
theorem dX7_undo_53 : decode cX7_undo 53 = .ok (.getfield 48, 3) := by decide +kernel
theorem dX7_undo_56 : decode cX7_undo 56 = .ok (.imul, 1) := by decide +kernel
theorem dX7_undo_57 : decode cX7_undo 57 = .ok (.iload_n 1, 1) := by decide +kernel
theorem dX7_undo_58 : decode cX7_undo 58 = .ok (.iadd, 1) := by decide +kernel
theorem dX7_undo_59 : decode cX7_undo 59 = .ok (.iaload, 1) := by decide +kernel
theorem dX7_undo_60 : decode cX7_undo 60 = .ok (.iastore, 1) := by decide +kernel
theorem dX7_undo_61 : decode cX7_undo 61 = .ok (.iinc 1 1, 3) := by decide +kernel
theorem dX7_undo_64 : decode cX7_undo 64 = .ok (.goto (-31), 3) := by decide +kernel
theorem dX7_undo_67 : decode cX7_undo 67 = .ok (.aload_n 0, 1) := by decide +kernel
theorem dX7_undo_68 : decode cX7_undo 68 = .ok (.getfield 48, 3) := by decide +kernel
theorem dX7_undo_71 : decode cX7_undo 71 = .ok (.ireturn, 1) := by decide +kernel
theorem dX7_step_0 : decode cX7_step 0 = .ok (.aload_n 0, 1) := by decide +kernel
theorem dX7_step_1 : decode cX7_step 1 = .ok (.iload_n 1, 1) := by decide +kernel
theorem dX7_step_2 : decode cX7_step 2 = .ok (.iconst 0, 1) := by decide +kernel
theorem dX7_step_3 : decode cX7_step 3 = .ok (.bipush 48, 2) := by decide +kernel
theorem dX7_step_5 : decode cX7_step 5 = .ok (.invokestatic 51, 3) := by decide +kernel
theorem dX7_step_8 : decode cX7_step 8 = .ok (.ifCond .eq 7, 3) := by decide +kernel
theorem dX7_step_11 : decode cX7_step 11 = .ok (.iconst 0, 1) := by decide +kernel
theorem dX7_step_12 : decode cX7_step 12 = .ok (.goto 4, 3) := by decide +kernel
theorem dX7_step_15 : decode cX7_step 15 = .ok (.iconst 1, 1) := by decide +kernel
theorem dX7_step_16 : decode cX7_step 16 = .ok (.invokevirtual 97, 3) := by decide +kernel
theorem dX7_step_19 : decode cX7_step 19 = .ok (.ifCond .eq 12, 3) := by decide +kernel
theorem dX7_step_22 : decode cX7_step 22 = .ok (.aload_n 0, 1) := by decide +kernel
theorem dX7_step_23 : decode cX7_step 23 = .ok (.getfield 26, 3) := by decide +kernel
theorem dX7_step_26 : decode cX7_step 26 = .ok (.iload_n 1, 1) := by decide +kernel
theorem dX7_step_27 : decode cX7_step 27 = .ok (.iaload, 1) := by decide +kernel
theorem dX7_step_28 : decode cX7_step 28 = .ok (.goto 4, 3) := by decide +kernel
theorem dX7_step_31 : decode cX7_step 31 = .ok (.iconst 0, 1) := by decide +kernel
theorem dX7_step_32 : decode cX7_step 32 = .ok (.ireturn, 1) := by decide +kernel
theorem dX7_toldOfSample_0 : decode cX7_toldOfSample 0 = .ok (.iload_n 2, 1) := by decide +kernel
theorem dX7_toldOfSample_1 : decode cX7_toldOfSample 1 = .ok (.ifCond .ne 17, 3) := by decide +kernel
theorem dX7_toldOfSample_4 : decode cX7_toldOfSample 4 = .ok (.aload_n 0, 1) := by decide +kernel
theorem dX7_toldOfSample_5 : decode cX7_toldOfSample 5 = .ok (.getfield 7, 3) := by decide +kernel
theorem dX7_toldOfSample_8 : decode cX7_toldOfSample 8 = .ok (.bipush 7, 2) := by decide +kernel
theorem dX7_toldOfSample_10 : decode cX7_toldOfSample 10 = .ok (.iload_n 1, 1) := by decide +kernel
theorem dX7_toldOfSample_11 : decode cX7_toldOfSample 11 = .ok (.iadd, 1) := by decide +kernel
theorem dX7_toldOfSample_12 : decode cX7_toldOfSample 12 = .ok (.iaload, 1) := by decide +kernel
theorem dX7_toldOfSample_13 : decode cX7_toldOfSample 13 = .ok (.sipush 10000, 3) := by decide +kernel
theorem dX7_toldOfSample_16 : decode cX7_toldOfSample 16 = .ok (.iadd, 1) := by decide +kernel
theorem dX7_toldOfSample_17 : decode cX7_toldOfSample 17 = .ok (.ireturn, 1) := by decide +kernel
theorem dX7_toldOfSample_18 : decode cX7_toldOfSample 18 = .ok (.aload_n 0, 1) := by decide +kernel
theorem dX7_toldOfSample_19 : decode cX7_toldOfSample 19 = .ok (.invokevirtual 55, 3) := by decide +kernel
theorem dX7_toldOfSample_22 : decode cX7_toldOfSample 22 = .ok (.ifCond .ne 5, 3) := by decide +kernel
theorem dX7_toldOfSample_25 : decode cX7_toldOfSample 25 = .ok (.iconst (-1), 1) := by decide +kernel
theorem dX7_toldOfSample_26 : decode cX7_toldOfSample 26 = .ok (.ireturn, 1) := by decide +kernel
theorem dX7_toldOfSample_27 : decode cX7_toldOfSample 27 = .ok (.aload_n 0, 1) := by decide +kernel
theorem dX7_toldOfSample_28 : decode cX7_toldOfSample 28 = .ok (.invokevirtual 94, 3) := by decide +kernel
theorem dX7_toldOfSample_31 : decode cX7_toldOfSample 31 = .ok (.iload_n 2, 1) := by decide +kernel
theorem dX7_toldOfSample_32 : decode cX7_toldOfSample 32 = .ok (.tableswitch 112 1 4 #[32, 43, 58, 80], 32) := by decide +kernel
theorem dX7_toldOfSample_64 : decode cX7_toldOfSample 64 = .ok (.aload_n 0, 1) := by decide +kernel
theorem dX7_toldOfSample_65 : decode cX7_toldOfSample 65 = .ok (.getfield 29, 3) := by decide +kernel
theorem dX7_toldOfSample_68 : decode cX7_toldOfSample 68 = .ok (.iload_n 1, 1) := by decide +kernel
theorem dX7_toldOfSample_69 : decode cX7_toldOfSample 69 = .ok (.iaload, 1) := by decide +kernel
theorem dX7_toldOfSample_70 : decode cX7_toldOfSample 70 = .ok (.sipush 10000, 3) := by decide +kernel
theorem dX7_toldOfSample_73 : decode cX7_toldOfSample 73 = .ok (.iadd, 1) := by decide +kernel
theorem dX7_toldOfSample_74 : decode cX7_toldOfSample 74 = .ok (.ireturn, 1) := by decide +kernel
theorem dX7_toldOfSample_75 : decode cX7_toldOfSample 75 = .ok (.aload_n 0, 1) := by decide +kernel
theorem dX7_toldOfSample_76 : decode cX7_toldOfSample 76 = .ok (.getfield 7, 3) := by decide +kernel
theorem dX7_toldOfSample_79 : decode cX7_toldOfSample 79 = .ok (.sipush 135, 3) := by decide +kernel
theorem dX7_toldOfSample_82 : decode cX7_toldOfSample 82 = .ok (.iload_n 1, 1) := by decide +kernel
theorem dX7_toldOfSample_83 : decode cX7_toldOfSample 83 = .ok (.iadd, 1) := by decide +kernel
theorem dX7_toldOfSample_84 : decode cX7_toldOfSample 84 = .ok (.iaload, 1) := by decide +kernel
theorem dX7_toldOfSample_85 : decode cX7_toldOfSample 85 = .ok (.sipush 10000, 3) := by decide +kernel
theorem dX7_toldOfSample_88 : decode cX7_toldOfSample 88 = .ok (.iadd, 1) := by decide +kernel
theorem dX7_toldOfSample_89 : decode cX7_toldOfSample 89 = .ok (.ireturn, 1) := by decide +kernel
theorem dX7_toldOfSample_90 : decode cX7_toldOfSample 90 = .ok (.aload_n 0, 1) := by decide +kernel
theorem dX7_toldOfSample_91 : decode cX7_toldOfSample 91 = .ok (.iload_n 1, 1) := by decide +kernel
theorem dX7_toldOfSample_92 : decode cX7_toldOfSample 92 = .ok (.invokevirtual 122, 3) := by decide +kernel
theorem dX7_toldOfSample_95 : decode cX7_toldOfSample 95 = .ok (.ifCond .eq 15, 3) := by decide +kernel
theorem dX7_toldOfSample_98 : decode cX7_toldOfSample 98 = .ok (.aload_n 0, 1) := by decide +kernel
theorem dX7_toldOfSample_99 : decode cX7_toldOfSample 99 = .ok (.getfield 7, 3) := by decide +kernel
theorem dX7_toldOfSample_102 : decode cX7_toldOfSample 102 = .ok (.bipush 71, 2) := by decide +kernel
theorem dX7_toldOfSample_104 : decode cX7_toldOfSample 104 = .ok (.iload_n 1, 1) := by decide +kernel
theorem dX7_toldOfSample_105 : decode cX7_toldOfSample 105 = .ok (.iadd, 1) := by decide +kernel
theorem dX7_toldOfSample_106 : decode cX7_toldOfSample 106 = .ok (.iaload, 1) := by decide +kernel
theorem dX7_toldOfSample_107 : decode cX7_toldOfSample 107 = .ok (.goto 4, 3) := by decide +kernel
theorem dX7_toldOfSample_110 : decode cX7_toldOfSample 110 = .ok (.iconst (-1), 1) := by decide +kernel
theorem dX7_toldOfSample_111 : decode cX7_toldOfSample 111 = .ok (.ireturn, 1) := by decide +kernel
theorem dX7_toldOfSample_112 : decode cX7_toldOfSample 112 = .ok (.aload_n 0, 1) := by decide +kernel
theorem dX7_toldOfSample_113 : decode cX7_toldOfSample 113 = .ok (.getfield 7, 3) := by decide +kernel
theorem dX7_toldOfSample_116 : decode cX7_toldOfSample 116 = .ok (.sipush 263, 3) := by decide +kernel
theorem dX7_toldOfSample_119 : decode cX7_toldOfSample 119 = .ok (.iload_n 1, 1) := by decide +kernel
theorem dX7_toldOfSample_120 : decode cX7_toldOfSample 120 = .ok (.aload_n 0, 1) := by decide +kernel
theorem dX7_toldOfSample_121 : decode cX7_toldOfSample 121 = .ok (.getfield 7, 3) := by decide +kernel
theorem dX7_toldOfSample_124 : decode cX7_toldOfSample 124 = .ok (.iconst 2, 1) := by decide +kernel
theorem dX7_toldOfSample_125 : decode cX7_toldOfSample 125 = .ok (.iaload, 1) := by decide +kernel
theorem dX7_toldOfSample_126 : decode cX7_toldOfSample 126 = .ok (.idiv, 1) := by decide +kernel
theorem dX7_toldOfSample_127 : decode cX7_toldOfSample 127 = .ok (.iadd, 1) := by decide +kernel
theorem dX7_toldOfSample_128 : decode cX7_toldOfSample 128 = .ok (.iaload, 1) := by decide +kernel
theorem dX7_toldOfSample_129 : decode cX7_toldOfSample 129 = .ok (.iconst 1, 1) := by decide +kernel
theorem dX7_toldOfSample_130 : decode cX7_toldOfSample 130 = .ok (.if_icmp .ne 7, 3) := by decide +kernel
theorem dX7_toldOfSample_133 : decode cX7_toldOfSample 133 = .ok (.iconst (-1), 1) := by decide +kernel
theorem dX7_toldOfSample_134 : decode cX7_toldOfSample 134 = .ok (.goto 9, 3) := by decide +kernel
theorem dX7_toldOfSample_137 : decode cX7_toldOfSample 137 = .ok (.aload_n 0, 1) := by decide +kernel
theorem dX7_toldOfSample_138 : decode cX7_toldOfSample 138 = .ok (.getfield 32, 3) := by decide +kernel
theorem dX7_toldOfSample_141 : decode cX7_toldOfSample 141 = .ok (.iload_n 1, 1) := by decide +kernel
theorem dX7_toldOfSample_142 : decode cX7_toldOfSample 142 = .ok (.iaload, 1) := by decide +kernel
theorem dX7_toldOfSample_143 : decode cX7_toldOfSample 143 = .ok (.ireturn, 1) := by decide +kernel
theorem dX7_toldOfSample_144 : decode cX7_toldOfSample 144 = .ok (.aload_n 0, 1) := by decide +kernel
theorem dX7_toldOfSample_145 : decode cX7_toldOfSample 145 = .ok (.getfield 7, 3) := by decide +kernel
theorem dX7_toldOfSample_148 : decode cX7_toldOfSample 148 = .ok (.bipush 7, 2) := by decide +kernel
theorem dX7_toldOfSample_150 : decode cX7_toldOfSample 150 = .ok (.iload_n 1, 1) := by decide +kernel
theorem dX7_toldOfSample_151 : decode cX7_toldOfSample 151 = .ok (.iadd, 1) := by decide +kernel
theorem dX7_toldOfSample_152 : decode cX7_toldOfSample 152 = .ok (.iaload, 1) := by decide +kernel
theorem dX7_toldOfSample_153 : decode cX7_toldOfSample 153 = .ok (.aload_n 0, 1) := by decide +kernel
theorem dX7_toldOfSample_154 : decode cX7_toldOfSample 154 = .ok (.getfield 29, 3) := by decide +kernel
theorem dX7_toldOfSample_157 : decode cX7_toldOfSample 157 = .ok (.iload_n 1, 1) := by decide +kernel
theorem dX7_toldOfSample_158 : decode cX7_toldOfSample 158 = .ok (.iaload, 1) := by decide +kernel
theorem dX7_toldOfSample_159 : decode cX7_toldOfSample 159 = .ok (.isub, 1) := by decide +kernel
theorem dX7_toldOfSample_160 : decode cX7_toldOfSample 160 = .ok (.sipush 10000, 3) := by decide +kernel
theorem dX7_toldOfSample_163 : decode cX7_toldOfSample 163 = .ok (.iadd, 1) := by decide +kernel
theorem dX7_toldOfSample_164 : decode cX7_toldOfSample 164 = .ok (.ireturn, 1) := by decide +kernel
theorem dX7_sampleOf_0 : decode cX7_sampleOf 0 = .ok (.aload_n 0, 1) := by decide +kernel
theorem dX7_sampleOf_1 : decode cX7_sampleOf 1 = .ok (.aload_n 0, 1) := by decide +kernel
theorem dX7_sampleOf_2 : decode cX7_sampleOf 2 = .ok (.iload_n 1, 1) := by decide +kernel
theorem dX7_sampleOf_3 : decode cX7_sampleOf 3 = .ok (.invokevirtual 63, 3) := by decide +kernel
theorem dX7_sampleOf_6 : decode cX7_sampleOf 6 = .ok (.ifCond .ne 7, 3) := by decide +kernel
theorem dX7_sampleOf_9 : decode cX7_sampleOf 9 = .ok (.iconst 1, 1) := by decide +kernel
theorem dX7_sampleOf_10 : decode cX7_sampleOf 10 = .ok (.goto 17, 3) := by decide +kernel
theorem dX7_sampleOf_13 : decode cX7_sampleOf 13 = .ok (.iload_n 2, 1) := by decide +kernel
theorem dX7_sampleOf_14 : decode cX7_sampleOf 14 = .ok (.iconst 0, 1) := by decide +kernel
theorem dX7_sampleOf_15 : decode cX7_sampleOf 15 = .ok (.iconst 5, 1) := by decide +kernel
theorem dX7_sampleOf_16 : decode cX7_sampleOf 16 = .ok (.invokestatic 51, 3) := by decide +kernel
theorem dX7_sampleOf_19 : decode cX7_sampleOf 19 = .ok (.ifCond .ne 7, 3) := by decide +kernel
theorem dX7_sampleOf_22 : decode cX7_sampleOf 22 = .ok (.iconst 2, 1) := by decide +kernel
theorem dX7_sampleOf_23 : decode cX7_sampleOf 23 = .ok (.goto 4, 3) := by decide +kernel
theorem dX7_sampleOf_26 : decode cX7_sampleOf 26 = .ok (.iconst 0, 1) := by decide +kernel
theorem dX7_sampleOf_27 : decode cX7_sampleOf 27 = .ok (.invokevirtual 97, 3) := by decide +kernel
theorem dX7_sampleOf_30 : decode cX7_sampleOf 30 = .ok (.ifCond .eq 12, 3) := by decide +kernel
theorem dX7_sampleOf_33 : decode cX7_sampleOf 33 = .ok (.aload_n 0, 1) := by decide +kernel
theorem dX7_sampleOf_34 : decode cX7_sampleOf 34 = .ok (.iload_n 1, 1) := by decide +kernel
theorem dX7_sampleOf_35 : decode cX7_sampleOf 35 = .ok (.iload_n 2, 1) := by decide +kernel
theorem dX7_sampleOf_36 : decode cX7_sampleOf 36 = .ok (.invokevirtual 170, 3) := by decide +kernel
theorem dX7_sampleOf_39 : decode cX7_sampleOf 39 = .ok (.goto 4, 3) := by decide +kernel
theorem dX7_sampleOf_42 : decode cX7_sampleOf 42 = .ok (.iconst 0, 1) := by decide +kernel
theorem dX7_sampleOf_43 : decode cX7_sampleOf 43 = .ok (.ireturn, 1) := by decide +kernel
theorem dX7_toldOfBlock_0 : decode cX7_toldOfBlock 0 = .ok (.iload_n 1, 1) := by decide +kernel
theorem dX7_toldOfBlock_1 : decode cX7_toldOfBlock 1 = .ok (.aload_n 0, 1) := by decide +kernel
theorem dX7_toldOfBlock_2 : decode cX7_toldOfBlock 2 = .ok (.getfield 7, 3) := by decide +kernel
theorem dX7_toldOfBlock_5 : decode cX7_toldOfBlock 5 = .ok (.iconst 2, 1) := by decide +kernel
theorem dX7_toldOfBlock_6 : decode cX7_toldOfBlock 6 = .ok (.iaload, 1) := by decide +kernel
theorem dX7_toldOfBlock_7 : decode cX7_toldOfBlock 7 = .ok (.imul, 1) := by decide +kernel
theorem dX7_toldOfBlock_8 : decode cX7_toldOfBlock 8 = .ok (.istore_n 3, 1) := by decide +kernel
theorem dX7_toldOfBlock_9 : decode cX7_toldOfBlock 9 = .ok (.aload_n 0, 1) := by decide +kernel
theorem dX7_toldOfBlock_10 : decode cX7_toldOfBlock 10 = .ok (.invokevirtual 94, 3) := by decide +kernel
theorem dX7_toldOfBlock_13 : decode cX7_toldOfBlock 13 = .ok (.iload_n 2, 1) := by decide +kernel
theorem dX7_toldOfBlock_14 : decode cX7_toldOfBlock 14 = .ok (.tableswitch 90 0 4 #[34, 42, 57, 68, 79], 34) := by decide +kernel
theorem dX7_toldOfBlock_48 : decode cX7_toldOfBlock 48 = .ok (.aload_n 0, 1) := by decide +kernel
theorem dX7_toldOfBlock_49 : decode cX7_toldOfBlock 49 = .ok (.iload_n 1, 1) := by decide +kernel
theorem dX7_toldOfBlock_50 : decode cX7_toldOfBlock 50 = .ok (.invokevirtual 88, 3) := by decide +kernel
theorem dX7_toldOfBlock_53 : decode cX7_toldOfBlock 53 = .ok (.iload_n 3, 1) := by decide +kernel
theorem dX7_toldOfBlock_54 : decode cX7_toldOfBlock 54 = .ok (.isub, 1) := by decide +kernel
theorem dX7_toldOfBlock_55 : decode cX7_toldOfBlock 55 = .ok (.ireturn, 1) := by decide +kernel
theorem dX7_toldOfBlock_56 : decode cX7_toldOfBlock 56 = .ok (.aload_n 0, 1) := by decide +kernel
theorem dX7_toldOfBlock_57 : decode cX7_toldOfBlock 57 = .ok (.getfield 7, 3) := by decide +kernel
theorem dX7_toldOfBlock_60 : decode cX7_toldOfBlock 60 = .ok (.sipush 199, 3) := by decide +kernel
theorem dX7_toldOfBlock_63 : decode cX7_toldOfBlock 63 = .ok (.iload_n 1, 1) := by decide +kernel
theorem dX7_toldOfBlock_64 : decode cX7_toldOfBlock 64 = .ok (.iadd, 1) := by decide +kernel
theorem dX7_toldOfBlock_65 : decode cX7_toldOfBlock 65 = .ok (.iaload, 1) := by decide +kernel
theorem dX7_toldOfBlock_66 : decode cX7_toldOfBlock 66 = .ok (.sipush 10000, 3) := by decide +kernel
theorem dX7_toldOfBlock_69 : decode cX7_toldOfBlock 69 = .ok (.iadd, 1) := by decide +kernel
theorem dX7_toldOfBlock_70 : decode cX7_toldOfBlock 70 = .ok (.ireturn, 1) := by decide +kernel
theorem dX7_toldOfBlock_71 : decode cX7_toldOfBlock 71 = .ok (.aload_n 0, 1) := by decide +kernel
theorem dX7_toldOfBlock_72 : decode cX7_toldOfBlock 72 = .ok (.getfield 7, 3) := by decide +kernel
theorem dX7_toldOfBlock_75 : decode cX7_toldOfBlock 75 = .ok (.sipush 231, 3) := by decide +kernel
theorem dX7_toldOfBlock_78 : decode cX7_toldOfBlock 78 = .ok (.iload_n 1, 1) := by decide +kernel
theorem dX7_toldOfBlock_79 : decode cX7_toldOfBlock 79 = .ok (.iadd, 1) := by decide +kernel
theorem dX7_toldOfBlock_80 : decode cX7_toldOfBlock 80 = .ok (.iaload, 1) := by decide +kernel
theorem dX7_toldOfBlock_81 : decode cX7_toldOfBlock 81 = .ok (.ireturn, 1) := by decide +kernel
theorem dX7_toldOfBlock_82 : decode cX7_toldOfBlock 82 = .ok (.aload_n 0, 1) := by decide +kernel
theorem dX7_toldOfBlock_83 : decode cX7_toldOfBlock 83 = .ok (.getfield 7, 3) := by decide +kernel
theorem dX7_toldOfBlock_86 : decode cX7_toldOfBlock 86 = .ok (.sipush 263, 3) := by decide +kernel
theorem dX7_toldOfBlock_89 : decode cX7_toldOfBlock 89 = .ok (.iload_n 1, 1) := by decide +kernel
theorem dX7_toldOfBlock_90 : decode cX7_toldOfBlock 90 = .ok (.iadd, 1) := by decide +kernel
theorem dX7_toldOfBlock_91 : decode cX7_toldOfBlock 91 = .ok (.iaload, 1) := by decide +kernel
theorem dX7_toldOfBlock_92 : decode cX7_toldOfBlock 92 = .ok (.ireturn, 1) := by decide +kernel
theorem dX7_toldOfBlock_93 : decode cX7_toldOfBlock 93 = .ok (.aload_n 0, 1) := by decide +kernel
theorem dX7_toldOfBlock_94 : decode cX7_toldOfBlock 94 = .ok (.iload_n 3, 1) := by decide +kernel
theorem dX7_toldOfBlock_95 : decode cX7_toldOfBlock 95 = .ok (.aload_n 0, 1) := by decide +kernel
theorem dX7_toldOfBlock_96 : decode cX7_toldOfBlock 96 = .ok (.iload_n 1, 1) := by decide +kernel
theorem dX7_toldOfBlock_97 : decode cX7_toldOfBlock 97 = .ok (.invokevirtual 88, 3) := by decide +kernel
theorem dX7_toldOfBlock_100 : decode cX7_toldOfBlock 100 = .ok (.invokevirtual 173, 3) := by decide +kernel
theorem dX7_toldOfBlock_103 : decode cX7_toldOfBlock 103 = .ok (.ireturn, 1) := by decide +kernel
theorem dX7_toldOfBlock_104 : decode cX7_toldOfBlock 104 = .ok (.aload_n 0, 1) := by decide +kernel
theorem dX7_toldOfBlock_105 : decode cX7_toldOfBlock 105 = .ok (.getfield 35, 3) := by decide +kernel
theorem dX7_toldOfBlock_108 : decode cX7_toldOfBlock 108 = .ok (.iload_n 1, 1) := by decide +kernel
theorem dX7_toldOfBlock_109 : decode cX7_toldOfBlock 109 = .ok (.iaload, 1) := by decide +kernel
theorem dX7_toldOfBlock_110 : decode cX7_toldOfBlock 110 = .ok (.ireturn, 1) := by decide +kernel
theorem dX7_blockOf_0 : decode cX7_blockOf 0 = .ok (.aload_n 0, 1) := by decide +kernel
theorem dX7_blockOf_1 : decode cX7_blockOf 1 = .ok (.aload_n 0, 1) := by decide +kernel
theorem dX7_blockOf_2 : decode cX7_blockOf 2 = .ok (.iload_n 1, 1) := by decide +kernel
theorem dX7_blockOf_3 : decode cX7_blockOf 3 = .ok (.invokevirtual 116, 3) := by decide +kernel
theorem dX7_blockOf_6 : decode cX7_blockOf 6 = .ok (.ifCond .ne 7, 3) := by decide +kernel
theorem dX7_blockOf_9 : decode cX7_blockOf 9 = .ok (.iconst 1, 1) := by decide +kernel
theorem dX7_blockOf_10 : decode cX7_blockOf 10 = .ok (.goto 17, 3) := by decide +kernel
theorem dX7_blockOf_13 : decode cX7_blockOf 13 = .ok (.iload_n 2, 1) := by decide +kernel
theorem dX7_blockOf_14 : decode cX7_blockOf 14 = .ok (.iconst 0, 1) := by decide +kernel
theorem dX7_blockOf_15 : decode cX7_blockOf 15 = .ok (.iconst 5, 1) := by decide +kernel
theorem dX7_blockOf_16 : decode cX7_blockOf 16 = .ok (.invokestatic 51, 3) := by decide +kernel
theorem dX7_blockOf_19 : decode cX7_blockOf 19 = .ok (.ifCond .ne 7, 3) := by decide +kernel
theorem dX7_blockOf_22 : decode cX7_blockOf 22 = .ok (.iconst 2, 1) := by decide +kernel
theorem dX7_blockOf_23 : decode cX7_blockOf 23 = .ok (.goto 4, 3) := by decide +kernel
theorem dX7_blockOf_26 : decode cX7_blockOf 26 = .ok (.iconst 0, 1) := by decide +kernel
theorem dX7_blockOf_27 : decode cX7_blockOf 27 = .ok (.invokevirtual 97, 3) := by decide +kernel
theorem dX7_blockOf_30 : decode cX7_blockOf 30 = .ok (.ifCond .eq 12, 3) := by decide +kernel
theorem dX7_blockOf_33 : decode cX7_blockOf 33 = .ok (.aload_n 0, 1) := by decide +kernel
theorem dX7_blockOf_34 : decode cX7_blockOf 34 = .ok (.iload_n 1, 1) := by decide +kernel
theorem dX7_blockOf_35 : decode cX7_blockOf 35 = .ok (.iload_n 2, 1) := by decide +kernel
theorem dX7_blockOf_36 : decode cX7_blockOf 36 = .ok (.invokevirtual 176, 3) := by decide +kernel
theorem dX7_blockOf_39 : decode cX7_blockOf 39 = .ok (.goto 4, 3) := by decide +kernel
theorem dX7_blockOf_42 : decode cX7_blockOf 42 = .ok (.iconst 0, 1) := by decide +kernel
theorem dX7_blockOf_43 : decode cX7_blockOf 43 = .ok (.ireturn, 1) := by decide +kernel
theorem dX7_greatest_0 : decode cX7_greatest 0 = .ok (.iconst 0, 1) := by decide +kernel
theorem dX7_greatest_1 : decode cX7_greatest 1 = .ok (.istore_n 1, 1) := by decide +kernel
theorem dX7_greatest_2 : decode cX7_greatest 2 = .ok (.iconst 0, 1) := by decide +kernel
theorem dX7_greatest_3 : decode cX7_greatest 3 = .ok (.istore_n 2, 1) := by decide +kernel
theorem dX7_greatest_4 : decode cX7_greatest 4 = .ok (.iload_n 2, 1) := by decide +kernel
theorem dX7_greatest_5 : decode cX7_greatest 5 = .ok (.aload_n 0, 1) := by decide +kernel
theorem dX7_greatest_6 : decode cX7_greatest 6 = .ok (.getfield 7, 3) := by decide +kernel
theorem dX7_greatest_9 : decode cX7_greatest 9 = .ok (.iconst 0, 1) := by decide +kernel
theorem dX7_greatest_10 : decode cX7_greatest 10 = .ok (.iaload, 1) := by decide +kernel
theorem dX7_greatest_11 : decode cX7_greatest 11 = .ok (.if_icmp .ge 74, 3) := by decide +kernel
theorem dX7_greatest_14 : decode cX7_greatest 14 = .ok (.aload_n 0, 1) := by decide +kernel
theorem dX7_greatest_15 : decode cX7_greatest 15 = .ok (.getfield 7, 3) := by decide +kernel
theorem dX7_greatest_18 : decode cX7_greatest 18 = .ok (.bipush 7, 2) := by decide +kernel
theorem dX7_greatest_20 : decode cX7_greatest 20 = .ok (.iload_n 2, 1) := by decide +kernel
theorem dX7_greatest_21 : decode cX7_greatest 21 = .ok (.iadd, 1) := by decide +kernel
theorem dX7_greatest_22 : decode cX7_greatest 22 = .ok (.iaload, 1) := by decide +kernel
theorem dX7_greatest_23 : decode cX7_greatest 23 = .ok (.aload_n 0, 1) := by decide +kernel
theorem dX7_greatest_24 : decode cX7_greatest 24 = .ok (.getfield 29, 3) := by decide +kernel
theorem dX7_greatest_27 : decode cX7_greatest 27 = .ok (.iload_n 2, 1) := by decide +kernel
theorem dX7_greatest_28 : decode cX7_greatest 28 = .ok (.iaload, 1) := by decide +kernel
theorem dX7_greatest_29 : decode cX7_greatest 29 = .ok (.if_icmp .ge 22, 3) := by decide +kernel
theorem dX7_greatest_32 : decode cX7_greatest 32 = .ok (.aload_n 0, 1) := by decide +kernel
theorem dX7_greatest_33 : decode cX7_greatest 33 = .ok (.getfield 29, 3) := by decide +kernel
theorem dX7_greatest_36 : decode cX7_greatest 36 = .ok (.iload_n 2, 1) := by decide +kernel
theorem dX7_greatest_37 : decode cX7_greatest 37 = .ok (.iaload, 1) := by decide +kernel
theorem dX7_greatest_38 : decode cX7_greatest 38 = .ok (.aload_n 0, 1) := by decide +kernel
theorem dX7_greatest_39 : decode cX7_greatest 39 = .ok (.getfield 7, 3) := by decide +kernel
theorem dX7_greatest_42 : decode cX7_greatest 42 = .ok (.bipush 7, 2) := by decide +kernel
theorem dX7_greatest_44 : decode cX7_greatest 44 = .ok (.iload_n 2, 1) := by decide +kernel
theorem dX7_greatest_45 : decode cX7_greatest 45 = .ok (.iadd, 1) := by decide +kernel
theorem dX7_greatest_46 : decode cX7_greatest 46 = .ok (.iaload, 1) := by decide +kernel
theorem dX7_greatest_47 : decode cX7_greatest 47 = .ok (.isub, 1) := by decide +kernel
theorem dX7_greatest_48 : decode cX7_greatest 48 = .ok (.goto 19, 3) := by decide +kernel
theorem dX7_greatest_51 : decode cX7_greatest 51 = .ok (.aload_n 0, 1) := by decide +kernel
theorem dX7_greatest_52 : decode cX7_greatest 52 = .ok (.getfield 7, 3) := by decide +kernel
theorem dX7_greatest_55 : decode cX7_greatest 55 = .ok (.bipush 7, 2) := by decide +kernel
theorem dX7_greatest_57 : decode cX7_greatest 57 = .ok (.iload_n 2, 1) := by decide +kernel
theorem dX7_greatest_58 : decode cX7_greatest 58 = .ok (.iadd, 1) := by decide +kernel
theorem dX7_greatest_59 : decode cX7_greatest 59 = .ok (.iaload, 1) := by decide +kernel
theorem dX7_greatest_60 : decode cX7_greatest 60 = .ok (.aload_n 0, 1) := by decide +kernel
theorem dX7_greatest_61 : decode cX7_greatest 61 = .ok (.getfield 29, 3) := by decide +kernel
theorem dX7_greatest_64 : decode cX7_greatest 64 = .ok (.iload_n 2, 1) := by decide +kernel
theorem dX7_greatest_65 : decode cX7_greatest 65 = .ok (.iaload, 1) := by decide +kernel
theorem dX7_greatest_66 : decode cX7_greatest 66 = .ok (.isub, 1) := by decide +kernel
theorem dX7_greatest_67 : decode cX7_greatest 67 = .ok (.istore_n 3, 1) := by decide +kernel
theorem dX7_greatest_68 : decode cX7_greatest 68 = .ok (.iload_n 3, 1) := by decide +kernel
theorem dX7_greatest_69 : decode cX7_greatest 69 = .ok (.iload_n 1, 1) := by decide +kernel
theorem dX7_greatest_70 : decode cX7_greatest 70 = .ok (.if_icmp .le 7, 3) := by decide +kernel
theorem dX7_greatest_73 : decode cX7_greatest 73 = .ok (.iload_n 3, 1) := by decide +kernel
theorem dX7_greatest_74 : decode cX7_greatest 74 = .ok (.goto 4, 3) := by decide +kernel
theorem dX7_greatest_77 : decode cX7_greatest 77 = .ok (.iload_n 1, 1) := by decide +kernel
theorem dX7_greatest_78 : decode cX7_greatest 78 = .ok (.istore_n 1, 1) := by decide +kernel
theorem dX7_greatest_79 : decode cX7_greatest 79 = .ok (.iinc 2 1, 3) := by decide +kernel
theorem dX7_greatest_82 : decode cX7_greatest 82 = .ok (.goto (-78), 3) := by decide +kernel
theorem dX7_greatest_85 : decode cX7_greatest 85 = .ok (.iload_n 1, 1) := by decide +kernel
theorem dX7_greatest_86 : decode cX7_greatest 86 = .ok (.ireturn, 1) := by decide +kernel
theorem dX7_alike_0 : decode cX7_alike 0 = .ok (.iconst 0, 1) := by decide +kernel
theorem dX7_alike_1 : decode cX7_alike 1 = .ok (.istore_n 1, 1) := by decide +kernel
theorem dX7_alike_2 : decode cX7_alike 2 = .ok (.iconst 0, 1) := by decide +kernel
theorem dX7_alike_3 : decode cX7_alike 3 = .ok (.istore_n 2, 1) := by decide +kernel
theorem dX7_alike_4 : decode cX7_alike 4 = .ok (.iload_n 2, 1) := by decide +kernel
theorem dX7_alike_5 : decode cX7_alike 5 = .ok (.aload_n 0, 1) := by decide +kernel
theorem dX7_alike_6 : decode cX7_alike 6 = .ok (.getfield 7, 3) := by decide +kernel
theorem dX7_alike_9 : decode cX7_alike 9 = .ok (.iconst 0, 1) := by decide +kernel
theorem dX7_alike_10 : decode cX7_alike 10 = .ok (.iaload, 1) := by decide +kernel
theorem dX7_alike_11 : decode cX7_alike 11 = .ok (.if_icmp .ge 35, 3) := by decide +kernel
theorem dX7_alike_14 : decode cX7_alike 14 = .ok (.iload_n 1, 1) := by decide +kernel
theorem dX7_alike_15 : decode cX7_alike 15 = .ok (.aload_n 0, 1) := by decide +kernel
theorem dX7_alike_16 : decode cX7_alike 16 = .ok (.getfield 7, 3) := by decide +kernel
theorem dX7_alike_19 : decode cX7_alike 19 = .ok (.bipush 7, 2) := by decide +kernel
theorem dX7_alike_21 : decode cX7_alike 21 = .ok (.iload_n 2, 1) := by decide +kernel
theorem dX7_alike_22 : decode cX7_alike 22 = .ok (.iadd, 1) := by decide +kernel
theorem dX7_alike_23 : decode cX7_alike 23 = .ok (.iaload, 1) := by decide +kernel
theorem dX7_alike_24 : decode cX7_alike 24 = .ok (.aload_n 0, 1) := by decide +kernel
theorem dX7_alike_25 : decode cX7_alike 25 = .ok (.getfield 29, 3) := by decide +kernel
theorem dX7_alike_28 : decode cX7_alike 28 = .ok (.iload_n 2, 1) := by decide +kernel
theorem dX7_alike_29 : decode cX7_alike 29 = .ok (.iaload, 1) := by decide +kernel
theorem dX7_alike_30 : decode cX7_alike 30 = .ok (.if_icmp .ne 7, 3) := by decide +kernel
theorem dX7_alike_33 : decode cX7_alike 33 = .ok (.iconst 1, 1) := by decide +kernel
theorem dX7_alike_34 : decode cX7_alike 34 = .ok (.goto 4, 3) := by decide +kernel
theorem dX7_alike_37 : decode cX7_alike 37 = .ok (.iconst 0, 1) := by decide +kernel
theorem dX7_alike_38 : decode cX7_alike 38 = .ok (.iadd, 1) := by decide +kernel
theorem dX7_alike_39 : decode cX7_alike 39 = .ok (.istore_n 1, 1) := by decide +kernel
theorem dX7_alike_40 : decode cX7_alike 40 = .ok (.iinc 2 1, 3) := by decide +kernel
theorem dX7_alike_43 : decode cX7_alike 43 = .ok (.goto (-39), 3) := by decide +kernel
theorem dX7_alike_46 : decode cX7_alike 46 = .ok (.iload_n 1, 1) := by decide +kernel
theorem dX7_alike_47 : decode cX7_alike 47 = .ok (.ireturn, 1) := by decide +kernel
theorem dX7_errorOfAll_0 : decode cX7_errorOfAll 0 = .ok (.aload_n 0, 1) := by decide +kernel
theorem dX7_errorOfAll_1 : decode cX7_errorOfAll 1 = .ok (.invokevirtual 94, 3) := by decide +kernel
theorem dX7_errorOfAll_4 : decode cX7_errorOfAll 4 = .ok (.aload_n 0, 1) := by decide +kernel
theorem dX7_errorOfAll_5 : decode cX7_errorOfAll 5 = .ok (.iconst 0, 1) := by decide +kernel
theorem dX7_errorOfAll_6 : decode cX7_errorOfAll 6 = .ok (.aload_n 0, 1) := by decide +kernel
theorem dX7_errorOfAll_7 : decode cX7_errorOfAll 7 = .ok (.getfield 7, 3) := by decide +kernel
theorem dX7_errorOfAll_10 : decode cX7_errorOfAll 10 = .ok (.iconst 0, 1) := by decide +kernel
theorem dX7_errorOfAll_11 : decode cX7_errorOfAll 11 = .ok (.iaload, 1) := by decide +kernel
theorem dX7_errorOfAll_12 : decode cX7_errorOfAll 12 = .ok (.invokevirtual 173, 3) := by decide +kernel
theorem dX7_errorOfAll_15 : decode cX7_errorOfAll 15 = .ok (.ireturn, 1) := by decide +kernel
theorem dX7_counted_0 : decode cX7_counted 0 = .ok (.iload_n 1, 1) := by decide +kernel
theorem dX7_counted_1 : decode cX7_counted 1 = .ok (.iconst 4, 1) := by decide +kernel
theorem dX7_counted_2 : decode cX7_counted 2 = .ok (.bipush 8, 2) := by decide +kernel
theorem dX7_counted_4 : decode cX7_counted 4 = .ok (.invokestatic 51, 3) := by decide +kernel
theorem dX7_counted_7 : decode cX7_counted 7 = .ok (.ifCond .eq 12, 3) := by decide +kernel
theorem dX7_counted_10 : decode cX7_counted 10 = .ok (.aload_n 0, 1) := by decide +kernel
theorem dX7_counted_11 : decode cX7_counted 11 = .ok (.invokevirtual 55, 3) := by decide +kernel
theorem dX7_counted_14 : decode cX7_counted 14 = .ok (.ifCond .ne 5, 3) := by decide +kernel
theorem dX7_counted_17 : decode cX7_counted 17 = .ok (.iconst 0, 1) := by decide +kernel
theorem dX7_counted_18 : decode cX7_counted 18 = .ok (.ireturn, 1) := by decide +kernel
theorem dX7_counted_19 : decode cX7_counted 19 = .ok (.iload_n 1, 1) := by decide +kernel
theorem dX7_counted_20 : decode cX7_counted 20 = .ok (.tableswitch 144 0 10 #[60, 67, 74, 79, 84, 84, 89, 98, 107, 129, 136], 60) := by decide +kernel
theorem dX7_counted_80 : decode cX7_counted 80 = .ok (.aload_n 0, 1) := by decide +kernel
theorem dX7_counted_81 : decode cX7_counted 81 = .ok (.getfield 7, 3) := by decide +kernel
theorem dX7_counted_84 : decode cX7_counted 84 = .ok (.iconst 0, 1) := by decide +kernel
theorem dX7_counted_85 : decode cX7_counted 85 = .ok (.iaload, 1) := by decide +kernel
theorem dX7_counted_86 : decode cX7_counted 86 = .ok (.ireturn, 1) := by decide +kernel
theorem dX7_counted_87 : decode cX7_counted 87 = .ok (.aload_n 0, 1) := by decide +kernel
theorem dX7_counted_88 : decode cX7_counted 88 = .ok (.getfield 7, 3) := by decide +kernel
theorem dX7_counted_91 : decode cX7_counted 91 = .ok (.iconst 1, 1) := by decide +kernel
theorem dX7_counted_92 : decode cX7_counted 92 = .ok (.iaload, 1) := by decide +kernel
theorem dX7_counted_93 : decode cX7_counted 93 = .ok (.ireturn, 1) := by decide +kernel
theorem dX7_counted_94 : decode cX7_counted 94 = .ok (.aload_n 0, 1) := by decide +kernel
theorem dX7_counted_95 : decode cX7_counted 95 = .ok (.invokevirtual 59, 3) := by decide +kernel
theorem dX7_counted_98 : decode cX7_counted 98 = .ok (.ireturn, 1) := by decide +kernel
theorem dX7_counted_99 : decode cX7_counted 99 = .ok (.aload_n 0, 1) := by decide +kernel
theorem dX7_counted_100 : decode cX7_counted 100 = .ok (.invokevirtual 119, 3) := by decide +kernel
theorem dX7_counted_103 : decode cX7_counted 103 = .ok (.ireturn, 1) := by decide +kernel
theorem dX7_counted_104 : decode cX7_counted 104 = .ok (.aload_n 0, 1) := by decide +kernel
theorem dX7_counted_105 : decode cX7_counted 105 = .ok (.invokevirtual 179, 3) := by decide +kernel
theorem dX7_counted_108 : decode cX7_counted 108 = .ok (.ireturn, 1) := by decide +kernel
theorem dX7_counted_109 : decode cX7_counted 109 = .ok (.aload_n 0, 1) := by decide +kernel
theorem dX7_counted_110 : decode cX7_counted 110 = .ok (.invokevirtual 94, 3) := by decide +kernel
theorem dX7_counted_113 : decode cX7_counted 113 = .ok (.aload_n 0, 1) := by decide +kernel
theorem dX7_counted_114 : decode cX7_counted 114 = .ok (.invokevirtual 182, 3) := by decide +kernel
theorem dX7_counted_117 : decode cX7_counted 117 = .ok (.ireturn, 1) := by decide +kernel
theorem dX7_counted_118 : decode cX7_counted 118 = .ok (.aload_n 0, 1) := by decide +kernel
theorem dX7_counted_119 : decode cX7_counted 119 = .ok (.invokevirtual 94, 3) := by decide +kernel
theorem dX7_counted_122 : decode cX7_counted 122 = .ok (.aload_n 0, 1) := by decide +kernel
theorem dX7_counted_123 : decode cX7_counted 123 = .ok (.invokevirtual 185, 3) := by decide +kernel
theorem dX7_counted_126 : decode cX7_counted 126 = .ok (.ireturn, 1) := by decide +kernel
theorem dX7_counted_127 : decode cX7_counted 127 = .ok (.bipush 18, 2) := by decide +kernel
theorem dX7_counted_129 : decode cX7_counted 129 = .ok (.aload_n 0, 1) := by decide +kernel
theorem dX7_counted_130 : decode cX7_counted 130 = .ok (.invokevirtual 59, 3) := by decide +kernel
theorem dX7_counted_133 : decode cX7_counted 133 = .ok (.imul, 1) := by decide +kernel
theorem dX7_counted_134 : decode cX7_counted 134 = .ok (.iconst 4, 1) := by decide +kernel
theorem dX7_counted_135 : decode cX7_counted 135 = .ok (.aload_n 0, 1) := by decide +kernel
theorem dX7_counted_136 : decode cX7_counted 136 = .ok (.getfield 7, 3) := by decide +kernel
theorem dX7_counted_139 : decode cX7_counted 139 = .ok (.iconst 0, 1) := by decide +kernel
theorem dX7_counted_140 : decode cX7_counted 140 = .ok (.iaload, 1) := by decide +kernel
theorem dX7_counted_141 : decode cX7_counted 141 = .ok (.aload_n 0, 1) := by decide +kernel
theorem dX7_counted_142 : decode cX7_counted 142 = .ok (.invokevirtual 59, 3) := by decide +kernel
theorem dX7_counted_145 : decode cX7_counted 145 = .ok (.isub, 1) := by decide +kernel
theorem dX7_counted_146 : decode cX7_counted 146 = .ok (.imul, 1) := by decide +kernel
theorem dX7_counted_147 : decode cX7_counted 147 = .ok (.iadd, 1) := by decide +kernel
theorem dX7_counted_148 : decode cX7_counted 148 = .ok (.ireturn, 1) := by decide +kernel
theorem dX7_counted_149 : decode cX7_counted 149 = .ok (.aload_n 0, 1) := by decide +kernel
theorem dX7_counted_150 : decode cX7_counted 150 = .ok (.getfield 7, 3) := by decide +kernel
theorem dX7_counted_153 : decode cX7_counted 153 = .ok (.iconst 5, 1) := by decide +kernel
theorem dX7_counted_154 : decode cX7_counted 154 = .ok (.iaload, 1) := by decide +kernel
theorem dX7_counted_155 : decode cX7_counted 155 = .ok (.ireturn, 1) := by decide +kernel
theorem dX7_counted_156 : decode cX7_counted 156 = .ok (.aload_n 0, 1) := by decide +kernel
theorem dX7_counted_157 : decode cX7_counted 157 = .ok (.getfield 7, 3) := by decide +kernel
theorem dX7_counted_160 : decode cX7_counted 160 = .ok (.bipush 6, 2) := by decide +kernel
theorem dX7_counted_162 : decode cX7_counted 162 = .ok (.iaload, 1) := by decide +kernel
theorem dX7_counted_163 : decode cX7_counted 163 = .ok (.ireturn, 1) := by decide +kernel
theorem dX7_counted_164 : decode cX7_counted 164 = .ok (.aload_n 0, 1) := by decide +kernel
theorem dX7_counted_165 : decode cX7_counted 165 = .ok (.getfield 48, 3) := by decide +kernel
theorem dX7_counted_168 : decode cX7_counted 168 = .ok (.ireturn, 1) := by decide +kernel
theorem dX7_count_0 : decode cX7_count 0 = .ok (.aload_n 0, 1) := by decide +kernel
theorem dX7_count_1 : decode cX7_count 1 = .ok (.iload_n 1, 1) := by decide +kernel
theorem dX7_count_2 : decode cX7_count 2 = .ok (.iconst 0, 1) := by decide +kernel
theorem dX7_count_3 : decode cX7_count 3 = .ok (.bipush 11, 2) := by decide +kernel
theorem dX7_count_5 : decode cX7_count 5 = .ok (.invokestatic 51, 3) := by decide +kernel
theorem dX7_count_8 : decode cX7_count 8 = .ok (.ifCond .eq 7, 3) := by decide +kernel
theorem dX7_count_11 : decode cX7_count 11 = .ok (.iconst 0, 1) := by decide +kernel
theorem dX7_count_12 : decode cX7_count 12 = .ok (.goto 4, 3) := by decide +kernel
theorem dX7_count_15 : decode cX7_count 15 = .ok (.iconst 1, 1) := by decide +kernel
theorem dX7_count_16 : decode cX7_count 16 = .ok (.invokevirtual 97, 3) := by decide +kernel
theorem dX7_count_19 : decode cX7_count 19 = .ok (.ifCond .eq 11, 3) := by decide +kernel
theorem dX7_count_22 : decode cX7_count 22 = .ok (.aload_n 0, 1) := by decide +kernel
theorem dX7_count_23 : decode cX7_count 23 = .ok (.iload_n 1, 1) := by decide +kernel
theorem dX7_count_24 : decode cX7_count 24 = .ok (.invokevirtual 188, 3) := by decide +kernel
theorem dX7_count_27 : decode cX7_count 27 = .ok (.goto 4, 3) := by decide +kernel
theorem dX7_count_30 : decode cX7_count 30 = .ok (.iconst 0, 1) := by decide +kernel
theorem dX7_count_31 : decode cX7_count 31 = .ok (.ireturn, 1) := by decide +kernel
theorem dX7_setting_0 : decode cX7_setting 0 = .ok (.aload_n 0, 1) := by decide +kernel
theorem dX7_setting_1 : decode cX7_setting 1 = .ok (.iload_n 1, 1) := by decide +kernel
theorem dX7_setting_2 : decode cX7_setting 2 = .ok (.iconst 0, 1) := by decide +kernel
theorem dX7_setting_3 : decode cX7_setting 3 = .ok (.iconst 2, 1) := by decide +kernel
theorem dX7_setting_4 : decode cX7_setting 4 = .ok (.invokestatic 51, 3) := by decide +kernel
theorem dX7_setting_7 : decode cX7_setting 7 = .ok (.ifCond .eq 7, 3) := by decide +kernel
theorem dX7_setting_10 : decode cX7_setting 10 = .ok (.iconst 0, 1) := by decide +kernel
theorem dX7_setting_11 : decode cX7_setting 11 = .ok (.goto 4, 3) := by decide +kernel
theorem dX7_setting_14 : decode cX7_setting 14 = .ok (.iconst 1, 1) := by decide +kernel
theorem dX7_setting_15 : decode cX7_setting 15 = .ok (.invokevirtual 97, 3) := by decide +kernel
theorem dX7_setting_18 : decode cX7_setting 18 = .ok (.ifCond .eq 14, 3) := by decide +kernel
theorem dX7_setting_21 : decode cX7_setting 21 = .ok (.aload_n 0, 1) := by decide +kernel
theorem dX7_setting_22 : decode cX7_setting 22 = .ok (.getfield 7, 3) := by decide +kernel
theorem dX7_setting_25 : decode cX7_setting 25 = .ok (.iconst 2, 1) := by decide +kernel
theorem dX7_setting_26 : decode cX7_setting 26 = .ok (.iload_n 1, 1) := by decide +kernel
theorem dX7_setting_27 : decode cX7_setting 27 = .ok (.iadd, 1) := by decide +kernel
theorem dX7_setting_28 : decode cX7_setting 28 = .ok (.iaload, 1) := by decide +kernel
theorem dX7_setting_29 : decode cX7_setting 29 = .ok (.goto 4, 3) := by decide +kernel
theorem dX7_setting_32 : decode cX7_setting 32 = .ok (.iconst 0, 1) := by decide +kernel
theorem dX7_setting_33 : decode cX7_setting 33 = .ok (.ireturn, 1) := by decide +kernel
theorem dX7_ifCoded_0 : decode cX7_ifCoded 0 = .ok (.iload_n 1, 1) := by decide +kernel
theorem dX7_ifCoded_1 : decode cX7_ifCoded 1 = .ok (.sipush (-2048), 3) := by decide +kernel
theorem dX7_ifCoded_4 : decode cX7_ifCoded 4 = .ok (.sipush 2047, 3) := by decide +kernel
theorem dX7_ifCoded_7 : decode cX7_ifCoded 7 = .ok (.invokestatic 51, 3) := by decide +kernel
theorem dX7_ifCoded_10 : decode cX7_ifCoded 10 = .ok (.ifCond .eq 40, 3) := by decide +kernel
theorem dX7_ifCoded_13 : decode cX7_ifCoded 13 = .ok (.iload_n 2, 1) := by decide +kernel
theorem dX7_ifCoded_14 : decode cX7_ifCoded 14 = .ok (.iconst 0, 1) := by decide +kernel
theorem dX7_ifCoded_15 : decode cX7_ifCoded 15 = .ok (.bipush 48, 2) := by decide +kernel
theorem dX7_ifCoded_17 : decode cX7_ifCoded 17 = .ok (.invokestatic 51, 3) := by decide +kernel
theorem dX7_ifCoded_20 : decode cX7_ifCoded 20 = .ok (.ifCond .eq 30, 3) := by decide +kernel
theorem dX7_ifCoded_23 : decode cX7_ifCoded 23 = .ok (.iload_n 3, 1) := by decide +kernel
theorem dX7_ifCoded_24 : decode cX7_ifCoded 24 = .ok (.sipush (-2048), 3) := by decide +kernel
theorem dX7_ifCoded_27 : decode cX7_ifCoded 27 = .ok (.sipush 2047, 3) := by decide +kernel
theorem dX7_ifCoded_30 : decode cX7_ifCoded 30 = .ok (.invokestatic 51, 3) := by decide +kernel
theorem dX7_ifCoded_33 : decode cX7_ifCoded 33 = .ok (.ifCond .eq 17, 3) := by decide +kernel
theorem dX7_ifCoded_36 : decode cX7_ifCoded 36 = .ok (.iload 4, 2) := by decide +kernel
theorem dX7_ifCoded_38 : decode cX7_ifCoded 38 = .ok (.iconst 0, 1) := by decide +kernel
theorem dX7_ifCoded_39 : decode cX7_ifCoded 39 = .ok (.iconst 2, 1) := by decide +kernel
theorem dX7_ifCoded_40 : decode cX7_ifCoded 40 = .ok (.invokestatic 51, 3) := by decide +kernel
theorem dX7_ifCoded_43 : decode cX7_ifCoded 43 = .ok (.ifCond .eq 7, 3) := by decide +kernel
theorem dX7_ifCoded_46 : decode cX7_ifCoded 46 = .ok (.iconst 1, 1) := by decide +kernel
theorem dX7_ifCoded_47 : decode cX7_ifCoded 47 = .ok (.goto 4, 3) := by decide +kernel
theorem dX7_ifCoded_50 : decode cX7_ifCoded 50 = .ok (.iconst 0, 1) := by decide +kernel
theorem dX7_ifCoded_51 : decode cX7_ifCoded 51 = .ok (.istore 5, 2) := by decide +kernel
theorem dX7_ifCoded_53 : decode cX7_ifCoded 53 = .ok (.aload_n 0, 1) := by decide +kernel
theorem dX7_ifCoded_54 : decode cX7_ifCoded 54 = .ok (.iload 5, 2) := by decide +kernel
theorem dX7_ifCoded_56 : decode cX7_ifCoded 56 = .ok (.ifCond .eq 7, 3) := by decide +kernel
theorem dX7_ifCoded_59 : decode cX7_ifCoded 59 = .ok (.iconst 0, 1) := by decide +kernel
theorem dX7_ifCoded_60 : decode cX7_ifCoded 60 = .ok (.goto 4, 3) := by decide +kernel
theorem dX7_ifCoded_63 : decode cX7_ifCoded 63 = .ok (.iconst 1, 1) := by decide +kernel
theorem dX7_ifCoded_64 : decode cX7_ifCoded 64 = .ok (.invokevirtual 97, 3) := by decide +kernel
theorem dX7_ifCoded_67 : decode cX7_ifCoded 67 = .ok (.ifCond .ne 5, 3) := by decide +kernel
theorem dX7_ifCoded_70 : decode cX7_ifCoded 70 = .ok (.iconst 0, 1) := by decide +kernel
theorem dX7_ifCoded_71 : decode cX7_ifCoded 71 = .ok (.ireturn, 1) := by decide +kernel
theorem dX7_ifCoded_72 : decode cX7_ifCoded 72 = .ok (.aload_n 0, 1) := by decide +kernel
theorem dX7_ifCoded_73 : decode cX7_ifCoded 73 = .ok (.iload_n 1, 1) := by decide +kernel
theorem dX7_ifCoded_74 : decode cX7_ifCoded 74 = .ok (.iload_n 2, 1) := by decide +kernel
theorem dX7_ifCoded_75 : decode cX7_ifCoded 75 = .ok (.iload_n 3, 1) := by decide +kernel
theorem dX7_ifCoded_76 : decode cX7_ifCoded 76 = .ok (.invokevirtual 71, 3) := by decide +kernel
theorem dX7_ifCoded_79 : decode cX7_ifCoded 79 = .ok (.istore 6, 2) := by decide +kernel
theorem dX7_ifCoded_81 : decode cX7_ifCoded 81 = .ok (.iload 4, 2) := by decide +kernel
theorem dX7_ifCoded_83 : decode cX7_ifCoded 83 = .ok (.ifCond .ne 8, 3) := by decide +kernel
theorem dX7_ifCoded_86 : decode cX7_ifCoded 86 = .ok (.iload 6, 2) := by decide +kernel
theorem dX7_ifCoded_88 : decode cX7_ifCoded 88 = .ok (.goto 30, 3) := by decide +kernel
theorem dX7_ifCoded_91 : decode cX7_ifCoded 91 = .ok (.iload 4, 2) := by decide +kernel
theorem dX7_ifCoded_93 : decode cX7_ifCoded 93 = .ok (.iconst 1, 1) := by decide +kernel
theorem dX7_ifCoded_94 : decode cX7_ifCoded 94 = .ok (.if_icmp .ne 18, 3) := by decide +kernel
theorem dX7_ifCoded_97 : decode cX7_ifCoded 97 = .ok (.aload_n 0, 1) := by decide +kernel
theorem dX7_ifCoded_98 : decode cX7_ifCoded 98 = .ok (.iload_n 1, 1) := by decide +kernel
theorem dX7_ifCoded_99 : decode cX7_ifCoded 99 = .ok (.iload_n 2, 1) := by decide +kernel
theorem dX7_ifCoded_100 : decode cX7_ifCoded 100 = .ok (.iload 6, 2) := by decide +kernel
theorem dX7_ifCoded_102 : decode cX7_ifCoded 102 = .ok (.invokevirtual 75, 3) := by decide +kernel
theorem dX7_ifCoded_105 : decode cX7_ifCoded 105 = .ok (.sipush 10000, 3) := by decide +kernel
theorem dX7_ifCoded_108 : decode cX7_ifCoded 108 = .ok (.iadd, 1) := by decide +kernel
theorem dX7_ifCoded_109 : decode cX7_ifCoded 109 = .ok (.goto 9, 3) := by decide +kernel
theorem dX7_ifCoded_112 : decode cX7_ifCoded 112 = .ok (.iload_n 2, 1) := by decide +kernel
theorem dX7_ifCoded_113 : decode cX7_ifCoded 113 = .ok (.iload 6, 2) := by decide +kernel
theorem dX7_ifCoded_115 : decode cX7_ifCoded 115 = .ok (.invokestatic 78, 3) := by decide +kernel
theorem dX7_ifCoded_118 : decode cX7_ifCoded 118 = .ok (.ireturn, 1) := by decide +kernel
theorem dX7_areSamples_0 : decode cX7_areSamples 0 = .ok (.aload_n 0, 1) := by decide +kernel
theorem dX7_areSamples_1 : decode cX7_areSamples 1 = .ok (.iload_n 1, 1) := by decide +kernel
theorem dX7_areSamples_2 : decode cX7_areSamples 2 = .ok (.invokevirtual 63, 3) := by decide +kernel
theorem dX7_areSamples_5 : decode cX7_areSamples 5 = .ok (.ifCond .eq 23, 3) := by decide +kernel
theorem dX7_areSamples_8 : decode cX7_areSamples 8 = .ok (.iload_n 2, 1) := by decide +kernel
theorem dX7_areSamples_9 : decode cX7_areSamples 9 = .ok (.iconst 1, 1) := by decide +kernel
theorem dX7_areSamples_10 : decode cX7_areSamples 10 = .ok (.aload_n 0, 1) := by decide +kernel
theorem dX7_areSamples_11 : decode cX7_areSamples 11 = .ok (.getfield 7, 3) := by decide +kernel
theorem dX7_areSamples_14 : decode cX7_areSamples 14 = .ok (.iconst 0, 1) := by decide +kernel
theorem dX7_areSamples_15 : decode cX7_areSamples 15 = .ok (.iaload, 1) := by decide +kernel
theorem dX7_areSamples_16 : decode cX7_areSamples 16 = .ok (.iload_n 1, 1) := by decide +kernel
theorem dX7_areSamples_17 : decode cX7_areSamples 17 = .ok (.isub, 1) := by decide +kernel
theorem dX7_areSamples_18 : decode cX7_areSamples 18 = .ok (.invokestatic 51, 3) := by decide +kernel
theorem dX7_areSamples_21 : decode cX7_areSamples 21 = .ok (.ifCond .eq 7, 3) := by decide +kernel
theorem dX7_areSamples_24 : decode cX7_areSamples 24 = .ok (.iconst 1, 1) := by decide +kernel
theorem dX7_areSamples_25 : decode cX7_areSamples 25 = .ok (.goto 4, 3) := by decide +kernel
theorem dX7_areSamples_28 : decode cX7_areSamples 28 = .ok (.iconst 0, 1) := by decide +kernel
theorem dX7_areSamples_29 : decode cX7_areSamples 29 = .ok (.ireturn, 1) := by decide +kernel
theorem dX7_ifBlock_0 : decode cX7_ifBlock 0 = .ok (.aload_n 0, 1) := by decide +kernel
theorem dX7_ifBlock_1 : decode cX7_ifBlock 1 = .ok (.aload_n 0, 1) := by decide +kernel
theorem dX7_ifBlock_2 : decode cX7_ifBlock 2 = .ok (.iload_n 1, 1) := by decide +kernel
theorem dX7_ifBlock_3 : decode cX7_ifBlock 3 = .ok (.iload_n 2, 1) := by decide +kernel
theorem dX7_ifBlock_4 : decode cX7_ifBlock 4 = .ok (.invokevirtual 191, 3) := by decide +kernel
theorem dX7_ifBlock_7 : decode cX7_ifBlock 7 = .ok (.ifCond .ne 7, 3) := by decide +kernel
theorem dX7_ifBlock_10 : decode cX7_ifBlock 10 = .ok (.iconst 1, 1) := by decide +kernel
theorem dX7_ifBlock_11 : decode cX7_ifBlock 11 = .ok (.goto 18, 3) := by decide +kernel
theorem dX7_ifBlock_14 : decode cX7_ifBlock 14 = .ok (.iload_n 3, 1) := by decide +kernel
theorem dX7_ifBlock_15 : decode cX7_ifBlock 15 = .ok (.iconst 0, 1) := by decide +kernel
theorem dX7_ifBlock_16 : decode cX7_ifBlock 16 = .ok (.bipush 48, 2) := by decide +kernel
theorem dX7_ifBlock_18 : decode cX7_ifBlock 18 = .ok (.invokestatic 51, 3) := by decide +kernel
theorem dX7_ifBlock_21 : decode cX7_ifBlock 21 = .ok (.ifCond .ne 7, 3) := by decide +kernel
theorem dX7_ifBlock_24 : decode cX7_ifBlock 24 = .ok (.iconst 2, 1) := by decide +kernel
theorem dX7_ifBlock_25 : decode cX7_ifBlock 25 = .ok (.goto 4, 3) := by decide +kernel
theorem dX7_ifBlock_28 : decode cX7_ifBlock 28 = .ok (.iconst 0, 1) := by decide +kernel
theorem dX7_ifBlock_29 : decode cX7_ifBlock 29 = .ok (.invokevirtual 97, 3) := by decide +kernel
theorem dX7_ifBlock_32 : decode cX7_ifBlock 32 = .ok (.ifCond .eq 13, 3) := by decide +kernel
theorem dX7_ifBlock_35 : decode cX7_ifBlock 35 = .ok (.aload_n 0, 1) := by decide +kernel
theorem dX7_ifBlock_36 : decode cX7_ifBlock 36 = .ok (.iload_n 1, 1) := by decide +kernel
theorem dX7_ifBlock_37 : decode cX7_ifBlock 37 = .ok (.iload_n 2, 1) := by decide +kernel
theorem dX7_ifBlock_38 : decode cX7_ifBlock 38 = .ok (.iload_n 3, 1) := by decide +kernel
theorem dX7_ifBlock_39 : decode cX7_ifBlock 39 = .ok (.invokevirtual 85, 3) := by decide +kernel
theorem dX7_ifBlock_42 : decode cX7_ifBlock 42 = .ok (.goto 4, 3) := by decide +kernel
theorem dX7_ifBlock_45 : decode cX7_ifBlock 45 = .ok (.iconst 0, 1) := by decide +kernel
theorem dX7_ifBlock_46 : decode cX7_ifBlock 46 = .ok (.ireturn, 1) := by decide +kernel
theorem dX7_bestStep_0 : decode cX7_bestStep 0 = .ok (.aload_n 0, 1) := by decide +kernel
theorem dX7_bestStep_1 : decode cX7_bestStep 1 = .ok (.aload_n 0, 1) := by decide +kernel
theorem dX7_bestStep_2 : decode cX7_bestStep 2 = .ok (.iload_n 1, 1) := by decide +kernel
theorem dX7_bestStep_3 : decode cX7_bestStep 3 = .ok (.iload_n 2, 1) := by decide +kernel
theorem dX7_bestStep_4 : decode cX7_bestStep 4 = .ok (.invokevirtual 191, 3) := by decide +kernel
theorem dX7_bestStep_7 : decode cX7_bestStep 7 = .ok (.ifCond .eq 7, 3) := by decide +kernel
theorem dX7_bestStep_10 : decode cX7_bestStep 10 = .ok (.iconst 0, 1) := by decide +kernel
theorem dX7_bestStep_11 : decode cX7_bestStep 11 = .ok (.goto 4, 3) := by decide +kernel
theorem dX7_bestStep_14 : decode cX7_bestStep 14 = .ok (.iconst 1, 1) := by decide +kernel
theorem dX7_bestStep_15 : decode cX7_bestStep 15 = .ok (.invokevirtual 97, 3) := by decide +kernel
theorem dX7_bestStep_18 : decode cX7_bestStep 18 = .ok (.ifCond .eq 12, 3) := by decide +kernel
theorem dX7_bestStep_21 : decode cX7_bestStep 21 = .ok (.aload_n 0, 1) := by decide +kernel
theorem dX7_bestStep_22 : decode cX7_bestStep 22 = .ok (.iload_n 1, 1) := by decide +kernel
theorem dX7_bestStep_23 : decode cX7_bestStep 23 = .ok (.iload_n 2, 1) := by decide +kernel
theorem dX7_bestStep_24 : decode cX7_bestStep 24 = .ok (.invokevirtual 110, 3) := by decide +kernel
theorem dX7_bestStep_27 : decode cX7_bestStep 27 = .ok (.goto 4, 3) := by decide +kernel
theorem dX7_bestStep_30 : decode cX7_bestStep 30 = .ok (.iconst 0, 1) := by decide +kernel
theorem dX7_bestStep_31 : decode cX7_bestStep 31 = .ok (.ireturn, 1) := by decide +kernel
theorem dX7_spreads_0 : decode cX7_spreads 0 = .ok (.aload_n 0, 1) := by decide +kernel
theorem dX7_spreads_1 : decode cX7_spreads 1 = .ok (.invokevirtual 157, 3) := by decide +kernel
theorem dX7_spreads_4 : decode cX7_spreads 4 = .ok (.aload_n 0, 1) := by decide +kernel
theorem dX7_spreads_5 : decode cX7_spreads 5 = .ok (.getfield 7, 3) := by decide +kernel
theorem dX7_spreads_8 : decode cX7_spreads 8 = .ok (.bipush 71, 2) := by decide +kernel
theorem dX7_spreads_10 : decode cX7_spreads 10 = .ok (.iload_n 1, 1) := by decide +kernel
theorem dX7_spreads_11 : decode cX7_spreads 11 = .ok (.iadd, 1) := by decide +kernel
theorem dX7_spreads_12 : decode cX7_spreads 12 = .ok (.dup2, 1) := by decide +kernel
theorem dX7_spreads_13 : decode cX7_spreads 13 = .ok (.iaload, 1) := by decide +kernel
theorem dX7_spreads_14 : decode cX7_spreads 14 = .ok (.iconst 1, 1) := by decide +kernel
theorem dX7_spreads_15 : decode cX7_spreads 15 = .ok (.iload_n 2, 1) := by decide +kernel
theorem dX7_spreads_16 : decode cX7_spreads 16 = .ok (.ishl, 1) := by decide +kernel
theorem dX7_spreads_17 : decode cX7_spreads 17 = .ok (.ixor, 1) := by decide +kernel
theorem dX7_spreads_18 : decode cX7_spreads 18 = .ok (.iastore, 1) := by decide +kernel
theorem dX7_spreads_19 : decode cX7_spreads 19 = .ok (.aload_n 0, 1) := by decide +kernel
theorem dX7_spreads_20 : decode cX7_spreads 20 = .ok (.invokevirtual 160, 3) := by decide +kernel
theorem dX7_spreads_23 : decode cX7_spreads 23 = .ok (.istore_n 3, 1) := by decide +kernel
theorem dX7_spreads_24 : decode cX7_spreads 24 = .ok (.aload_n 0, 1) := by decide +kernel
theorem dX7_spreads_25 : decode cX7_spreads 25 = .ok (.getfield 7, 3) := by decide +kernel
theorem dX7_spreads_28 : decode cX7_spreads 28 = .ok (.bipush 71, 2) := by decide +kernel
theorem dX7_spreads_30 : decode cX7_spreads 30 = .ok (.iload_n 1, 1) := by decide +kernel
theorem dX7_spreads_31 : decode cX7_spreads 31 = .ok (.iadd, 1) := by decide +kernel
theorem dX7_spreads_32 : decode cX7_spreads 32 = .ok (.dup2, 1) := by decide +kernel
theorem dX7_spreads_33 : decode cX7_spreads 33 = .ok (.iaload, 1) := by decide +kernel
theorem dX7_spreads_34 : decode cX7_spreads 34 = .ok (.iconst 1, 1) := by decide +kernel
theorem dX7_spreads_35 : decode cX7_spreads 35 = .ok (.iload_n 2, 1) := by decide +kernel
theorem dX7_spreads_36 : decode cX7_spreads 36 = .ok (.ishl, 1) := by decide +kernel
theorem dX7_spreads_37 : decode cX7_spreads 37 = .ok (.ixor, 1) := by decide +kernel
theorem dX7_spreads_38 : decode cX7_spreads 38 = .ok (.iastore, 1) := by decide +kernel
theorem dX7_spreads_39 : decode cX7_spreads 39 = .ok (.iload_n 3, 1) := by decide +kernel
theorem dX7_spreads_40 : decode cX7_spreads 40 = .ok (.ireturn, 1) := by decide +kernel
theorem dX7_ifSpoiled_0 : decode cX7_ifSpoiled 0 = .ok (.aload_n 0, 1) := by decide +kernel
theorem dX7_ifSpoiled_1 : decode cX7_ifSpoiled 1 = .ok (.aload_n 0, 1) := by decide +kernel
theorem dX7_ifSpoiled_2 : decode cX7_ifSpoiled 2 = .ok (.iload_n 1, 1) := by decide +kernel
theorem dX7_ifSpoiled_3 : decode cX7_ifSpoiled 3 = .ok (.invokevirtual 122, 3) := by decide +kernel
theorem dX7_ifSpoiled_6 : decode cX7_ifSpoiled 6 = .ok (.ifCond .ne 7, 3) := by decide +kernel
theorem dX7_ifSpoiled_9 : decode cX7_ifSpoiled 9 = .ok (.iconst 1, 1) := by decide +kernel
theorem dX7_ifSpoiled_10 : decode cX7_ifSpoiled 10 = .ok (.goto 17, 3) := by decide +kernel
theorem dX7_ifSpoiled_13 : decode cX7_ifSpoiled 13 = .ok (.iload_n 2, 1) := by decide +kernel
theorem dX7_ifSpoiled_14 : decode cX7_ifSpoiled 14 = .ok (.iconst 0, 1) := by decide +kernel
theorem dX7_ifSpoiled_15 : decode cX7_ifSpoiled 15 = .ok (.iconst 3, 1) := by decide +kernel
theorem dX7_ifSpoiled_16 : decode cX7_ifSpoiled 16 = .ok (.invokestatic 51, 3) := by decide +kernel
theorem dX7_ifSpoiled_19 : decode cX7_ifSpoiled 19 = .ok (.ifCond .ne 7, 3) := by decide +kernel
theorem dX7_ifSpoiled_22 : decode cX7_ifSpoiled 22 = .ok (.iconst 2, 1) := by decide +kernel
theorem dX7_ifSpoiled_23 : decode cX7_ifSpoiled 23 = .ok (.goto 4, 3) := by decide +kernel
theorem dX7_ifSpoiled_26 : decode cX7_ifSpoiled 26 = .ok (.iconst 0, 1) := by decide +kernel
theorem dX7_ifSpoiled_27 : decode cX7_ifSpoiled 27 = .ok (.invokevirtual 97, 3) := by decide +kernel
theorem dX7_ifSpoiled_30 : decode cX7_ifSpoiled 30 = .ok (.ifCond .eq 12, 3) := by decide +kernel
theorem dX7_ifSpoiled_33 : decode cX7_ifSpoiled 33 = .ok (.aload_n 0, 1) := by decide +kernel
theorem dX7_ifSpoiled_34 : decode cX7_ifSpoiled 34 = .ok (.iload_n 1, 1) := by decide +kernel
theorem dX7_ifSpoiled_35 : decode cX7_ifSpoiled 35 = .ok (.iload_n 2, 1) := by decide +kernel
theorem dX7_ifSpoiled_36 : decode cX7_ifSpoiled 36 = .ok (.invokevirtual 194, 3) := by decide +kernel
theorem dX7_ifSpoiled_39 : decode cX7_ifSpoiled 39 = .ok (.goto 4, 3) := by decide +kernel
theorem dX7_ifSpoiled_42 : decode cX7_ifSpoiled 42 = .ok (.iconst 0, 1) := by decide +kernel
theorem dX7_ifSpoiled_43 : decode cX7_ifSpoiled 43 = .ok (.ireturn, 1) := by decide +kernel
theorem dX7_mean_0 : decode cX7_mean 0 = .ok (.aload_n 0, 1) := by decide +kernel
theorem dX7_mean_1 : decode cX7_mean 1 = .ok (.invokevirtual 55, 3) := by decide +kernel
theorem dX7_mean_4 : decode cX7_mean 4 = .ok (.ifCond .eq 19, 3) := by decide +kernel
theorem dX7_mean_7 : decode cX7_mean 7 = .ok (.aload_n 0, 1) := by decide +kernel
theorem dX7_mean_8 : decode cX7_mean 8 = .ok (.invokevirtual 179, 3) := by decide +kernel
theorem dX7_mean_11 : decode cX7_mean 11 = .ok (.i2d, 1) := by decide +kernel
theorem dX7_mean_12 : decode cX7_mean 12 = .ok (.aload_n 0, 1) := by decide +kernel
theorem dX7_mean_13 : decode cX7_mean 13 = .ok (.getfield 7, 3) := by decide +kernel
theorem dX7_mean_16 : decode cX7_mean 16 = .ok (.iconst 0, 1) := by decide +kernel
theorem dX7_mean_17 : decode cX7_mean 17 = .ok (.iaload, 1) := by decide +kernel
theorem dX7_mean_18 : decode cX7_mean 18 = .ok (.i2d, 1) := by decide +kernel
theorem dX7_mean_19 : decode cX7_mean 19 = .ok (.ddiv, 1) := by decide +kernel
theorem dX7_mean_20 : decode cX7_mean 20 = .ok (.goto 4, 3) := by decide +kernel
theorem dX7_mean_23 : decode cX7_mean 23 = .ok (.dconst 0, 1) := by decide +kernel
theorem dX7_mean_24 : decode cX7_mean 24 = .ok (.dreturn, 1) := by decide +kernel
theorem dX7_meanSquare_0 : decode cX7_meanSquare 0 = .ok (.aload_n 0, 1) := by decide +kernel
theorem dX7_meanSquare_1 : decode cX7_meanSquare 1 = .ok (.iconst 0, 1) := by decide +kernel
theorem dX7_meanSquare_2 : decode cX7_meanSquare 2 = .ok (.putfield 44, 3) := by decide +kernel
theorem dX7_meanSquare_5 : decode cX7_meanSquare 5 = .ok (.aload_n 0, 1) := by decide +kernel
theorem dX7_meanSquare_6 : decode cX7_meanSquare 6 = .ok (.invokevirtual 197, 3) := by decide +kernel
theorem dX7_meanSquare_9 : decode cX7_meanSquare 9 = .ok (.dreturn, 1) := by decide +kernel
theorem dX7_loud_0 : decode cX7_loud 0 = .ok (.aload_n 0, 1) := by decide +kernel
theorem dX7_loud_1 : decode cX7_loud 1 = .ok (.invokevirtual 55, 3) := by decide +kernel
theorem dX7_loud_4 : decode cX7_loud 4 = .ok (.ifCond .ne 5, 3) := by decide +kernel
theorem dX7_loud_7 : decode cX7_loud 7 = .ok (.fconst 0, 1) := by decide +kernel
theorem dX7_loud_8 : decode cX7_loud 8 = .ok (.freturn, 1) := by decide +kernel
theorem dX7_loud_9 : decode cX7_loud 9 = .ok (.aload_n 0, 1) := by decide +kernel
theorem dX7_loud_10 : decode cX7_loud 10 = .ok (.invokevirtual 179, 3) := by decide +kernel
theorem dX7_loud_13 : decode cX7_loud 13 = .ok (.istore_n 1, 1) := by decide +kernel
theorem dX7_loud_14 : decode cX7_loud 14 = .ok (.iconst 0, 1) := by decide +kernel
theorem dX7_loud_15 : decode cX7_loud 15 = .ok (.istore_n 2, 1) := by decide +kernel
theorem dX7_loud_16 : decode cX7_loud 16 = .ok (.iconst 0, 1) := by decide +kernel
theorem dX7_loud_17 : decode cX7_loud 17 = .ok (.istore_n 3, 1) := by decide +kernel
theorem dX7_loud_18 : decode cX7_loud 18 = .ok (.iload_n 3, 1) := by decide +kernel
theorem dX7_loud_19 : decode cX7_loud 19 = .ok (.aload_n 0, 1) := by decide +kernel
theorem dX7_loud_20 : decode cX7_loud 20 = .ok (.getfield 7, 3) := by decide +kernel
theorem dX7_loud_23 : decode cX7_loud 23 = .ok (.iconst 0, 1) := by decide +kernel
theorem dX7_loud_24 : decode cX7_loud 24 = .ok (.iaload, 1) := by decide +kernel
theorem dX7_loud_25 : decode cX7_loud 25 = .ok (.if_icmp .ge 24, 3) := by decide +kernel
theorem dX7_loud_28 : decode cX7_loud 28 = .ok (.iload_n 2, 1) := by decide +kernel
theorem dX7_loud_29 : decode cX7_loud 29 = .ok (.aload_n 0, 1) := by decide +kernel
theorem dX7_loud_30 : decode cX7_loud 30 = .ok (.getfield 7, 3) := by decide +kernel
theorem dX7_loud_33 : decode cX7_loud 33 = .ok (.bipush 7, 2) := by decide +kernel
theorem dX7_loud_35 : decode cX7_loud 35 = .ok (.iload_n 3, 1) := by decide +kernel
theorem dX7_loud_36 : decode cX7_loud 36 = .ok (.iadd, 1) := by decide +kernel
theorem dX7_loud_37 : decode cX7_loud 37 = .ok (.iaload, 1) := by decide +kernel
theorem dX7_loud_38 : decode cX7_loud 38 = .ok (.invokestatic 82, 3) := by decide +kernel
theorem dX7_loud_41 : decode cX7_loud 41 = .ok (.iadd, 1) := by decide +kernel
theorem dX7_loud_42 : decode cX7_loud 42 = .ok (.istore_n 2, 1) := by decide +kernel
theorem dX7_loud_43 : decode cX7_loud 43 = .ok (.iinc 3 1, 3) := by decide +kernel
theorem dX7_loud_46 : decode cX7_loud 46 = .ok (.goto (-28), 3) := by decide +kernel
theorem dX7_loud_49 : decode cX7_loud 49 = .ok (.iload_n 1, 1) := by decide +kernel
theorem dX7_loud_50 : decode cX7_loud 50 = .ok (.ifCond .ne 8, 3) := by decide +kernel
theorem dX7_loud_53 : decode cX7_loud 53 = .ok (.ldc 201, 2) := by decide +kernel
theorem dX7_loud_55 : decode cX7_loud 55 = .ok (.goto 8, 3) := by decide +kernel
theorem dX7_loud_58 : decode cX7_loud 58 = .ok (.iload_n 2, 1) := by decide +kernel
theorem dX7_loud_59 : decode cX7_loud 59 = .ok (.i2f, 1) := by decide +kernel
theorem dX7_loud_60 : decode cX7_loud 60 = .ok (.iload_n 1, 1) := by decide +kernel
theorem dX7_loud_61 : decode cX7_loud 61 = .ok (.i2f, 1) := by decide +kernel
theorem dX7_loud_62 : decode cX7_loud 62 = .ok (.fdiv, 1) := by decide +kernel
theorem dX7_loud_63 : decode cX7_loud 63 = .ok (.freturn, 1) := by decide +kernel
theorem dX7_loudness_0 : decode cX7_loudness 0 = .ok (.aload_n 0, 1) := by decide +kernel
theorem dX7_loudness_1 : decode cX7_loudness 1 = .ok (.iconst 0, 1) := by decide +kernel
theorem dX7_loudness_2 : decode cX7_loudness 2 = .ok (.putfield 44, 3) := by decide +kernel
theorem dX7_loudness_5 : decode cX7_loudness 5 = .ok (.aload_n 0, 1) := by decide +kernel
theorem dX7_loudness_6 : decode cX7_loudness 6 = .ok (.invokevirtual 202, 3) := by decide +kernel
theorem dX7_loudness_9 : decode cX7_loudness 9 = .ok (.freturn, 1) := by decide +kernel
theorem dX7_bitsOf_0 : decode cX7_bitsOf 0 = .ok (.dload_n 0, 1) := by decide +kernel
theorem dX7_bitsOf_1 : decode cX7_bitsOf 1 = .ok (.dconst 0, 1) := by decide +kernel
theorem dX7_bitsOf_2 : decode cX7_bitsOf 2 = .ok (.dcmp .l, 1) := by decide +kernel
theorem dX7_bitsOf_3 : decode cX7_bitsOf 3 = .ok (.ifCond .ne 5, 3) := by decide +kernel
theorem dX7_bitsOf_6 : decode cX7_bitsOf 6 = .ok (.lconst 0, 1) := by decide +kernel
theorem dX7_bitsOf_7 : decode cX7_bitsOf 7 = .ok (.lreturn, 1) := by decide +kernel
theorem dX7_bitsOf_8 : decode cX7_bitsOf 8 = .ok (.ldc2_w 206, 3) := by decide +kernel
theorem dX7_bitsOf_11 : decode cX7_bitsOf 11 = .ok (.lstore_n 2, 1) := by decide +kernel
theorem dX7_bitsOf_12 : decode cX7_bitsOf 12 = .ok (.dload_n 0, 1) := by decide +kernel
theorem dX7_bitsOf_13 : decode cX7_bitsOf 13 = .ok (.dstore 4, 2) := by decide +kernel
theorem dX7_bitsOf_15 : decode cX7_bitsOf 15 = .ok (.dload 4, 2) := by decide +kernel
theorem dX7_bitsOf_17 : decode cX7_bitsOf 17 = .ok (.dconst 1, 1) := by decide +kernel
theorem dX7_bitsOf_18 : decode cX7_bitsOf 18 = .ok (.dcmp .g, 1) := by decide +kernel
theorem dX7_bitsOf_19 : decode cX7_bitsOf 19 = .ok (.ifCond .ge 18, 3) := by decide +kernel
theorem dX7_bitsOf_22 : decode cX7_bitsOf 22 = .ok (.dload 4, 2) := by decide +kernel
theorem dX7_bitsOf_24 : decode cX7_bitsOf 24 = .ok (.ldc2_w 208, 3) := by decide +kernel
theorem dX7_bitsOf_27 : decode cX7_bitsOf 27 = .ok (.dmul, 1) := by decide +kernel
theorem dX7_bitsOf_28 : decode cX7_bitsOf 28 = .ok (.dstore 4, 2) := by decide +kernel
theorem dX7_bitsOf_30 : decode cX7_bitsOf 30 = .ok (.lload_n 2, 1) := by decide +kernel
theorem dX7_bitsOf_31 : decode cX7_bitsOf 31 = .ok (.lconst 1, 1) := by decide +kernel
theorem dX7_bitsOf_32 : decode cX7_bitsOf 32 = .ok (.lsub, 1) := by decide +kernel
theorem dX7_bitsOf_33 : decode cX7_bitsOf 33 = .ok (.lstore_n 2, 1) := by decide +kernel
theorem dX7_bitsOf_34 : decode cX7_bitsOf 34 = .ok (.goto (-19), 3) := by decide +kernel
theorem dX7_bitsOf_37 : decode cX7_bitsOf 37 = .ok (.dload 4, 2) := by decide +kernel
theorem dX7_bitsOf_39 : decode cX7_bitsOf 39 = .ok (.ldc2_w 208, 3) := by decide +kernel
theorem dX7_bitsOf_42 : decode cX7_bitsOf 42 = .ok (.dcmp .l, 1) := by decide +kernel
theorem dX7_bitsOf_43 : decode cX7_bitsOf 43 = .ok (.ifCond .lt 18, 3) := by decide +kernel
theorem dX7_bitsOf_46 : decode cX7_bitsOf 46 = .ok (.dload 4, 2) := by decide +kernel
theorem dX7_bitsOf_48 : decode cX7_bitsOf 48 = .ok (.ldc2_w 210, 3) := by decide +kernel
theorem dX7_bitsOf_51 : decode cX7_bitsOf 51 = .ok (.dmul, 1) := by decide +kernel
theorem dX7_bitsOf_52 : decode cX7_bitsOf 52 = .ok (.dstore 4, 2) := by decide +kernel
theorem dX7_bitsOf_54 : decode cX7_bitsOf 54 = .ok (.lload_n 2, 1) := by decide +kernel
theorem dX7_bitsOf_55 : decode cX7_bitsOf 55 = .ok (.lconst 1, 1) := by decide +kernel
theorem dX7_bitsOf_56 : decode cX7_bitsOf 56 = .ok (.ladd, 1) := by decide +kernel
theorem dX7_bitsOf_57 : decode cX7_bitsOf 57 = .ok (.lstore_n 2, 1) := by decide +kernel
theorem dX7_bitsOf_58 : decode cX7_bitsOf 58 = .ok (.goto (-21), 3) := by decide +kernel
theorem dX7_bitsOf_61 : decode cX7_bitsOf 61 = .ok (.lload_n 2, 1) := by decide +kernel
theorem dX7_bitsOf_62 : decode cX7_bitsOf 62 = .ok (.ldc2_w 212, 3) := by decide +kernel
theorem dX7_bitsOf_65 : decode cX7_bitsOf 65 = .ok (.lmul, 1) := by decide +kernel
theorem dX7_bitsOf_66 : decode cX7_bitsOf 66 = .ok (.dload 4, 2) := by decide +kernel
theorem dX7_bitsOf_68 : decode cX7_bitsOf 68 = .ok (.dconst 1, 1) := by decide +kernel
theorem dX7_bitsOf_69 : decode cX7_bitsOf 69 = .ok (.dsub, 1) := by decide +kernel
theorem dX7_bitsOf_70 : decode cX7_bitsOf 70 = .ok (.ldc2_w 214, 3) := by decide +kernel
theorem dX7_bitsOf_73 : decode cX7_bitsOf 73 = .ok (.dmul, 1) := by decide +kernel
theorem dX7_bitsOf_74 : decode cX7_bitsOf 74 = .ok (.d2l, 1) := by decide +kernel
theorem dX7_bitsOf_75 : decode cX7_bitsOf 75 = .ok (.ladd, 1) := by decide +kernel
theorem dX7_bitsOf_76 : decode cX7_bitsOf 76 = .ok (.lreturn, 1) := by decide +kernel
theorem dX7_floatBitsOf_0 : decode cX7_floatBitsOf 0 = .ok (.fload_n 0, 1) := by decide +kernel
theorem dX7_floatBitsOf_1 : decode cX7_floatBitsOf 1 = .ok (.fconst 0, 1) := by decide +kernel
theorem dX7_floatBitsOf_2 : decode cX7_floatBitsOf 2 = .ok (.fcmp .l, 1) := by decide +kernel
theorem dX7_floatBitsOf_3 : decode cX7_floatBitsOf 3 = .ok (.ifCond .ne 5, 3) := by decide +kernel
theorem dX7_floatBitsOf_6 : decode cX7_floatBitsOf 6 = .ok (.iconst 0, 1) := by decide +kernel
theorem dX7_floatBitsOf_7 : decode cX7_floatBitsOf 7 = .ok (.ireturn, 1) := by decide +kernel
theorem dX7_floatBitsOf_8 : decode cX7_floatBitsOf 8 = .ok (.bipush 127, 2) := by decide +kernel
theorem dX7_floatBitsOf_10 : decode cX7_floatBitsOf 10 = .ok (.istore_n 1, 1) := by decide +kernel
theorem dX7_floatBitsOf_11 : decode cX7_floatBitsOf 11 = .ok (.fload_n 0, 1) := by decide +kernel
theorem dX7_floatBitsOf_12 : decode cX7_floatBitsOf 12 = .ok (.fconst 0, 1) := by decide +kernel
theorem dX7_floatBitsOf_13 : decode cX7_floatBitsOf 13 = .ok (.fcmp .g, 1) := by decide +kernel
theorem dX7_floatBitsOf_14 : decode cX7_floatBitsOf 14 = .ok (.ifCond .ge 8, 3) := by decide +kernel
theorem dX7_floatBitsOf_17 : decode cX7_floatBitsOf 17 = .ok (.fload_n 0, 1) := by decide +kernel
theorem dX7_floatBitsOf_18 : decode cX7_floatBitsOf 18 = .ok (.fneg, 1) := by decide +kernel
theorem dX7_floatBitsOf_19 : decode cX7_floatBitsOf 19 = .ok (.goto 4, 3) := by decide +kernel
theorem dX7_floatBitsOf_22 : decode cX7_floatBitsOf 22 = .ok (.fload_n 0, 1) := by decide +kernel
theorem dX7_floatBitsOf_23 : decode cX7_floatBitsOf 23 = .ok (.fstore_n 2, 1) := by decide +kernel
theorem dX7_floatBitsOf_24 : decode cX7_floatBitsOf 24 = .ok (.fload_n 2, 1) := by decide +kernel
theorem dX7_floatBitsOf_25 : decode cX7_floatBitsOf 25 = .ok (.fconst 1, 1) := by decide +kernel
theorem dX7_floatBitsOf_26 : decode cX7_floatBitsOf 26 = .ok (.fcmp .g, 1) := by decide +kernel
theorem dX7_floatBitsOf_27 : decode cX7_floatBitsOf 27 = .ok (.ifCond .ge 13, 3) := by decide +kernel
theorem dX7_floatBitsOf_30 : decode cX7_floatBitsOf 30 = .ok (.fload_n 2, 1) := by decide +kernel
theorem dX7_floatBitsOf_31 : decode cX7_floatBitsOf 31 = .ok (.fconst 2, 1) := by decide +kernel
theorem dX7_floatBitsOf_32 : decode cX7_floatBitsOf 32 = .ok (.fmul, 1) := by decide +kernel
theorem dX7_floatBitsOf_33 : decode cX7_floatBitsOf 33 = .ok (.fstore_n 2, 1) := by decide +kernel
theorem dX7_floatBitsOf_34 : decode cX7_floatBitsOf 34 = .ok (.iinc 1 (-1), 3) := by decide +kernel
theorem dX7_floatBitsOf_37 : decode cX7_floatBitsOf 37 = .ok (.goto (-13), 3) := by decide +kernel
theorem dX7_floatBitsOf_40 : decode cX7_floatBitsOf 40 = .ok (.fload_n 2, 1) := by decide +kernel
theorem dX7_floatBitsOf_41 : decode cX7_floatBitsOf 41 = .ok (.fconst 2, 1) := by decide +kernel
theorem dX7_floatBitsOf_42 : decode cX7_floatBitsOf 42 = .ok (.fcmp .l, 1) := by decide +kernel
theorem dX7_floatBitsOf_43 : decode cX7_floatBitsOf 43 = .ok (.ifCond .lt 14, 3) := by decide +kernel
theorem dX7_floatBitsOf_46 : decode cX7_floatBitsOf 46 = .ok (.fload_n 2, 1) := by decide +kernel
theorem dX7_floatBitsOf_47 : decode cX7_floatBitsOf 47 = .ok (.ldc 216, 2) := by decide +kernel
theorem dX7_floatBitsOf_49 : decode cX7_floatBitsOf 49 = .ok (.fmul, 1) := by decide +kernel
theorem dX7_floatBitsOf_50 : decode cX7_floatBitsOf 50 = .ok (.fstore_n 2, 1) := by decide +kernel
theorem dX7_floatBitsOf_51 : decode cX7_floatBitsOf 51 = .ok (.iinc 1 1, 3) := by decide +kernel
theorem dX7_floatBitsOf_54 : decode cX7_floatBitsOf 54 = .ok (.goto (-14), 3) := by decide +kernel
theorem dX7_floatBitsOf_57 : decode cX7_floatBitsOf 57 = .ok (.iload_n 1, 1) := by decide +kernel
theorem dX7_floatBitsOf_58 : decode cX7_floatBitsOf 58 = .ok (.ldc 217, 2) := by decide +kernel
theorem dX7_floatBitsOf_60 : decode cX7_floatBitsOf 60 = .ok (.imul, 1) := by decide +kernel
theorem dX7_floatBitsOf_61 : decode cX7_floatBitsOf 61 = .ok (.fload_n 2, 1) := by decide +kernel
theorem dX7_floatBitsOf_62 : decode cX7_floatBitsOf 62 = .ok (.fconst 1, 1) := by decide +kernel
theorem dX7_floatBitsOf_63 : decode cX7_floatBitsOf 63 = .ok (.fsub, 1) := by decide +kernel
theorem dX7_floatBitsOf_64 : decode cX7_floatBitsOf 64 = .ok (.ldc 218, 2) := by decide +kernel
theorem dX7_floatBitsOf_66 : decode cX7_floatBitsOf 66 = .ok (.fmul, 1) := by decide +kernel
theorem dX7_floatBitsOf_67 : decode cX7_floatBitsOf 67 = .ok (.f2i, 1) := by decide +kernel
theorem dX7_floatBitsOf_68 : decode cX7_floatBitsOf 68 = .ok (.iadd, 1) := by decide +kernel
theorem dX7_floatBitsOf_69 : decode cX7_floatBitsOf 69 = .ok (.istore_n 3, 1) := by decide +kernel
theorem dX7_floatBitsOf_70 : decode cX7_floatBitsOf 70 = .ok (.fload_n 0, 1) := by decide +kernel
theorem dX7_floatBitsOf_71 : decode cX7_floatBitsOf 71 = .ok (.fconst 0, 1) := by decide +kernel
theorem dX7_floatBitsOf_72 : decode cX7_floatBitsOf 72 = .ok (.fcmp .g, 1) := by decide +kernel
theorem dX7_floatBitsOf_73 : decode cX7_floatBitsOf 73 = .ok (.ifCond .ge 10, 3) := by decide +kernel
theorem dX7_floatBitsOf_76 : decode cX7_floatBitsOf 76 = .ok (.iload_n 3, 1) := by decide +kernel
theorem dX7_floatBitsOf_77 : decode cX7_floatBitsOf 77 = .ok (.ldc 219, 2) := by decide +kernel
theorem dX7_floatBitsOf_79 : decode cX7_floatBitsOf 79 = .ok (.ior, 1) := by decide +kernel
theorem dX7_floatBitsOf_80 : decode cX7_floatBitsOf 80 = .ok (.goto 4, 3) := by decide +kernel
theorem dX7_floatBitsOf_83 : decode cX7_floatBitsOf 83 = .ok (.iload_n 3, 1) := by decide +kernel
theorem dX7_floatBitsOf_84 : decode cX7_floatBitsOf 84 = .ok (.ireturn, 1) := by decide +kernel
theorem dX7_digestOne_0 : decode cX7_digestOne 0 = .ok (.aload_n 0, 1) := by decide +kernel
theorem dX7_digestOne_1 : decode cX7_digestOne 1 = .ok (.ldc2_w 220, 3) := by decide +kernel
theorem dX7_digestOne_4 : decode cX7_digestOne 4 = .ok (.aload_n 0, 1) := by decide +kernel
theorem dX7_digestOne_5 : decode cX7_digestOne 5 = .ok (.getfield 222, 3) := by decide +kernel
theorem dX7_digestOne_8 : decode cX7_digestOne 8 = .ok (.lmul, 1) := by decide +kernel
theorem dX7_digestOne_9 : decode cX7_digestOne 9 = .ok (.lload_n 1, 1) := by decide +kernel
theorem dX7_digestOne_10 : decode cX7_digestOne 10 = .ok (.ladd, 1) := by decide +kernel
theorem dX7_digestOne_11 : decode cX7_digestOne 11 = .ok (.putfield 222, 3) := by decide +kernel
theorem dX7_digestOne_14 : decode cX7_digestOne 14 = .ok (.return_, 1) := by decide +kernel
theorem dX7_digestWave_0 : decode cX7_digestWave 0 = .ok (.iconst 0, 1) := by decide +kernel
theorem dX7_digestWave_1 : decode cX7_digestWave 1 = .ok (.istore_n 1, 1) := by decide +kernel
theorem dX7_digestWave_2 : decode cX7_digestWave 2 = .ok (.iload_n 1, 1) := by decide +kernel
theorem dX7_digestWave_3 : decode cX7_digestWave 3 = .ok (.aload_n 0, 1) := by decide +kernel
theorem dX7_digestWave_4 : decode cX7_digestWave 4 = .ok (.getfield 7, 3) := by decide +kernel
theorem dX7_digestWave_7 : decode cX7_digestWave 7 = .ok (.iconst 0, 1) := by decide +kernel
theorem dX7_digestWave_8 : decode cX7_digestWave 8 = .ok (.iaload, 1) := by decide +kernel
theorem dX7_digestWave_9 : decode cX7_digestWave 9 = .ok (.if_icmp .ge 34, 3) := by decide +kernel
theorem dX7_digestWave_12 : decode cX7_digestWave 12 = .ok (.iconst 0, 1) := by decide +kernel
theorem dX7_digestWave_13 : decode cX7_digestWave 13 = .ok (.istore_n 2, 1) := by decide +kernel
theorem dX7_digestWave_14 : decode cX7_digestWave 14 = .ok (.iload_n 2, 1) := by decide +kernel
theorem dX7_digestWave_15 : decode cX7_digestWave 15 = .ok (.bipush 6, 2) := by decide +kernel
theorem dX7_digestWave_17 : decode cX7_digestWave 17 = .ok (.if_icmp .ge 20, 3) := by decide +kernel
theorem dX7_digestWave_20 : decode cX7_digestWave 20 = .ok (.aload_n 0, 1) := by decide +kernel
theorem dX7_digestWave_21 : decode cX7_digestWave 21 = .ok (.aload_n 0, 1) := by decide +kernel
theorem dX7_digestWave_22 : decode cX7_digestWave 22 = .ok (.iload_n 1, 1) := by decide +kernel
theorem dX7_digestWave_23 : decode cX7_digestWave 23 = .ok (.iload_n 2, 1) := by decide +kernel
theorem dX7_digestWave_24 : decode cX7_digestWave 24 = .ok (.invokevirtual 170, 3) := by decide +kernel
theorem dX7_digestWave_27 : decode cX7_digestWave 27 = .ok (.i2l, 1) := by decide +kernel
theorem dX7_digestWave_28 : decode cX7_digestWave 28 = .ok (.invokevirtual 226, 3) := by decide +kernel
theorem dX7_digestWave_31 : decode cX7_digestWave 31 = .ok (.iinc 2 1, 3) := by decide +kernel
theorem dX7_digestWave_34 : decode cX7_digestWave 34 = .ok (.goto (-20), 3) := by decide +kernel
theorem dX7_digestWave_37 : decode cX7_digestWave 37 = .ok (.iinc 1 1, 3) := by decide +kernel
theorem dX7_digestWave_40 : decode cX7_digestWave 40 = .ok (.goto (-38), 3) := by decide +kernel
theorem dX7_digestWave_43 : decode cX7_digestWave 43 = .ok (.iconst 0, 1) := by decide +kernel
theorem dX7_digestWave_44 : decode cX7_digestWave 44 = .ok (.istore_n 1, 1) := by decide +kernel
theorem dX7_digestWave_45 : decode cX7_digestWave 45 = .ok (.iload_n 1, 1) := by decide +kernel
theorem dX7_digestWave_46 : decode cX7_digestWave 46 = .ok (.aload_n 0, 1) := by decide +kernel
theorem dX7_digestWave_47 : decode cX7_digestWave 47 = .ok (.invokevirtual 59, 3) := by decide +kernel
theorem dX7_digestWave_50 : decode cX7_digestWave 50 = .ok (.if_icmp .ge 34, 3) := by decide +kernel
theorem dX7_digestWave_53 : decode cX7_digestWave 53 = .ok (.iconst 0, 1) := by decide +kernel
theorem dX7_digestWave_54 : decode cX7_digestWave 54 = .ok (.istore_n 2, 1) := by decide +kernel
theorem dX7_digestWave_55 : decode cX7_digestWave 55 = .ok (.iload_n 2, 1) := by decide +kernel
theorem dX7_digestWave_56 : decode cX7_digestWave 56 = .ok (.bipush 6, 2) := by decide +kernel
theorem dX7_digestWave_58 : decode cX7_digestWave 58 = .ok (.if_icmp .ge 20, 3) := by decide +kernel
theorem dX7_digestWave_61 : decode cX7_digestWave 61 = .ok (.aload_n 0, 1) := by decide +kernel
theorem dX7_digestWave_62 : decode cX7_digestWave 62 = .ok (.aload_n 0, 1) := by decide +kernel
theorem dX7_digestWave_63 : decode cX7_digestWave 63 = .ok (.iload_n 1, 1) := by decide +kernel
theorem dX7_digestWave_64 : decode cX7_digestWave 64 = .ok (.iload_n 2, 1) := by decide +kernel
theorem dX7_digestWave_65 : decode cX7_digestWave 65 = .ok (.invokevirtual 176, 3) := by decide +kernel
theorem dX7_digestWave_68 : decode cX7_digestWave 68 = .ok (.i2l, 1) := by decide +kernel
theorem dX7_digestWave_69 : decode cX7_digestWave 69 = .ok (.invokevirtual 226, 3) := by decide +kernel
theorem dX7_digestWave_72 : decode cX7_digestWave 72 = .ok (.iinc 2 1, 3) := by decide +kernel
theorem dX7_digestWave_75 : decode cX7_digestWave 75 = .ok (.goto (-20), 3) := by decide +kernel
theorem dX7_digestWave_78 : decode cX7_digestWave 78 = .ok (.iinc 1 1, 3) := by decide +kernel
theorem dX7_digestWave_81 : decode cX7_digestWave 81 = .ok (.goto (-36), 3) := by decide +kernel
theorem dX7_digestWave_84 : decode cX7_digestWave 84 = .ok (.aload_n 0, 1) := by decide +kernel
theorem dX7_digestWave_85 : decode cX7_digestWave 85 = .ok (.aload_n 0, 1) := by decide +kernel
theorem dX7_digestWave_86 : decode cX7_digestWave 86 = .ok (.iconst 0, 1) := by decide +kernel
theorem dX7_digestWave_87 : decode cX7_digestWave 87 = .ok (.aload_n 0, 1) := by decide +kernel
theorem dX7_digestWave_88 : decode cX7_digestWave 88 = .ok (.getfield 7, 3) := by decide +kernel
theorem dX7_digestWave_91 : decode cX7_digestWave 91 = .ok (.iconst 0, 1) := by decide +kernel
theorem dX7_digestWave_92 : decode cX7_digestWave 92 = .ok (.iaload, 1) := by decide +kernel
theorem dX7_digestWave_93 : decode cX7_digestWave 93 = .ok (.invokevirtual 110, 3) := by decide +kernel
theorem dX7_digestWave_96 : decode cX7_digestWave 96 = .ok (.i2l, 1) := by decide +kernel
theorem dX7_digestWave_97 : decode cX7_digestWave 97 = .ok (.invokevirtual 226, 3) := by decide +kernel
theorem dX7_digestWave_100 : decode cX7_digestWave 100 = .ok (.iconst 0, 1) := by decide +kernel
theorem dX7_digestWave_101 : decode cX7_digestWave 101 = .ok (.istore_n 1, 1) := by decide +kernel
theorem dX7_digestWave_102 : decode cX7_digestWave 102 = .ok (.iload_n 1, 1) := by decide +kernel
theorem dX7_digestWave_103 : decode cX7_digestWave 103 = .ok (.aload_n 0, 1) := by decide +kernel
theorem dX7_digestWave_104 : decode cX7_digestWave 104 = .ok (.getfield 7, 3) := by decide +kernel
theorem dX7_digestWave_107 : decode cX7_digestWave 107 = .ok (.iconst 0, 1) := by decide +kernel
theorem dX7_digestWave_108 : decode cX7_digestWave 108 = .ok (.iaload, 1) := by decide +kernel
theorem dX7_digestWave_109 : decode cX7_digestWave 109 = .ok (.if_icmp .ge 28, 3) := by decide +kernel
theorem dX7_digestWave_112 : decode cX7_digestWave 112 = .ok (.aload_n 0, 1) := by decide +kernel
theorem dX7_digestWave_113 : decode cX7_digestWave 113 = .ok (.iload_n 1, 1) := by decide +kernel
theorem dX7_digestWave_114 : decode cX7_digestWave 114 = .ok (.invokevirtual 122, 3) := by decide +kernel
theorem dX7_digestWave_117 : decode cX7_digestWave 117 = .ok (.ifCond .eq 14, 3) := by decide +kernel
theorem dX7_digestWave_120 : decode cX7_digestWave 120 = .ok (.aload_n 0, 1) := by decide +kernel
theorem dX7_digestWave_121 : decode cX7_digestWave 121 = .ok (.aload_n 0, 1) := by decide +kernel
theorem dX7_digestWave_122 : decode cX7_digestWave 122 = .ok (.iload_n 1, 1) := by decide +kernel
theorem dX7_digestWave_123 : decode cX7_digestWave 123 = .ok (.iconst 3, 1) := by decide +kernel
theorem dX7_digestWave_124 : decode cX7_digestWave 124 = .ok (.invokevirtual 194, 3) := by decide +kernel
theorem dX7_digestWave_127 : decode cX7_digestWave 127 = .ok (.i2l, 1) := by decide +kernel
theorem dX7_digestWave_128 : decode cX7_digestWave 128 = .ok (.invokevirtual 226, 3) := by decide +kernel
theorem dX7_digestWave_131 : decode cX7_digestWave 131 = .ok (.iinc 1 1, 3) := by decide +kernel
theorem dX7_digestWave_134 : decode cX7_digestWave 134 = .ok (.goto (-32), 3) := by decide +kernel
theorem dX7_digestWave_137 : decode cX7_digestWave 137 = .ok (.return_, 1) := by decide +kernel
theorem dX7_digest_0 : decode cX7_digest 0 = .ok (.aload_n 0, 1) := by decide +kernel
theorem dX7_digest_1 : decode cX7_digest 1 = .ok (.iconst 0, 1) := by decide +kernel
theorem dX7_digest_2 : decode cX7_digest 2 = .ok (.putfield 44, 3) := by decide +kernel
theorem dX7_digest_5 : decode cX7_digest 5 = .ok (.aload_n 0, 1) := by decide +kernel
theorem dX7_digest_6 : decode cX7_digest 6 = .ok (.ldc2_w 230, 3) := by decide +kernel
theorem dX7_digest_9 : decode cX7_digest 9 = .ok (.putfield 222, 3) := by decide +kernel
theorem dX7_digest_12 : decode cX7_digest 12 = .ok (.iconst 0, 1) := by decide +kernel
theorem dX7_digest_13 : decode cX7_digest 13 = .ok (.istore_n 1, 1) := by decide +kernel
theorem dX7_digest_14 : decode cX7_digest 14 = .ok (.iload_n 1, 1) := by decide +kernel
theorem dX7_digest_15 : decode cX7_digest 15 = .ok (.bipush 12, 2) := by decide +kernel
theorem dX7_digest_17 : decode cX7_digest 17 = .ok (.if_icmp .ge 19, 3) := by decide +kernel
theorem dX7_digest_20 : decode cX7_digest 20 = .ok (.aload_n 0, 1) := by decide +kernel
theorem dX7_digest_21 : decode cX7_digest 21 = .ok (.aload_n 0, 1) := by decide +kernel
theorem dX7_digest_22 : decode cX7_digest 22 = .ok (.iload_n 1, 1) := by decide +kernel
theorem dX7_digest_23 : decode cX7_digest 23 = .ok (.invokevirtual 188, 3) := by decide +kernel
theorem dX7_digest_26 : decode cX7_digest 26 = .ok (.i2l, 1) := by decide +kernel
theorem dX7_digest_27 : decode cX7_digest 27 = .ok (.invokevirtual 226, 3) := by decide +kernel
theorem dX7_digest_30 : decode cX7_digest 30 = .ok (.iinc 1 1, 3) := by decide +kernel
theorem dX7_digest_33 : decode cX7_digest 33 = .ok (.goto (-19), 3) := by decide +kernel
theorem dX7_digest_36 : decode cX7_digest 36 = .ok (.iconst 0, 1) := by decide +kernel
theorem dX7_digest_37 : decode cX7_digest 37 = .ok (.istore_n 1, 1) := by decide +kernel
theorem dX7_digest_38 : decode cX7_digest 38 = .ok (.iload_n 1, 1) := by decide +kernel
theorem dX7_digest_39 : decode cX7_digest 39 = .ok (.iconst 3, 1) := by decide +kernel
theorem dX7_digest_40 : decode cX7_digest 40 = .ok (.if_icmp .ge 22, 3) := by decide +kernel
theorem dX7_digest_43 : decode cX7_digest 43 = .ok (.aload_n 0, 1) := by decide +kernel
theorem dX7_digest_44 : decode cX7_digest 44 = .ok (.aload_n 0, 1) := by decide +kernel
theorem dX7_digest_45 : decode cX7_digest 45 = .ok (.getfield 7, 3) := by decide +kernel
theorem dX7_digest_48 : decode cX7_digest 48 = .ok (.iconst 2, 1) := by decide +kernel
theorem dX7_digest_49 : decode cX7_digest 49 = .ok (.iload_n 1, 1) := by decide +kernel
theorem dX7_digest_50 : decode cX7_digest 50 = .ok (.iadd, 1) := by decide +kernel
theorem dX7_digest_51 : decode cX7_digest 51 = .ok (.iaload, 1) := by decide +kernel
theorem dX7_digest_52 : decode cX7_digest 52 = .ok (.i2l, 1) := by decide +kernel
theorem dX7_digest_53 : decode cX7_digest 53 = .ok (.invokevirtual 226, 3) := by decide +kernel
theorem dX7_digest_56 : decode cX7_digest 56 = .ok (.iinc 1 1, 3) := by decide +kernel
theorem dX7_digest_59 : decode cX7_digest 59 = .ok (.goto (-21), 3) := by decide +kernel
theorem dX7_digest_62 : decode cX7_digest 62 = .ok (.aload_n 0, 1) := by decide +kernel
theorem dX7_digest_63 : decode cX7_digest 63 = .ok (.invokevirtual 232, 3) := by decide +kernel
theorem dX7_digest_66 : decode cX7_digest 66 = .ok (.aload_n 0, 1) := by decide +kernel
theorem dX7_digest_67 : decode cX7_digest 67 = .ok (.aload_n 0, 1) := by decide +kernel
theorem dX7_digest_68 : decode cX7_digest 68 = .ok (.invokevirtual 197, 3) := by decide +kernel
theorem dX7_digest_71 : decode cX7_digest 71 = .ok (.invokestatic 235, 3) := by decide +kernel
theorem dX7_digest_74 : decode cX7_digest 74 = .ok (.invokevirtual 226, 3) := by decide +kernel
theorem dX7_digest_77 : decode cX7_digest 77 = .ok (.aload_n 0, 1) := by decide +kernel
theorem dX7_digest_78 : decode cX7_digest 78 = .ok (.aload_n 0, 1) := by decide +kernel
theorem dX7_digest_79 : decode cX7_digest 79 = .ok (.invokevirtual 202, 3) := by decide +kernel
theorem dX7_digest_82 : decode cX7_digest 82 = .ok (.invokestatic 239, 3) := by decide +kernel
theorem dX7_digest_85 : decode cX7_digest 85 = .ok (.i2l, 1) := by decide +kernel
theorem dX7_digest_86 : decode cX7_digest 86 = .ok (.invokevirtual 226, 3) := by decide +kernel
theorem dX7_digest_89 : decode cX7_digest 89 = .ok (.aload_n 0, 1) := by decide +kernel
theorem dX7_digest_90 : decode cX7_digest 90 = .ok (.aload_n 0, 1) := by decide +kernel
theorem dX7_digest_91 : decode cX7_digest 91 = .ok (.getfield 19, 3) := by decide +kernel
theorem dX7_digest_94 : decode cX7_digest 94 = .ok (.iconst 0, 1) := by decide +kernel
theorem dX7_digest_95 : decode cX7_digest 95 = .ok (.baload, 1) := by decide +kernel
theorem dX7_digest_96 : decode cX7_digest 96 = .ok (.ifCond .eq 7, 3) := by decide +kernel
theorem dX7_digest_99 : decode cX7_digest 99 = .ok (.lconst 1, 1) := by decide +kernel
theorem dX7_digest_100 : decode cX7_digest 100 = .ok (.goto 4, 3) := by decide +kernel
theorem dX7_digest_103 : decode cX7_digest 103 = .ok (.lconst 0, 1) := by decide +kernel
theorem dX7_digest_104 : decode cX7_digest 104 = .ok (.invokevirtual 226, 3) := by decide +kernel
theorem dX7_digest_107 : decode cX7_digest 107 = .ok (.aload_n 0, 1) := by decide +kernel
theorem dX7_digest_108 : decode cX7_digest 108 = .ok (.aload_n 0, 1) := by decide +kernel
theorem dX7_digest_109 : decode cX7_digest 109 = .ok (.getfield 19, 3) := by decide +kernel
theorem dX7_digest_112 : decode cX7_digest 112 = .ok (.iconst 1, 1) := by decide +kernel
theorem dX7_digest_113 : decode cX7_digest 113 = .ok (.baload, 1) := by decide +kernel
theorem dX7_digest_114 : decode cX7_digest 114 = .ok (.ifCond .eq 7, 3) := by decide +kernel
theorem dX7_digest_117 : decode cX7_digest 117 = .ok (.lconst 1, 1) := by decide +kernel
theorem dX7_digest_118 : decode cX7_digest 118 = .ok (.goto 4, 3) := by decide +kernel
theorem dX7_digest_121 : decode cX7_digest 121 = .ok (.lconst 0, 1) := by decide +kernel
theorem dX7_digest_122 : decode cX7_digest 122 = .ok (.invokevirtual 226, 3) := by decide +kernel
theorem dX7_digest_125 : decode cX7_digest 125 = .ok (.aload_n 0, 1) := by decide +kernel
theorem dX7_digest_126 : decode cX7_digest 126 = .ok (.aload_n 0, 1) := by decide +kernel
theorem dX7_digest_127 : decode cX7_digest 127 = .ok (.getfield 125, 3) := by decide +kernel
theorem dX7_digest_130 : decode cX7_digest 130 = .ok (.i2l, 1) := by decide +kernel
theorem dX7_digest_131 : decode cX7_digest 131 = .ok (.invokevirtual 226, 3) := by decide +kernel
theorem dX7_digest_134 : decode cX7_digest 134 = .ok (.iconst 0, 1) := by decide +kernel
theorem dX7_digest_135 : decode cX7_digest 135 = .ok (.istore_n 1, 1) := by decide +kernel
theorem dX7_digest_136 : decode cX7_digest 136 = .ok (.iload_n 1, 1) := by decide +kernel
theorem dX7_digest_137 : decode cX7_digest 137 = .ok (.aload_n 0, 1) := by decide +kernel
theorem dX7_digest_138 : decode cX7_digest 138 = .ok (.getfield 125, 3) := by decide +kernel
theorem dX7_digest_141 : decode cX7_digest 141 = .ok (.if_icmp .ge 20, 3) := by decide +kernel
theorem dX7_digest_144 : decode cX7_digest 144 = .ok (.aload_n 0, 1) := by decide +kernel
theorem dX7_digest_145 : decode cX7_digest 145 = .ok (.aload_n 0, 1) := by decide +kernel
theorem dX7_digest_146 : decode cX7_digest 146 = .ok (.getfield 23, 3) := by decide +kernel
theorem dX7_digest_149 : decode cX7_digest 149 = .ok (.iload_n 1, 1) := by decide +kernel
theorem dX7_digest_150 : decode cX7_digest 150 = .ok (.iaload, 1) := by decide +kernel
theorem dX7_digest_151 : decode cX7_digest 151 = .ok (.i2l, 1) := by decide +kernel
theorem dX7_digest_152 : decode cX7_digest 152 = .ok (.invokevirtual 226, 3) := by decide +kernel
theorem dX7_digest_155 : decode cX7_digest 155 = .ok (.iinc 1 1, 3) := by decide +kernel
theorem dX7_digest_158 : decode cX7_digest 158 = .ok (.goto (-22), 3) := by decide +kernel
theorem dX7_digest_161 : decode cX7_digest 161 = .ok (.aload_n 0, 1) := by decide +kernel
theorem dX7_digest_162 : decode cX7_digest 162 = .ok (.getfield 222, 3) := by decide +kernel
theorem dX7_digest_165 : decode cX7_digest 165 = .ok (.lreturn, 1) := by decide +kernel
