theorem dX0_init_0 : decode cX0_init 0 = .ok (.aload_n 0, 1) := by decide +kernel
theorem dX0_init_1 : decode cX0_init 1 = .ok (.invokespecial 3, 3) := by decide +kernel
theorem dX0_init_4 : decode cX0_init 4 = .ok (.aload_n 0, 1) := by decide +kernel
theorem dX0_init_5 : decode cX0_init 5 = .ok (.bipush 40, 2) := by decide +kernel
theorem dX0_init_7 : decode cX0_init 7 = .ok (.newarray .int, 2) := by decide +kernel
theorem dX0_init_9 : decode cX0_init 9 = .ok (.putfield 9, 3) := by decide +kernel
theorem dX0_init_12 : decode cX0_init 12 = .ok (.aload_n 0, 1) := by decide +kernel
theorem dX0_init_13 : decode cX0_init 13 = .ok (.bipush 15, 2) := by decide +kernel
theorem dX0_init_15 : decode cX0_init 15 = .ok (.newarray .int, 2) := by decide +kernel
theorem dX0_init_17 : decode cX0_init 17 = .ok (.putfield 15, 3) := by decide +kernel
theorem dX0_init_20 : decode cX0_init 20 = .ok (.return_, 1) := by decide +kernel
theorem dX0_isFull_0 : decode cX0_isFull 0 = .ok (.aload_n 0, 1) := by decide +kernel
theorem dX0_isFull_1 : decode cX0_isFull 1 = .ok (.getfield 18, 3) := by decide +kernel
theorem dX0_isFull_4 : decode cX0_isFull 4 = .ok (.bipush 40, 2) := by decide +kernel
theorem dX0_isFull_6 : decode cX0_isFull 6 = .ok (.if_icmp .lt 7, 3) := by decide +kernel
theorem dX0_isFull_9 : decode cX0_isFull 9 = .ok (.iconst 1, 1) := by decide +kernel
theorem dX0_isFull_10 : decode cX0_isFull 10 = .ok (.goto 4, 3) := by decide +kernel
theorem dX0_isFull_13 : decode cX0_isFull 13 = .ok (.iconst 0, 1) := by decide +kernel
theorem dX0_isFull_14 : decode cX0_isFull 14 = .ok (.ireturn, 1) := by decide +kernel
theorem dX0_put_0 : decode cX0_put 0 = .ok (.aload_n 0, 1) := by decide +kernel
theorem dX0_put_1 : decode cX0_put 1 = .ok (.invokevirtual 22, 3) := by decide +kernel
theorem dX0_put_4 : decode cX0_put 4 = .ok (.ifCond .ne 23, 3) := by decide +kernel
theorem dX0_put_7 : decode cX0_put 7 = .ok (.aload_n 0, 1) := by decide +kernel
theorem dX0_put_8 : decode cX0_put 8 = .ok (.getfield 9, 3) := by decide +kernel
theorem dX0_put_11 : decode cX0_put 11 = .ok (.aload_n 0, 1) := by decide +kernel
theorem dX0_put_12 : decode cX0_put 12 = .ok (.getfield 18, 3) := by decide +kernel
theorem dX0_put_15 : decode cX0_put 15 = .ok (.iload_n 1, 1) := by decide +kernel
theorem dX0_put_16 : decode cX0_put 16 = .ok (.iastore, 1) := by decide +kernel
theorem dX0_put_17 : decode cX0_put 17 = .ok (.aload_n 0, 1) := by decide +kernel
theorem dX0_put_18 : decode cX0_put 18 = .ok (.dup, 1) := by decide +kernel
theorem dX0_put_19 : decode cX0_put 19 = .ok (.getfield 18, 3) := by decide +kernel
theorem dX0_put_22 : decode cX0_put 22 = .ok (.iconst 1, 1) := by decide +kernel
theorem dX0_put_23 : decode cX0_put 23 = .ok (.iadd, 1) := by decide +kernel
theorem dX0_put_24 : decode cX0_put 24 = .ok (.putfield 18, 3) := by decide +kernel
theorem dX0_put_27 : decode cX0_put 27 = .ok (.return_, 1) := by decide +kernel
theorem dX0_tell_0 : decode cX0_tell 0 = .ok (.aload_n 0, 1) := by decide +kernel
theorem dX0_tell_1 : decode cX0_tell 1 = .ok (.iconst 0, 1) := by decide +kernel
theorem dX0_tell_2 : decode cX0_tell 2 = .ok (.putfield 18, 3) := by decide +kernel
theorem dX0_tell_5 : decode cX0_tell 5 = .ok (.aload_n 0, 1) := by decide +kernel
theorem dX0_tell_6 : decode cX0_tell 6 = .ok (.aload_n 1, 1) := by decide +kernel
theorem dX0_tell_7 : decode cX0_tell 7 = .ok (.getfield 26, 3) := by decide +kernel
theorem dX0_tell_10 : decode cX0_tell 10 = .ok (.iload_n 2, 1) := by decide +kernel
theorem dX0_tell_11 : decode cX0_tell 11 = .ok (.iaload, 1) := by decide +kernel
theorem dX0_tell_12 : decode cX0_tell 12 = .ok (.invokevirtual 31, 3) := by decide +kernel
theorem dX0_tell_15 : decode cX0_tell 15 = .ok (.aload_n 0, 1) := by decide +kernel
theorem dX0_tell_16 : decode cX0_tell 16 = .ok (.bipush 44, 2) := by decide +kernel
theorem dX0_tell_18 : decode cX0_tell 18 = .ok (.invokevirtual 35, 3) := by decide +kernel
theorem dX0_tell_21 : decode cX0_tell 21 = .ok (.aload_n 0, 1) := by decide +kernel
theorem dX0_tell_22 : decode cX0_tell 22 = .ok (.aload_n 1, 1) := by decide +kernel
theorem dX0_tell_23 : decode cX0_tell 23 = .ok (.getfield 38, 3) := by decide +kernel
theorem dX0_tell_26 : decode cX0_tell 26 = .ok (.iload_n 2, 1) := by decide +kernel
theorem dX0_tell_27 : decode cX0_tell 27 = .ok (.iaload, 1) := by decide +kernel
theorem dX0_tell_28 : decode cX0_tell 28 = .ok (.invokevirtual 31, 3) := by decide +kernel
theorem dX0_tell_31 : decode cX0_tell 31 = .ok (.aload_n 0, 1) := by decide +kernel
theorem dX0_tell_32 : decode cX0_tell 32 = .ok (.bipush 58, 2) := by decide +kernel
theorem dX0_tell_34 : decode cX0_tell 34 = .ok (.invokevirtual 35, 3) := by decide +kernel
theorem dX0_tell_37 : decode cX0_tell 37 = .ok (.aload_n 1, 1) := by decide +kernel
theorem dX0_tell_38 : decode cX0_tell 38 = .ok (.iload_n 2, 1) := by decide +kernel
theorem dX0_tell_39 : decode cX0_tell 39 = .ok (.invokevirtual 41, 3) := by decide +kernel
theorem dX0_tell_42 : decode cX0_tell 42 = .ok (.iconst 1, 1) := by decide +kernel
theorem dX0_tell_43 : decode cX0_tell 43 = .ok (.iadd, 1) := by decide +kernel
theorem dX0_tell_44 : decode cX0_tell 44 = .ok (.istore_n 3, 1) := by decide +kernel
theorem dX0_tell_45 : decode cX0_tell 45 = .ok (.iload_n 3, 1) := by decide +kernel
theorem dX0_tell_46 : decode cX0_tell 46 = .ok (.aload_n 1, 1) := by decide +kernel
theorem dX0_tell_47 : decode cX0_tell 47 = .ok (.iload_n 2, 1) := by decide +kernel
theorem dX0_tell_48 : decode cX0_tell 48 = .ok (.invokevirtual 45, 3) := by decide +kernel
theorem dX0_tell_51 : decode cX0_tell 51 = .ok (.if_icmp .ge 44, 3) := by decide +kernel
theorem dX0_tell_54 : decode cX0_tell 54 = .ok (.aload_n 1, 1) := by decide +kernel
theorem dX0_tell_55 : decode cX0_tell 55 = .ok (.getfield 48, 3) := by decide +kernel
theorem dX0_tell_58 : decode cX0_tell 58 = .ok (.iload_n 3, 1) := by decide +kernel
theorem dX0_tell_59 : decode cX0_tell 59 = .ok (.iaload, 1) := by decide +kernel
theorem dX0_tell_60 : decode cX0_tell 60 = .ok (.istore 4, 2) := by decide +kernel
theorem dX0_tell_62 : decode cX0_tell 62 = .ok (.aload_n 0, 1) := by decide +kernel
theorem dX0_tell_63 : decode cX0_tell 63 = .ok (.iload 4, 2) := by decide +kernel
theorem dX0_tell_65 : decode cX0_tell 65 = .ok (.bipush 10, 2) := by decide +kernel
theorem dX0_tell_67 : decode cX0_tell 67 = .ok (.if_icmp .ge 11, 3) := by decide +kernel
theorem dX0_tell_70 : decode cX0_tell 70 = .ok (.bipush 48, 2) := by decide +kernel
theorem dX0_tell_72 : decode cX0_tell 72 = .ok (.iload 4, 2) := by decide +kernel
theorem dX0_tell_74 : decode cX0_tell 74 = .ok (.iadd, 1) := by decide +kernel
theorem dX0_tell_75 : decode cX0_tell 75 = .ok (.goto 11, 3) := by decide +kernel
theorem dX0_tell_78 : decode cX0_tell 78 = .ok (.bipush 97, 2) := by decide +kernel
theorem dX0_tell_80 : decode cX0_tell 80 = .ok (.iload 4, 2) := by decide +kernel
theorem dX0_tell_82 : decode cX0_tell 82 = .ok (.iadd, 1) := by decide +kernel
theorem dX0_tell_83 : decode cX0_tell 83 = .ok (.bipush 10, 2) := by decide +kernel
theorem dX0_tell_85 : decode cX0_tell 85 = .ok (.isub, 1) := by decide +kernel
theorem dX0_tell_86 : decode cX0_tell 86 = .ok (.invokevirtual 35, 3) := by decide +kernel
theorem dX0_tell_89 : decode cX0_tell 89 = .ok (.iinc 3 1, 3) := by decide +kernel
theorem dX0_tell_92 : decode cX0_tell 92 = .ok (.goto (-47), 3) := by decide +kernel
theorem dX0_tell_95 : decode cX0_tell 95 = .ok (.return_, 1) := by decide +kernel
theorem dX0_putNumber_0 : decode cX0_putNumber 0 = .ok (.iload_n 1, 1) := by decide +kernel
theorem dX0_putNumber_1 : decode cX0_putNumber 1 = .ok (.ifCond .ge 9, 3) := by decide +kernel
theorem dX0_putNumber_4 : decode cX0_putNumber 4 = .ok (.aload_n 0, 1) := by decide +kernel
theorem dX0_putNumber_5 : decode cX0_putNumber 5 = .ok (.bipush 45, 2) := by decide +kernel
theorem dX0_putNumber_7 : decode cX0_putNumber 7 = .ok (.invokevirtual 35, 3) := by decide +kernel
theorem dX0_putNumber_10 : decode cX0_putNumber 10 = .ok (.iload_n 1, 1) := by decide +kernel
theorem dX0_putNumber_11 : decode cX0_putNumber 11 = .ok (.invokestatic 49, 3) := by decide +kernel
theorem dX0_putNumber_14 : decode cX0_putNumber 14 = .ok (.istore_n 2, 1) := by decide +kernel
theorem dX0_putNumber_15 : decode cX0_putNumber 15 = .ok (.sipush 1000, 3) := by decide +kernel
theorem dX0_putNumber_18 : decode cX0_putNumber 18 = .ok (.istore_n 3, 1) := by decide +kernel
theorem dX0_putNumber_19 : decode cX0_putNumber 19 = .ok (.iload_n 3, 1) := by decide +kernel
theorem dX0_putNumber_20 : decode cX0_putNumber 20 = .ok (.ifCond .le 34, 3) := by decide +kernel
theorem dX0_putNumber_23 : decode cX0_putNumber 23 = .ok (.iload_n 2, 1) := by decide +kernel
theorem dX0_putNumber_24 : decode cX0_putNumber 24 = .ok (.iload_n 3, 1) := by decide +kernel
theorem dX0_putNumber_25 : decode cX0_putNumber 25 = .ok (.if_icmp .ge 8, 3) := by decide +kernel
theorem dX0_putNumber_28 : decode cX0_putNumber 28 = .ok (.iload_n 3, 1) := by decide +kernel
theorem dX0_putNumber_29 : decode cX0_putNumber 29 = .ok (.iconst 1, 1) := by decide +kernel
theorem dX0_putNumber_30 : decode cX0_putNumber 30 = .ok (.if_icmp .ne 16, 3) := by decide +kernel
theorem dX0_putNumber_33 : decode cX0_putNumber 33 = .ok (.aload_n 0, 1) := by decide +kernel
theorem dX0_putNumber_34 : decode cX0_putNumber 34 = .ok (.bipush 48, 2) := by decide +kernel
theorem dX0_putNumber_36 : decode cX0_putNumber 36 = .ok (.iload_n 2, 1) := by decide +kernel
theorem dX0_putNumber_37 : decode cX0_putNumber 37 = .ok (.iload_n 3, 1) := by decide +kernel
theorem dX0_putNumber_38 : decode cX0_putNumber 38 = .ok (.idiv, 1) := by decide +kernel
theorem dX0_putNumber_39 : decode cX0_putNumber 39 = .ok (.bipush 10, 2) := by decide +kernel
theorem dX0_putNumber_41 : decode cX0_putNumber 41 = .ok (.irem, 1) := by decide +kernel
theorem dX0_putNumber_42 : decode cX0_putNumber 42 = .ok (.iadd, 1) := by decide +kernel
theorem dX0_putNumber_43 : decode cX0_putNumber 43 = .ok (.invokevirtual 35, 3) := by decide +kernel
theorem dX0_putNumber_46 : decode cX0_putNumber 46 = .ok (.iload_n 3, 1) := by decide +kernel
theorem dX0_putNumber_47 : decode cX0_putNumber 47 = .ok (.bipush 10, 2) := by decide +kernel
theorem dX0_putNumber_49 : decode cX0_putNumber 49 = .ok (.idiv, 1) := by decide +kernel
theorem dX0_putNumber_50 : decode cX0_putNumber 50 = .ok (.istore_n 3, 1) := by decide +kernel
theorem dX0_putNumber_51 : decode cX0_putNumber 51 = .ok (.goto (-32), 3) := by decide +kernel
theorem dX0_putNumber_54 : decode cX0_putNumber 54 = .ok (.return_, 1) := by decide +kernel
theorem dX0_tellsBlock_0 : decode cX0_tellsBlock 0 = .ok (.aload_n 0, 1) := by decide +kernel
theorem dX0_tellsBlock_1 : decode cX0_tellsBlock 1 = .ok (.invokevirtual 54, 3) := by decide +kernel
theorem dX0_tellsBlock_4 : decode cX0_tellsBlock 4 = .ok (.aload_n 0, 1) := by decide +kernel
theorem dX0_tellsBlock_5 : decode cX0_tellsBlock 5 = .ok (.getfield 18, 3) := by decide +kernel
theorem dX0_tellsBlock_8 : decode cX0_tellsBlock 8 = .ok (.if_icmp .ne 15, 3) := by decide +kernel
theorem dX0_tellsBlock_11 : decode cX0_tellsBlock 11 = .ok (.aload_n 0, 1) := by decide +kernel
theorem dX0_tellsBlock_12 : decode cX0_tellsBlock 12 = .ok (.getfield 58, 3) := by decide +kernel
theorem dX0_tellsBlock_15 : decode cX0_tellsBlock 15 = .ok (.iconst 2, 1) := by decide +kernel
theorem dX0_tellsBlock_16 : decode cX0_tellsBlock 16 = .ok (.if_icmp .ne 7, 3) := by decide +kernel
theorem dX0_tellsBlock_19 : decode cX0_tellsBlock 19 = .ok (.iconst 1, 1) := by decide +kernel
theorem dX0_tellsBlock_20 : decode cX0_tellsBlock 20 = .ok (.goto 4, 3) := by decide +kernel
theorem dX0_tellsBlock_23 : decode cX0_tellsBlock 23 = .ok (.iconst 0, 1) := by decide +kernel
theorem dX0_tellsBlock_24 : decode cX0_tellsBlock 24 = .ok (.ireturn, 1) := by decide +kernel
theorem dX0_read_0 : decode cX0_read 0 = .ok (.aload_n 0, 1) := by decide +kernel
theorem dX0_read_1 : decode cX0_read 1 = .ok (.iconst 0, 1) := by decide +kernel
theorem dX0_read_2 : decode cX0_read 2 = .ok (.putfield 58, 3) := by decide +kernel
theorem dX0_read_5 : decode cX0_read 5 = .ok (.aload_n 0, 1) := by decide +kernel
theorem dX0_read_6 : decode cX0_read 6 = .ok (.iconst 0, 1) := by decide +kernel
theorem dX0_read_7 : decode cX0_read 7 = .ok (.putfield 61, 3) := by decide +kernel
theorem dX0_read_10 : decode cX0_read 10 = .ok (.aload_n 0, 1) := by decide +kernel
theorem dX0_read_11 : decode cX0_read 11 = .ok (.iconst 0, 1) := by decide +kernel
theorem dX0_read_12 : decode cX0_read 12 = .ok (.putfield 65, 3) := by decide +kernel
theorem dX0_read_15 : decode cX0_read 15 = .ok (.aload_n 0, 1) := by decide +kernel
theorem dX0_read_16 : decode cX0_read 16 = .ok (.invokevirtual 68, 3) := by decide +kernel
theorem dX0_read_19 : decode cX0_read 19 = .ok (.iconst 0, 1) := by decide +kernel
theorem dX0_read_20 : decode cX0_read 20 = .ok (.istore_n 1, 1) := by decide +kernel
theorem dX0_read_21 : decode cX0_read 21 = .ok (.iload_n 1, 1) := by decide +kernel
theorem dX0_read_22 : decode cX0_read 22 = .ok (.aload_n 0, 1) := by decide +kernel
theorem dX0_read_23 : decode cX0_read 23 = .ok (.getfield 18, 3) := by decide +kernel
theorem dX0_read_26 : decode cX0_read 26 = .ok (.if_icmp .ge 24, 3) := by decide +kernel
theorem dX0_read_29 : decode cX0_read 29 = .ok (.aload_n 0, 1) := by decide +kernel
theorem dX0_read_30 : decode cX0_read 30 = .ok (.aload_n 0, 1) := by decide +kernel
theorem dX0_read_31 : decode cX0_read 31 = .ok (.getfield 9, 3) := by decide +kernel
theorem dX0_read_34 : decode cX0_read 34 = .ok (.iload_n 1, 1) := by decide +kernel
theorem dX0_read_35 : decode cX0_read 35 = .ok (.iaload, 1) := by decide +kernel
theorem dX0_read_36 : decode cX0_read 36 = .ok (.invokevirtual 71, 3) := by decide +kernel
theorem dX0_read_39 : decode cX0_read 39 = .ok (.ifCond .ne 5, 3) := by decide +kernel
theorem dX0_read_42 : decode cX0_read 42 = .ok (.iload_n 1, 1) := by decide +kernel
theorem dX0_read_43 : decode cX0_read 43 = .ok (.ireturn, 1) := by decide +kernel
theorem dX0_read_44 : decode cX0_read 44 = .ok (.iinc 1 1, 3) := by decide +kernel
theorem dX0_read_47 : decode cX0_read 47 = .ok (.goto (-26), 3) := by decide +kernel
theorem dX0_read_50 : decode cX0_read 50 = .ok (.aload_n 0, 1) := by decide +kernel
theorem dX0_read_51 : decode cX0_read 51 = .ok (.getfield 18, 3) := by decide +kernel
theorem dX0_read_54 : decode cX0_read 54 = .ok (.ireturn, 1) := by decide +kernel
theorem dX0_readsOn_0 : decode cX0_readsOn 0 = .ok (.aload_n 0, 1) := by decide +kernel
theorem dX0_readsOn_1 : decode cX0_readsOn 1 = .ok (.getfield 58, 3) := by decide +kernel
theorem dX0_readsOn_4 : decode cX0_readsOn 4 = .ok (.lookupswitch 40 #[(0, 28), (1, 34)], 28) := by decide +kernel
theorem dX0_readsOn_32 : decode cX0_readsOn 32 = .ok (.aload_n 0, 1) := by decide +kernel
theorem dX0_readsOn_33 : decode cX0_readsOn 33 = .ok (.iload_n 1, 1) := by decide +kernel
theorem dX0_readsOn_34 : decode cX0_readsOn 34 = .ok (.invokevirtual 75, 3) := by decide +kernel
theorem dX0_readsOn_37 : decode cX0_readsOn 37 = .ok (.ireturn, 1) := by decide +kernel
theorem dX0_readsOn_38 : decode cX0_readsOn 38 = .ok (.aload_n 0, 1) := by decide +kernel
theorem dX0_readsOn_39 : decode cX0_readsOn 39 = .ok (.iload_n 1, 1) := by decide +kernel
theorem dX0_readsOn_40 : decode cX0_readsOn 40 = .ok (.invokevirtual 78, 3) := by decide +kernel
theorem dX0_readsOn_43 : decode cX0_readsOn 43 = .ok (.ireturn, 1) := by decide +kernel
theorem dX0_readsOn_44 : decode cX0_readsOn 44 = .ok (.aload_n 0, 1) := by decide +kernel
theorem dX0_readsOn_45 : decode cX0_readsOn 45 = .ok (.iload_n 1, 1) := by decide +kernel
theorem dX0_readsOn_46 : decode cX0_readsOn 46 = .ok (.invokevirtual 81, 3) := by decide +kernel
theorem dX0_readsOn_49 : decode cX0_readsOn 49 = .ok (.ireturn, 1) := by decide +kernel
theorem dX0_readsFirst_0 : decode cX0_readsFirst 0 = .ok (.iload_n 1, 1) := by decide +kernel
theorem dX0_readsFirst_1 : decode cX0_readsFirst 1 = .ok (.bipush 45, 2) := by decide +kernel
theorem dX0_readsFirst_3 : decode cX0_readsFirst 3 = .ok (.if_icmp .ne 24, 3) := by decide +kernel
theorem dX0_readsFirst_6 : decode cX0_readsFirst 6 = .ok (.aload_n 0, 1) := by decide +kernel
theorem dX0_readsFirst_7 : decode cX0_readsFirst 7 = .ok (.getfield 61, 3) := by decide +kernel
theorem dX0_readsFirst_10 : decode cX0_readsFirst 10 = .ok (.ifCond .ne 17, 3) := by decide +kernel
theorem dX0_readsFirst_13 : decode cX0_readsFirst 13 = .ok (.aload_n 0, 1) := by decide +kernel
theorem dX0_readsFirst_14 : decode cX0_readsFirst 14 = .ok (.getfield 84, 3) := by decide +kernel
theorem dX0_readsFirst_17 : decode cX0_readsFirst 17 = .ok (.ifCond .ne 10, 3) := by decide +kernel
theorem dX0_readsFirst_20 : decode cX0_readsFirst 20 = .ok (.aload_n 0, 1) := by decide +kernel
theorem dX0_readsFirst_21 : decode cX0_readsFirst 21 = .ok (.iconst 1, 1) := by decide +kernel
theorem dX0_readsFirst_22 : decode cX0_readsFirst 22 = .ok (.putfield 61, 3) := by decide +kernel
theorem dX0_readsFirst_25 : decode cX0_readsFirst 25 = .ok (.iconst 1, 1) := by decide +kernel
theorem dX0_readsFirst_26 : decode cX0_readsFirst 26 = .ok (.ireturn, 1) := by decide +kernel
theorem dX0_readsFirst_27 : decode cX0_readsFirst 27 = .ok (.iload_n 1, 1) := by decide +kernel
theorem dX0_readsFirst_28 : decode cX0_readsFirst 28 = .ok (.bipush 44, 2) := by decide +kernel
theorem dX0_readsFirst_30 : decode cX0_readsFirst 30 = .ok (.if_icmp .ne 44, 3) := by decide +kernel
theorem dX0_readsFirst_33 : decode cX0_readsFirst 33 = .ok (.aload_n 0, 1) := by decide +kernel
theorem dX0_readsFirst_34 : decode cX0_readsFirst 34 = .ok (.getfield 84, 3) := by decide +kernel
theorem dX0_readsFirst_37 : decode cX0_readsFirst 37 = .ok (.ifCond .eq 37, 3) := by decide +kernel
theorem dX0_readsFirst_40 : decode cX0_readsFirst 40 = .ok (.aload_n 0, 1) := by decide +kernel
theorem dX0_readsFirst_41 : decode cX0_readsFirst 41 = .ok (.aload_n 0, 1) := by decide +kernel
theorem dX0_readsFirst_42 : decode cX0_readsFirst 42 = .ok (.getfield 61, 3) := by decide +kernel
theorem dX0_readsFirst_45 : decode cX0_readsFirst 45 = .ok (.ifCond .eq 11, 3) := by decide +kernel
theorem dX0_readsFirst_48 : decode cX0_readsFirst 48 = .ok (.aload_n 0, 1) := by decide +kernel
theorem dX0_readsFirst_49 : decode cX0_readsFirst 49 = .ok (.getfield 87, 3) := by decide +kernel
theorem dX0_readsFirst_52 : decode cX0_readsFirst 52 = .ok (.ineg, 1) := by decide +kernel
theorem dX0_readsFirst_53 : decode cX0_readsFirst 53 = .ok (.goto 7, 3) := by decide +kernel
theorem dX0_readsFirst_56 : decode cX0_readsFirst 56 = .ok (.aload_n 0, 1) := by decide +kernel
theorem dX0_readsFirst_57 : decode cX0_readsFirst 57 = .ok (.getfield 87, 3) := by decide +kernel
theorem dX0_readsFirst_60 : decode cX0_readsFirst 60 = .ok (.putfield 90, 3) := by decide +kernel
theorem dX0_readsFirst_63 : decode cX0_readsFirst 63 = .ok (.aload_n 0, 1) := by decide +kernel
theorem dX0_readsFirst_64 : decode cX0_readsFirst 64 = .ok (.iconst 1, 1) := by decide +kernel
theorem dX0_readsFirst_65 : decode cX0_readsFirst 65 = .ok (.putfield 58, 3) := by decide +kernel
theorem dX0_readsFirst_68 : decode cX0_readsFirst 68 = .ok (.aload_n 0, 1) := by decide +kernel
theorem dX0_readsFirst_69 : decode cX0_readsFirst 69 = .ok (.invokevirtual 68, 3) := by decide +kernel
theorem dX0_readsFirst_72 : decode cX0_readsFirst 72 = .ok (.iconst 1, 1) := by decide +kernel
theorem dX0_readsFirst_73 : decode cX0_readsFirst 73 = .ok (.ireturn, 1) := by decide +kernel
theorem dX0_readsFirst_74 : decode cX0_readsFirst 74 = .ok (.aload_n 0, 1) := by decide +kernel
theorem dX0_readsFirst_75 : decode cX0_readsFirst 75 = .ok (.getfield 61, 3) := by decide +kernel
theorem dX0_readsFirst_78 : decode cX0_readsFirst 78 = .ok (.ifCond .eq 20, 3) := by decide +kernel
theorem dX0_readsFirst_81 : decode cX0_readsFirst 81 = .ok (.aload_n 0, 1) := by decide +kernel
theorem dX0_readsFirst_82 : decode cX0_readsFirst 82 = .ok (.getfield 84, 3) := by decide +kernel
theorem dX0_readsFirst_85 : decode cX0_readsFirst 85 = .ok (.ifCond .ne 13, 3) := by decide +kernel
theorem dX0_readsFirst_88 : decode cX0_readsFirst 88 = .ok (.iload_n 1, 1) := by decide +kernel
theorem dX0_readsFirst_89 : decode cX0_readsFirst 89 = .ok (.bipush 48, 2) := by decide +kernel
theorem dX0_readsFirst_91 : decode cX0_readsFirst 91 = .ok (.if_icmp .ne 7, 3) := by decide +kernel
theorem dX0_readsFirst_94 : decode cX0_readsFirst 94 = .ok (.iconst 1, 1) := by decide +kernel
theorem dX0_readsFirst_95 : decode cX0_readsFirst 95 = .ok (.goto 4, 3) := by decide +kernel
theorem dX0_readsFirst_98 : decode cX0_readsFirst 98 = .ok (.iconst 0, 1) := by decide +kernel
theorem dX0_readsFirst_99 : decode cX0_readsFirst 99 = .ok (.istore_n 2, 1) := by decide +kernel
theorem dX0_readsFirst_100 : decode cX0_readsFirst 100 = .ok (.iload_n 2, 1) := by decide +kernel
theorem dX0_readsFirst_101 : decode cX0_readsFirst 101 = .ok (.ifCond .ne 31, 3) := by decide +kernel
theorem dX0_readsFirst_104 : decode cX0_readsFirst 104 = .ok (.aload_n 0, 1) := by decide +kernel
theorem dX0_readsFirst_105 : decode cX0_readsFirst 105 = .ok (.iload_n 1, 1) := by decide +kernel
theorem dX0_readsFirst_106 : decode cX0_readsFirst 106 = .ok (.aload_n 0, 1) := by decide +kernel
theorem dX0_readsFirst_107 : decode cX0_readsFirst 107 = .ok (.getfield 61, 3) := by decide +kernel
theorem dX0_readsFirst_110 : decode cX0_readsFirst 110 = .ok (.ifCond .eq 9, 3) := by decide +kernel
theorem dX0_readsFirst_113 : decode cX0_readsFirst 113 = .ok (.sipush 2048, 3) := by decide +kernel
theorem dX0_readsFirst_116 : decode cX0_readsFirst 116 = .ok (.goto 6, 3) := by decide +kernel
theorem dX0_readsFirst_119 : decode cX0_readsFirst 119 = .ok (.sipush 2047, 3) := by decide +kernel
theorem dX0_readsFirst_122 : decode cX0_readsFirst 122 = .ok (.invokevirtual 93, 3) := by decide +kernel
theorem dX0_readsFirst_125 : decode cX0_readsFirst 125 = .ok (.ifCond .eq 7, 3) := by decide +kernel
theorem dX0_readsFirst_128 : decode cX0_readsFirst 128 = .ok (.iconst 1, 1) := by decide +kernel
theorem dX0_readsFirst_129 : decode cX0_readsFirst 129 = .ok (.goto 4, 3) := by decide +kernel
theorem dX0_readsFirst_132 : decode cX0_readsFirst 132 = .ok (.iconst 0, 1) := by decide +kernel
theorem dX0_readsFirst_133 : decode cX0_readsFirst 133 = .ok (.ireturn, 1) := by decide +kernel
theorem dX0_readsNumber_0 : decode cX0_readsNumber 0 = .ok (.iload_n 1, 1) := by decide +kernel
theorem dX0_readsNumber_1 : decode cX0_readsNumber 1 = .ok (.bipush 58, 2) := by decide +kernel
theorem dX0_readsNumber_3 : decode cX0_readsNumber 3 = .ok (.if_icmp .ne 25, 3) := by decide +kernel
theorem dX0_readsNumber_6 : decode cX0_readsNumber 6 = .ok (.aload_n 0, 1) := by decide +kernel
theorem dX0_readsNumber_7 : decode cX0_readsNumber 7 = .ok (.getfield 84, 3) := by decide +kernel
theorem dX0_readsNumber_10 : decode cX0_readsNumber 10 = .ok (.ifCond .eq 18, 3) := by decide +kernel
theorem dX0_readsNumber_13 : decode cX0_readsNumber 13 = .ok (.aload_n 0, 1) := by decide +kernel
theorem dX0_readsNumber_14 : decode cX0_readsNumber 14 = .ok (.aload_n 0, 1) := by decide +kernel
theorem dX0_readsNumber_15 : decode cX0_readsNumber 15 = .ok (.getfield 87, 3) := by decide +kernel
theorem dX0_readsNumber_18 : decode cX0_readsNumber 18 = .ok (.putfield 97, 3) := by decide +kernel
theorem dX0_readsNumber_21 : decode cX0_readsNumber 21 = .ok (.aload_n 0, 1) := by decide +kernel
theorem dX0_readsNumber_22 : decode cX0_readsNumber 22 = .ok (.iconst 2, 1) := by decide +kernel
theorem dX0_readsNumber_23 : decode cX0_readsNumber 23 = .ok (.putfield 58, 3) := by decide +kernel
theorem dX0_readsNumber_26 : decode cX0_readsNumber 26 = .ok (.iconst 1, 1) := by decide +kernel
theorem dX0_readsNumber_27 : decode cX0_readsNumber 27 = .ok (.ireturn, 1) := by decide +kernel
theorem dX0_readsNumber_28 : decode cX0_readsNumber 28 = .ok (.aload_n 0, 1) := by decide +kernel
theorem dX0_readsNumber_29 : decode cX0_readsNumber 29 = .ok (.iload_n 1, 1) := by decide +kernel
theorem dX0_readsNumber_30 : decode cX0_readsNumber 30 = .ok (.bipush 48, 2) := by decide +kernel
theorem dX0_readsNumber_32 : decode cX0_readsNumber 32 = .ok (.invokevirtual 93, 3) := by decide +kernel
theorem dX0_readsNumber_35 : decode cX0_readsNumber 35 = .ok (.ireturn, 1) := by decide +kernel
theorem dX0_readsCode_0 : decode cX0_readsCode 0 = .ok (.iconst (-1), 1) := by decide +kernel
theorem dX0_readsCode_1 : decode cX0_readsCode 1 = .ok (.istore_n 2, 1) := by decide +kernel
theorem dX0_readsCode_2 : decode cX0_readsCode 2 = .ok (.iload_n 1, 1) := by decide +kernel
theorem dX0_readsCode_3 : decode cX0_readsCode 3 = .ok (.bipush 48, 2) := by decide +kernel
theorem dX0_readsCode_5 : decode cX0_readsCode 5 = .ok (.if_icmp .lt 17, 3) := by decide +kernel
theorem dX0_readsCode_8 : decode cX0_readsCode 8 = .ok (.iload_n 1, 1) := by decide +kernel
theorem dX0_readsCode_9 : decode cX0_readsCode 9 = .ok (.bipush 57, 2) := by decide +kernel
theorem dX0_readsCode_11 : decode cX0_readsCode 11 = .ok (.if_icmp .gt 11, 3) := by decide +kernel
theorem dX0_readsCode_14 : decode cX0_readsCode 14 = .ok (.iload_n 1, 1) := by decide +kernel
theorem dX0_readsCode_15 : decode cX0_readsCode 15 = .ok (.bipush 48, 2) := by decide +kernel
theorem dX0_readsCode_17 : decode cX0_readsCode 17 = .ok (.isub, 1) := by decide +kernel
theorem dX0_readsCode_18 : decode cX0_readsCode 18 = .ok (.istore_n 2, 1) := by decide +kernel
theorem dX0_readsCode_19 : decode cX0_readsCode 19 = .ok (.goto 23, 3) := by decide +kernel
theorem dX0_readsCode_22 : decode cX0_readsCode 22 = .ok (.iload_n 1, 1) := by decide +kernel
theorem dX0_readsCode_23 : decode cX0_readsCode 23 = .ok (.bipush 97, 2) := by decide +kernel
theorem dX0_readsCode_25 : decode cX0_readsCode 25 = .ok (.if_icmp .lt 17, 3) := by decide +kernel
theorem dX0_readsCode_28 : decode cX0_readsCode 28 = .ok (.iload_n 1, 1) := by decide +kernel
theorem dX0_readsCode_29 : decode cX0_readsCode 29 = .ok (.bipush 102, 2) := by decide +kernel
theorem dX0_readsCode_31 : decode cX0_readsCode 31 = .ok (.if_icmp .gt 11, 3) := by decide +kernel
theorem dX0_readsCode_34 : decode cX0_readsCode 34 = .ok (.iload_n 1, 1) := by decide +kernel
theorem dX0_readsCode_35 : decode cX0_readsCode 35 = .ok (.bipush 97, 2) := by decide +kernel
theorem dX0_readsCode_37 : decode cX0_readsCode 37 = .ok (.isub, 1) := by decide +kernel
theorem dX0_readsCode_38 : decode cX0_readsCode 38 = .ok (.bipush 10, 2) := by decide +kernel
theorem dX0_readsCode_40 : decode cX0_readsCode 40 = .ok (.iadd, 1) := by decide +kernel
theorem dX0_readsCode_41 : decode cX0_readsCode 41 = .ok (.istore_n 2, 1) := by decide +kernel
theorem dX0_readsCode_42 : decode cX0_readsCode 42 = .ok (.iload_n 2, 1) := by decide +kernel
theorem dX0_readsCode_43 : decode cX0_readsCode 43 = .ok (.iconst (-1), 1) := by decide +kernel
theorem dX0_readsCode_44 : decode cX0_readsCode 44 = .ok (.if_icmp .eq 15, 3) := by decide +kernel
theorem dX0_readsCode_47 : decode cX0_readsCode 47 = .ok (.aload_n 0, 1) := by decide +kernel
theorem dX0_readsCode_48 : decode cX0_readsCode 48 = .ok (.getfield 65, 3) := by decide +kernel
theorem dX0_readsCode_51 : decode cX0_readsCode 51 = .ok (.aload_n 0, 1) := by decide +kernel
theorem dX0_readsCode_52 : decode cX0_readsCode 52 = .ok (.getfield 15, 3) := by decide +kernel
theorem dX0_readsCode_55 : decode cX0_readsCode 55 = .ok (.arraylength, 1) := by decide +kernel
theorem dX0_readsCode_56 : decode cX0_readsCode 56 = .ok (.if_icmp .lt 5, 3) := by decide +kernel
theorem dX0_readsCode_59 : decode cX0_readsCode 59 = .ok (.iconst 0, 1) := by decide +kernel
theorem dX0_readsCode_60 : decode cX0_readsCode 60 = .ok (.ireturn, 1) := by decide +kernel
theorem dX0_readsCode_61 : decode cX0_readsCode 61 = .ok (.aload_n 0, 1) := by decide +kernel
theorem dX0_readsCode_62 : decode cX0_readsCode 62 = .ok (.getfield 15, 3) := by decide +kernel
theorem dX0_readsCode_65 : decode cX0_readsCode 65 = .ok (.aload_n 0, 1) := by decide +kernel
theorem dX0_readsCode_66 : decode cX0_readsCode 66 = .ok (.getfield 65, 3) := by decide +kernel
theorem dX0_readsCode_69 : decode cX0_readsCode 69 = .ok (.iload_n 2, 1) := by decide +kernel
theorem dX0_readsCode_70 : decode cX0_readsCode 70 = .ok (.iastore, 1) := by decide +kernel
theorem dX0_readsCode_71 : decode cX0_readsCode 71 = .ok (.aload_n 0, 1) := by decide +kernel
theorem dX0_readsCode_72 : decode cX0_readsCode 72 = .ok (.dup, 1) := by decide +kernel
theorem dX0_readsCode_73 : decode cX0_readsCode 73 = .ok (.getfield 65, 3) := by decide +kernel
theorem dX0_readsCode_76 : decode cX0_readsCode 76 = .ok (.iconst 1, 1) := by decide +kernel
theorem dX0_readsCode_77 : decode cX0_readsCode 77 = .ok (.iadd, 1) := by decide +kernel
theorem dX0_readsCode_78 : decode cX0_readsCode 78 = .ok (.putfield 65, 3) := by decide +kernel
theorem dX0_readsCode_81 : decode cX0_readsCode 81 = .ok (.iconst 1, 1) := by decide +kernel
theorem dX0_readsCode_82 : decode cX0_readsCode 82 = .ok (.ireturn, 1) := by decide +kernel
theorem dX0_beginDigits_0 : decode cX0_beginDigits 0 = .ok (.aload_n 0, 1) := by decide +kernel
theorem dX0_beginDigits_1 : decode cX0_beginDigits 1 = .ok (.iconst 0, 1) := by decide +kernel
theorem dX0_beginDigits_2 : decode cX0_beginDigits 2 = .ok (.putfield 87, 3) := by decide +kernel
theorem dX0_beginDigits_5 : decode cX0_beginDigits 5 = .ok (.aload_n 0, 1) := by decide +kernel
theorem dX0_beginDigits_6 : decode cX0_beginDigits 6 = .ok (.iconst 0, 1) := by decide +kernel
theorem dX0_beginDigits_7 : decode cX0_beginDigits 7 = .ok (.putfield 84, 3) := by decide +kernel
theorem dX0_beginDigits_10 : decode cX0_beginDigits 10 = .ok (.return_, 1) := by decide +kernel
theorem dX0_readsDigit_0 : decode cX0_readsDigit 0 = .ok (.aload_n 0, 1) := by decide +kernel
theorem dX0_readsDigit_1 : decode cX0_readsDigit 1 = .ok (.getfield 84, 3) := by decide +kernel
theorem dX0_readsDigit_4 : decode cX0_readsDigit 4 = .ok (.ifCond .eq 14, 3) := by decide +kernel
theorem dX0_readsDigit_7 : decode cX0_readsDigit 7 = .ok (.aload_n 0, 1) := by decide +kernel
theorem dX0_readsDigit_8 : decode cX0_readsDigit 8 = .ok (.getfield 87, 3) := by decide +kernel
theorem dX0_readsDigit_11 : decode cX0_readsDigit 11 = .ok (.ifCond .ne 7, 3) := by decide +kernel
theorem dX0_readsDigit_14 : decode cX0_readsDigit 14 = .ok (.iconst 1, 1) := by decide +kernel
theorem dX0_readsDigit_15 : decode cX0_readsDigit 15 = .ok (.goto 4, 3) := by decide +kernel
theorem dX0_readsDigit_18 : decode cX0_readsDigit 18 = .ok (.iconst 0, 1) := by decide +kernel
theorem dX0_readsDigit_19 : decode cX0_readsDigit 19 = .ok (.istore_n 3, 1) := by decide +kernel
theorem dX0_readsDigit_20 : decode cX0_readsDigit 20 = .ok (.iload_n 1, 1) := by decide +kernel
theorem dX0_readsDigit_21 : decode cX0_readsDigit 21 = .ok (.bipush 48, 2) := by decide +kernel
theorem dX0_readsDigit_23 : decode cX0_readsDigit 23 = .ok (.if_icmp .lt 13, 3) := by decide +kernel
theorem dX0_readsDigit_26 : decode cX0_readsDigit 26 = .ok (.iload_n 1, 1) := by decide +kernel
theorem dX0_readsDigit_27 : decode cX0_readsDigit 27 = .ok (.bipush 57, 2) := by decide +kernel
theorem dX0_readsDigit_29 : decode cX0_readsDigit 29 = .ok (.if_icmp .gt 7, 3) := by decide +kernel
theorem dX0_readsDigit_32 : decode cX0_readsDigit 32 = .ok (.iload_n 3, 1) := by decide +kernel
theorem dX0_readsDigit_33 : decode cX0_readsDigit 33 = .ok (.ifCond .eq 5, 3) := by decide +kernel
theorem dX0_readsDigit_36 : decode cX0_readsDigit 36 = .ok (.iconst 0, 1) := by decide +kernel
theorem dX0_readsDigit_37 : decode cX0_readsDigit 37 = .ok (.ireturn, 1) := by decide +kernel
theorem dX0_readsDigit_38 : decode cX0_readsDigit 38 = .ok (.bipush 10, 2) := by decide +kernel
theorem dX0_readsDigit_40 : decode cX0_readsDigit 40 = .ok (.aload_n 0, 1) := by decide +kernel
theorem dX0_readsDigit_41 : decode cX0_readsDigit 41 = .ok (.getfield 87, 3) := by decide +kernel
theorem dX0_readsDigit_44 : decode cX0_readsDigit 44 = .ok (.imul, 1) := by decide +kernel
theorem dX0_readsDigit_45 : decode cX0_readsDigit 45 = .ok (.iload_n 1, 1) := by decide +kernel
theorem dX0_readsDigit_46 : decode cX0_readsDigit 46 = .ok (.iadd, 1) := by decide +kernel
theorem dX0_readsDigit_47 : decode cX0_readsDigit 47 = .ok (.bipush 48, 2) := by decide +kernel
theorem dX0_readsDigit_49 : decode cX0_readsDigit 49 = .ok (.isub, 1) := by decide +kernel
theorem dX0_readsDigit_50 : decode cX0_readsDigit 50 = .ok (.istore 4, 2) := by decide +kernel
theorem dX0_readsDigit_52 : decode cX0_readsDigit 52 = .ok (.iload 4, 2) := by decide +kernel
theorem dX0_readsDigit_54 : decode cX0_readsDigit 54 = .ok (.iload_n 2, 1) := by decide +kernel
theorem dX0_readsDigit_55 : decode cX0_readsDigit 55 = .ok (.if_icmp .le 5, 3) := by decide +kernel
theorem dX0_readsDigit_58 : decode cX0_readsDigit 58 = .ok (.iconst 0, 1) := by decide +kernel
theorem dX0_readsDigit_59 : decode cX0_readsDigit 59 = .ok (.ireturn, 1) := by decide +kernel
theorem dX0_readsDigit_60 : decode cX0_readsDigit 60 = .ok (.aload_n 0, 1) := by decide +kernel
theorem dX0_readsDigit_61 : decode cX0_readsDigit 61 = .ok (.iload 4, 2) := by decide +kernel
theorem dX0_readsDigit_63 : decode cX0_readsDigit 63 = .ok (.putfield 87, 3) := by decide +kernel
theorem dX0_readsDigit_66 : decode cX0_readsDigit 66 = .ok (.aload_n 0, 1) := by decide +kernel
theorem dX0_readsDigit_67 : decode cX0_readsDigit 67 = .ok (.iconst 1, 1) := by decide +kernel
theorem dX0_readsDigit_68 : decode cX0_readsDigit 68 = .ok (.putfield 84, 3) := by decide +kernel
theorem dX0_readsDigit_71 : decode cX0_readsDigit 71 = .ok (.iconst 1, 1) := by decide +kernel
theorem dX0_readsDigit_72 : decode cX0_readsDigit 72 = .ok (.ireturn, 1) := by decide +kernel
theorem dX1_init_0 : decode cX1_init 0 = .ok (.aload_n 0, 1) := by decide +kernel
theorem dX1_init_1 : decode cX1_init 1 = .ok (.invokespecial 3, 3) := by decide +kernel
theorem dX1_init_4 : decode cX1_init 4 = .ok (.aload_n 0, 1) := by decide +kernel
theorem dX1_init_5 : decode cX1_init 5 = .ok (.new 9, 3) := by decide +kernel
theorem dX1_init_8 : decode cX1_init 8 = .ok (.dup, 1) := by decide +kernel
theorem dX1_init_9 : decode cX1_init 9 = .ok (.invokespecial 11, 3) := by decide +kernel
theorem dX1_init_12 : decode cX1_init 12 = .ok (.putfield 12, 3) := by decide +kernel
theorem dX1_init_15 : decode cX1_init 15 = .ok (.return_, 1) := by decide +kernel
theorem dX1_codeWave_0 : decode cX1_codeWave 0 = .ok (.iconst 0, 1) := by decide +kernel
theorem dX1_codeWave_1 : decode cX1_codeWave 1 = .ok (.istore_n 2, 1) := by decide +kernel
theorem dX1_codeWave_2 : decode cX1_codeWave 2 = .ok (.iconst 0, 1) := by decide +kernel
theorem dX1_codeWave_3 : decode cX1_codeWave 3 = .ok (.istore_n 3, 1) := by decide +kernel
theorem dX1_codeWave_4 : decode cX1_codeWave 4 = .ok (.iload_n 3, 1) := by decide +kernel
theorem dX1_codeWave_5 : decode cX1_codeWave 5 = .ok (.bipush 32, 2) := by decide +kernel
theorem dX1_codeWave_7 : decode cX1_codeWave 7 = .ok (.if_icmp .ge 62, 3) := by decide +kernel
theorem dX1_codeWave_10 : decode cX1_codeWave 10 = .ok (.aload_n 1, 1) := by decide +kernel
theorem dX1_codeWave_11 : decode cX1_codeWave 11 = .ok (.iload_n 3, 1) := by decide +kernel
theorem dX1_codeWave_12 : decode cX1_codeWave 12 = .ok (.invokevirtual 18, 3) := by decide +kernel
theorem dX1_codeWave_15 : decode cX1_codeWave 15 = .ok (.aload_n 1, 1) := by decide +kernel
theorem dX1_codeWave_16 : decode cX1_codeWave 16 = .ok (.getfield 24, 3) := by decide +kernel
theorem dX1_codeWave_19 : decode cX1_codeWave 19 = .ok (.if_icmp .ge 50, 3) := by decide +kernel
theorem dX1_codeWave_22 : decode cX1_codeWave 22 = .ok (.aload_n 1, 1) := by decide +kernel
theorem dX1_codeWave_23 : decode cX1_codeWave 23 = .ok (.getfield 28, 3) := by decide +kernel
theorem dX1_codeWave_26 : decode cX1_codeWave 26 = .ok (.iconst 1, 1) := by decide +kernel
theorem dX1_codeWave_27 : decode cX1_codeWave 27 = .ok (.iaload, 1) := by decide +kernel
theorem dX1_codeWave_28 : decode cX1_codeWave 28 = .ok (.iconst 1, 1) := by decide +kernel
theorem dX1_codeWave_29 : decode cX1_codeWave 29 = .ok (.if_icmp .ne 19, 3) := by decide +kernel
theorem dX1_codeWave_32 : decode cX1_codeWave 32 = .ok (.aload_n 0, 1) := by decide +kernel
theorem dX1_codeWave_33 : decode cX1_codeWave 33 = .ok (.aload_n 1, 1) := by decide +kernel
theorem dX1_codeWave_34 : decode cX1_codeWave 34 = .ok (.aload_n 1, 1) := by decide +kernel
theorem dX1_codeWave_35 : decode cX1_codeWave 35 = .ok (.iload_n 3, 1) := by decide +kernel
theorem dX1_codeWave_36 : decode cX1_codeWave 36 = .ok (.invokevirtual 18, 3) := by decide +kernel
theorem dX1_codeWave_39 : decode cX1_codeWave 39 = .ok (.aload_n 1, 1) := by decide +kernel
theorem dX1_codeWave_40 : decode cX1_codeWave 40 = .ok (.iload_n 3, 1) := by decide +kernel
theorem dX1_codeWave_41 : decode cX1_codeWave 41 = .ok (.invokevirtual 32, 3) := by decide +kernel
theorem dX1_codeWave_44 : decode cX1_codeWave 44 = .ok (.invokevirtual 35, 3) := by decide +kernel
theorem dX1_codeWave_47 : decode cX1_codeWave 47 = .ok (.istore_n 2, 1) := by decide +kernel
theorem dX1_codeWave_48 : decode cX1_codeWave 48 = .ok (.aload_n 0, 1) := by decide +kernel
theorem dX1_codeWave_49 : decode cX1_codeWave 49 = .ok (.aload_n 1, 1) := by decide +kernel
theorem dX1_codeWave_50 : decode cX1_codeWave 50 = .ok (.iload_n 3, 1) := by decide +kernel
theorem dX1_codeWave_51 : decode cX1_codeWave 51 = .ok (.iload_n 2, 1) := by decide +kernel
theorem dX1_codeWave_52 : decode cX1_codeWave 52 = .ok (.invokevirtual 39, 3) := by decide +kernel
theorem dX1_codeWave_55 : decode cX1_codeWave 55 = .ok (.aload_n 0, 1) := by decide +kernel
theorem dX1_codeWave_56 : decode cX1_codeWave 56 = .ok (.getfield 12, 3) := by decide +kernel
theorem dX1_codeWave_59 : decode cX1_codeWave 59 = .ok (.getfield 43, 3) := by decide +kernel
theorem dX1_codeWave_62 : decode cX1_codeWave 62 = .ok (.istore_n 2, 1) := by decide +kernel
theorem dX1_codeWave_63 : decode cX1_codeWave 63 = .ok (.iinc 3 1, 3) := by decide +kernel
theorem dX1_codeWave_66 : decode cX1_codeWave 66 = .ok (.goto (-62), 3) := by decide +kernel
theorem dX1_codeWave_69 : decode cX1_codeWave 69 = .ok (.aload_n 1, 1) := by decide +kernel
theorem dX1_codeWave_70 : decode cX1_codeWave 70 = .ok (.iload_n 3, 1) := by decide +kernel
theorem dX1_codeWave_71 : decode cX1_codeWave 71 = .ok (.putfield 46, 3) := by decide +kernel
theorem dX1_codeWave_74 : decode cX1_codeWave 74 = .ok (.aload_n 1, 1) := by decide +kernel
theorem dX1_codeWave_75 : decode cX1_codeWave 75 = .ok (.dup, 1) := by decide +kernel
theorem dX1_codeWave_76 : decode cX1_codeWave 76 = .ok (.getfield 49, 3) := by decide +kernel
theorem dX1_codeWave_79 : decode cX1_codeWave 79 = .ok (.iconst 1, 1) := by decide +kernel
theorem dX1_codeWave_80 : decode cX1_codeWave 80 = .ok (.iadd, 1) := by decide +kernel
theorem dX1_codeWave_81 : decode cX1_codeWave 81 = .ok (.putfield 49, 3) := by decide +kernel
theorem dX1_codeWave_84 : decode cX1_codeWave 84 = .ok (.return_, 1) := by decide +kernel
theorem dX1_codeBlock_0 : decode cX1_codeBlock 0 = .ok (.aload_n 1, 1) := by decide +kernel
theorem dX1_codeBlock_1 : decode cX1_codeBlock 1 = .ok (.iload_n 2, 1) := by decide +kernel
theorem dX1_codeBlock_2 : decode cX1_codeBlock 2 = .ok (.invokevirtual 18, 3) := by decide +kernel
theorem dX1_codeBlock_5 : decode cX1_codeBlock 5 = .ok (.istore 4, 2) := by decide +kernel
theorem dX1_codeBlock_7 : decode cX1_codeBlock 7 = .ok (.aload_n 1, 1) := by decide +kernel
theorem dX1_codeBlock_8 : decode cX1_codeBlock 8 = .ok (.getfield 52, 3) := by decide +kernel
theorem dX1_codeBlock_11 : decode cX1_codeBlock 11 = .ok (.iload 4, 2) := by decide +kernel
theorem dX1_codeBlock_13 : decode cX1_codeBlock 13 = .ok (.iaload, 1) := by decide +kernel
theorem dX1_codeBlock_14 : decode cX1_codeBlock 14 = .ok (.istore 5, 2) := by decide +kernel
theorem dX1_codeBlock_16 : decode cX1_codeBlock 16 = .ok (.aload_n 1, 1) := by decide +kernel
theorem dX1_codeBlock_17 : decode cX1_codeBlock 17 = .ok (.getfield 55, 3) := by decide +kernel
theorem dX1_codeBlock_20 : decode cX1_codeBlock 20 = .ok (.iload_n 2, 1) := by decide +kernel
theorem dX1_codeBlock_21 : decode cX1_codeBlock 21 = .ok (.iload 5, 2) := by decide +kernel
theorem dX1_codeBlock_23 : decode cX1_codeBlock 23 = .ok (.iastore, 1) := by decide +kernel
theorem dX1_codeBlock_24 : decode cX1_codeBlock 24 = .ok (.aload_n 1, 1) := by decide +kernel
theorem dX1_codeBlock_25 : decode cX1_codeBlock 25 = .ok (.getfield 58, 3) := by decide +kernel
theorem dX1_codeBlock_28 : decode cX1_codeBlock 28 = .ok (.iload_n 2, 1) := by decide +kernel
theorem dX1_codeBlock_29 : decode cX1_codeBlock 29 = .ok (.iload_n 3, 1) := by decide +kernel
theorem dX1_codeBlock_30 : decode cX1_codeBlock 30 = .ok (.iastore, 1) := by decide +kernel
theorem dX1_codeBlock_31 : decode cX1_codeBlock 31 = .ok (.aload_n 1, 1) := by decide +kernel
theorem dX1_codeBlock_32 : decode cX1_codeBlock 32 = .ok (.getfield 61, 3) := by decide +kernel
theorem dX1_codeBlock_35 : decode cX1_codeBlock 35 = .ok (.iload_n 2, 1) := by decide +kernel
theorem dX1_codeBlock_36 : decode cX1_codeBlock 36 = .ok (.iconst 0, 1) := by decide +kernel
theorem dX1_codeBlock_37 : decode cX1_codeBlock 37 = .ok (.bastore, 1) := by decide +kernel
theorem dX1_codeBlock_38 : decode cX1_codeBlock 38 = .ok (.aload_n 1, 1) := by decide +kernel
theorem dX1_codeBlock_39 : decode cX1_codeBlock 39 = .ok (.getfield 65, 3) := by decide +kernel
theorem dX1_codeBlock_42 : decode cX1_codeBlock 42 = .ok (.iload 4, 2) := by decide +kernel
theorem dX1_codeBlock_44 : decode cX1_codeBlock 44 = .ok (.iconst (-1), 1) := by decide +kernel
theorem dX1_codeBlock_45 : decode cX1_codeBlock 45 = .ok (.iastore, 1) := by decide +kernel
theorem dX1_codeBlock_46 : decode cX1_codeBlock 46 = .ok (.aload_n 1, 1) := by decide +kernel
theorem dX1_codeBlock_47 : decode cX1_codeBlock 47 = .ok (.getfield 68, 3) := by decide +kernel
theorem dX1_codeBlock_50 : decode cX1_codeBlock 50 = .ok (.iload 4, 2) := by decide +kernel
theorem dX1_codeBlock_52 : decode cX1_codeBlock 52 = .ok (.iload 5, 2) := by decide +kernel
theorem dX1_codeBlock_54 : decode cX1_codeBlock 54 = .ok (.iastore, 1) := by decide +kernel
theorem dX1_codeBlock_55 : decode cX1_codeBlock 55 = .ok (.aload_n 0, 1) := by decide +kernel
theorem dX1_codeBlock_56 : decode cX1_codeBlock 56 = .ok (.getfield 12, 3) := by decide +kernel
theorem dX1_codeBlock_59 : decode cX1_codeBlock 59 = .ok (.iload 5, 2) := by decide +kernel
theorem dX1_codeBlock_61 : decode cX1_codeBlock 61 = .ok (.iload_n 3, 1) := by decide +kernel
theorem dX1_codeBlock_62 : decode cX1_codeBlock 62 = .ok (.invokevirtual 71, 3) := by decide +kernel
theorem dX1_codeBlock_65 : decode cX1_codeBlock 65 = .ok (.iload 4, 2) := by decide +kernel
theorem dX1_codeBlock_67 : decode cX1_codeBlock 67 = .ok (.iconst 1, 1) := by decide +kernel
theorem dX1_codeBlock_68 : decode cX1_codeBlock 68 = .ok (.iadd, 1) := by decide +kernel
theorem dX1_codeBlock_69 : decode cX1_codeBlock 69 = .ok (.istore 6, 2) := by decide +kernel
theorem dX1_codeBlock_71 : decode cX1_codeBlock 71 = .ok (.iload 6, 2) := by decide +kernel
theorem dX1_codeBlock_73 : decode cX1_codeBlock 73 = .ok (.aload_n 1, 1) := by decide +kernel
theorem dX1_codeBlock_74 : decode cX1_codeBlock 74 = .ok (.iload_n 2, 1) := by decide +kernel
theorem dX1_codeBlock_75 : decode cX1_codeBlock 75 = .ok (.invokevirtual 32, 3) := by decide +kernel
theorem dX1_codeBlock_78 : decode cX1_codeBlock 78 = .ok (.if_icmp .ge 57, 3) := by decide +kernel
theorem dX1_codeBlock_81 : decode cX1_codeBlock 81 = .ok (.aload_n 0, 1) := by decide +kernel
theorem dX1_codeBlock_82 : decode cX1_codeBlock 82 = .ok (.getfield 12, 3) := by decide +kernel
theorem dX1_codeBlock_85 : decode cX1_codeBlock 85 = .ok (.aload_n 1, 1) := by decide +kernel
theorem dX1_codeBlock_86 : decode cX1_codeBlock 86 = .ok (.getfield 52, 3) := by decide +kernel
theorem dX1_codeBlock_89 : decode cX1_codeBlock 89 = .ok (.iload 6, 2) := by decide +kernel
theorem dX1_codeBlock_91 : decode cX1_codeBlock 91 = .ok (.iaload, 1) := by decide +kernel
theorem dX1_codeBlock_92 : decode cX1_codeBlock 92 = .ok (.invokevirtual 75, 3) := by decide +kernel
theorem dX1_codeBlock_95 : decode cX1_codeBlock 95 = .ok (.istore 7, 2) := by decide +kernel
theorem dX1_codeBlock_97 : decode cX1_codeBlock 97 = .ok (.aload_n 0, 1) := by decide +kernel
theorem dX1_codeBlock_98 : decode cX1_codeBlock 98 = .ok (.getfield 12, 3) := by decide +kernel
theorem dX1_codeBlock_101 : decode cX1_codeBlock 101 = .ok (.iload 7, 2) := by decide +kernel
theorem dX1_codeBlock_103 : decode cX1_codeBlock 103 = .ok (.invokevirtual 78, 3) := by decide +kernel
theorem dX1_codeBlock_106 : decode cX1_codeBlock 106 = .ok (.aload_n 1, 1) := by decide +kernel
theorem dX1_codeBlock_107 : decode cX1_codeBlock 107 = .ok (.getfield 65, 3) := by decide +kernel
theorem dX1_codeBlock_110 : decode cX1_codeBlock 110 = .ok (.iload 6, 2) := by decide +kernel
theorem dX1_codeBlock_112 : decode cX1_codeBlock 112 = .ok (.iload 7, 2) := by decide +kernel
theorem dX1_codeBlock_114 : decode cX1_codeBlock 114 = .ok (.iastore, 1) := by decide +kernel
theorem dX1_codeBlock_115 : decode cX1_codeBlock 115 = .ok (.aload_n 1, 1) := by decide +kernel
theorem dX1_codeBlock_116 : decode cX1_codeBlock 116 = .ok (.getfield 68, 3) := by decide +kernel
theorem dX1_codeBlock_119 : decode cX1_codeBlock 119 = .ok (.iload 6, 2) := by decide +kernel
theorem dX1_codeBlock_121 : decode cX1_codeBlock 121 = .ok (.aload_n 0, 1) := by decide +kernel
theorem dX1_codeBlock_122 : decode cX1_codeBlock 122 = .ok (.getfield 12, 3) := by decide +kernel
theorem dX1_codeBlock_125 : decode cX1_codeBlock 125 = .ok (.getfield 82, 3) := by decide +kernel
theorem dX1_codeBlock_128 : decode cX1_codeBlock 128 = .ok (.iastore, 1) := by decide +kernel
theorem dX1_codeBlock_129 : decode cX1_codeBlock 129 = .ok (.iinc 6 1, 3) := by decide +kernel
theorem dX1_codeBlock_132 : decode cX1_codeBlock 132 = .ok (.goto (-61), 3) := by decide +kernel
theorem dX1_codeBlock_135 : decode cX1_codeBlock 135 = .ok (.return_, 1) := by decide +kernel
theorem dX1_errorAsBlock_0 : decode cX1_errorAsBlock 0 = .ok (.iconst 0, 1) := by decide +kernel
theorem dX1_errorAsBlock_1 : decode cX1_errorAsBlock 1 = .ok (.istore 5, 2) := by decide +kernel
theorem dX1_errorAsBlock_3 : decode cX1_errorAsBlock 3 = .ok (.aload_n 0, 1) := by decide +kernel
theorem dX1_errorAsBlock_4 : decode cX1_errorAsBlock 4 = .ok (.getfield 12, 3) := by decide +kernel
theorem dX1_errorAsBlock_7 : decode cX1_errorAsBlock 7 = .ok (.aload_n 1, 1) := by decide +kernel
theorem dX1_errorAsBlock_8 : decode cX1_errorAsBlock 8 = .ok (.getfield 52, 3) := by decide +kernel
theorem dX1_errorAsBlock_11 : decode cX1_errorAsBlock 11 = .ok (.iload_n 2, 1) := by decide +kernel
theorem dX1_errorAsBlock_12 : decode cX1_errorAsBlock 12 = .ok (.iaload, 1) := by decide +kernel
theorem dX1_errorAsBlock_13 : decode cX1_errorAsBlock 13 = .ok (.iload 4, 2) := by decide +kernel
theorem dX1_errorAsBlock_15 : decode cX1_errorAsBlock 15 = .ok (.invokevirtual 71, 3) := by decide +kernel
theorem dX1_errorAsBlock_18 : decode cX1_errorAsBlock 18 = .ok (.iload_n 2, 1) := by decide +kernel
theorem dX1_errorAsBlock_19 : decode cX1_errorAsBlock 19 = .ok (.iconst 1, 1) := by decide +kernel
theorem dX1_errorAsBlock_20 : decode cX1_errorAsBlock 20 = .ok (.iadd, 1) := by decide +kernel
theorem dX1_errorAsBlock_21 : decode cX1_errorAsBlock 21 = .ok (.istore 6, 2) := by decide +kernel
theorem dX1_errorAsBlock_23 : decode cX1_errorAsBlock 23 = .ok (.iload 6, 2) := by decide +kernel
theorem dX1_errorAsBlock_25 : decode cX1_errorAsBlock 25 = .ok (.iload_n 3, 1) := by decide +kernel
theorem dX1_errorAsBlock_26 : decode cX1_errorAsBlock 26 = .ok (.if_icmp .ge 57, 3) := by decide +kernel
theorem dX1_errorAsBlock_29 : decode cX1_errorAsBlock 29 = .ok (.aload_n 0, 1) := by decide +kernel
theorem dX1_errorAsBlock_30 : decode cX1_errorAsBlock 30 = .ok (.getfield 12, 3) := by decide +kernel
theorem dX1_errorAsBlock_33 : decode cX1_errorAsBlock 33 = .ok (.aload_n 0, 1) := by decide +kernel
theorem dX1_errorAsBlock_34 : decode cX1_errorAsBlock 34 = .ok (.getfield 12, 3) := by decide +kernel
theorem dX1_errorAsBlock_37 : decode cX1_errorAsBlock 37 = .ok (.aload_n 1, 1) := by decide +kernel
theorem dX1_errorAsBlock_38 : decode cX1_errorAsBlock 38 = .ok (.getfield 52, 3) := by decide +kernel
theorem dX1_errorAsBlock_41 : decode cX1_errorAsBlock 41 = .ok (.iload 6, 2) := by decide +kernel
theorem dX1_errorAsBlock_43 : decode cX1_errorAsBlock 43 = .ok (.iaload, 1) := by decide +kernel
theorem dX1_errorAsBlock_44 : decode cX1_errorAsBlock 44 = .ok (.invokevirtual 75, 3) := by decide +kernel
theorem dX1_errorAsBlock_47 : decode cX1_errorAsBlock 47 = .ok (.invokevirtual 78, 3) := by decide +kernel
theorem dX1_errorAsBlock_50 : decode cX1_errorAsBlock 50 = .ok (.aload_n 1, 1) := by decide +kernel
theorem dX1_errorAsBlock_51 : decode cX1_errorAsBlock 51 = .ok (.getfield 52, 3) := by decide +kernel
theorem dX1_errorAsBlock_54 : decode cX1_errorAsBlock 54 = .ok (.iload 6, 2) := by decide +kernel
theorem dX1_errorAsBlock_56 : decode cX1_errorAsBlock 56 = .ok (.iaload, 1) := by decide +kernel
theorem dX1_errorAsBlock_57 : decode cX1_errorAsBlock 57 = .ok (.aload_n 0, 1) := by decide +kernel
theorem dX1_errorAsBlock_58 : decode cX1_errorAsBlock 58 = .ok (.getfield 12, 3) := by decide +kernel
theorem dX1_errorAsBlock_61 : decode cX1_errorAsBlock 61 = .ok (.getfield 82, 3) := by decide +kernel
theorem dX1_errorAsBlock_64 : decode cX1_errorAsBlock 64 = .ok (.isub, 1) := by decide +kernel
theorem dX1_errorAsBlock_65 : decode cX1_errorAsBlock 65 = .ok (.istore 7, 2) := by decide +kernel
theorem dX1_errorAsBlock_67 : decode cX1_errorAsBlock 67 = .ok (.iload 5, 2) := by decide +kernel
theorem dX1_errorAsBlock_69 : decode cX1_errorAsBlock 69 = .ok (.iload 7, 2) := by decide +kernel
theorem dX1_errorAsBlock_71 : decode cX1_errorAsBlock 71 = .ok (.iload 7, 2) := by decide +kernel
theorem dX1_errorAsBlock_73 : decode cX1_errorAsBlock 73 = .ok (.imul, 1) := by decide +kernel
theorem dX1_errorAsBlock_74 : decode cX1_errorAsBlock 74 = .ok (.iadd, 1) := by decide +kernel
theorem dX1_errorAsBlock_75 : decode cX1_errorAsBlock 75 = .ok (.istore 5, 2) := by decide +kernel
theorem dX1_errorAsBlock_77 : decode cX1_errorAsBlock 77 = .ok (.iinc 6 1, 3) := by decide +kernel
theorem dX1_errorAsBlock_80 : decode cX1_errorAsBlock 80 = .ok (.goto (-57), 3) := by decide +kernel
theorem dX1_errorAsBlock_83 : decode cX1_errorAsBlock 83 = .ok (.iload 5, 2) := by decide +kernel
theorem dX1_errorAsBlock_85 : decode cX1_errorAsBlock 85 = .ok (.ireturn, 1) := by decide +kernel
theorem dX1_bestStart_0 : decode cX1_bestStart 0 = .ok (.iconst 0, 1) := by decide +kernel
theorem dX1_bestStart_1 : decode cX1_bestStart 1 = .ok (.istore 4, 2) := by decide +kernel
theorem dX1_bestStart_3 : decode cX1_bestStart 3 = .ok (.aload_n 0, 1) := by decide +kernel
theorem dX1_bestStart_4 : decode cX1_bestStart 4 = .ok (.aload_n 1, 1) := by decide +kernel
theorem dX1_bestStart_5 : decode cX1_bestStart 5 = .ok (.iload_n 2, 1) := by decide +kernel
theorem dX1_bestStart_6 : decode cX1_bestStart 6 = .ok (.iload_n 3, 1) := by decide +kernel
theorem dX1_bestStart_7 : decode cX1_bestStart 7 = .ok (.iconst 0, 1) := by decide +kernel
theorem dX1_bestStart_8 : decode cX1_bestStart 8 = .ok (.invokevirtual 85, 3) := by decide +kernel
theorem dX1_bestStart_11 : decode cX1_bestStart 11 = .ok (.istore 5, 2) := by decide +kernel
theorem dX1_bestStart_13 : decode cX1_bestStart 13 = .ok (.iconst 1, 1) := by decide +kernel
theorem dX1_bestStart_14 : decode cX1_bestStart 14 = .ok (.istore 6, 2) := by decide +kernel
theorem dX1_bestStart_16 : decode cX1_bestStart 16 = .ok (.iload 6, 2) := by decide +kernel
theorem dX1_bestStart_18 : decode cX1_bestStart 18 = .ok (.bipush 48, 2) := by decide +kernel
theorem dX1_bestStart_20 : decode cX1_bestStart 20 = .ok (.if_icmp .gt 35, 3) := by decide +kernel
theorem dX1_bestStart_23 : decode cX1_bestStart 23 = .ok (.aload_n 0, 1) := by decide +kernel
theorem dX1_bestStart_24 : decode cX1_bestStart 24 = .ok (.aload_n 1, 1) := by decide +kernel
theorem dX1_bestStart_25 : decode cX1_bestStart 25 = .ok (.iload_n 2, 1) := by decide +kernel
theorem dX1_bestStart_26 : decode cX1_bestStart 26 = .ok (.iload_n 3, 1) := by decide +kernel
theorem dX1_bestStart_27 : decode cX1_bestStart 27 = .ok (.iload 6, 2) := by decide +kernel
theorem dX1_bestStart_29 : decode cX1_bestStart 29 = .ok (.invokevirtual 85, 3) := by decide +kernel
theorem dX1_bestStart_32 : decode cX1_bestStart 32 = .ok (.istore 7, 2) := by decide +kernel
theorem dX1_bestStart_34 : decode cX1_bestStart 34 = .ok (.iload 7, 2) := by decide +kernel
theorem dX1_bestStart_36 : decode cX1_bestStart 36 = .ok (.iload 5, 2) := by decide +kernel
theorem dX1_bestStart_38 : decode cX1_bestStart 38 = .ok (.if_icmp .ge 11, 3) := by decide +kernel
theorem dX1_bestStart_41 : decode cX1_bestStart 41 = .ok (.iload 7, 2) := by decide +kernel
theorem dX1_bestStart_43 : decode cX1_bestStart 43 = .ok (.istore 5, 2) := by decide +kernel
theorem dX1_bestStart_45 : decode cX1_bestStart 45 = .ok (.iload 6, 2) := by decide +kernel
theorem dX1_bestStart_47 : decode cX1_bestStart 47 = .ok (.istore 4, 2) := by decide +kernel
theorem dX1_bestStart_49 : decode cX1_bestStart 49 = .ok (.iinc 6 1, 3) := by decide +kernel
theorem dX1_bestStart_52 : decode cX1_bestStart 52 = .ok (.goto (-36), 3) := by decide +kernel
theorem dX1_bestStart_55 : decode cX1_bestStart 55 = .ok (.iload 4, 2) := by decide +kernel
theorem dX1_bestStart_57 : decode cX1_bestStart 57 = .ok (.ireturn, 1) := by decide +kernel
theorem dX2_init_0 : decode cX2_init 0 = .ok (.aload_n 0, 1) := by decide +kernel
theorem dX2_init_1 : decode cX2_init 1 = .ok (.invokespecial 3, 3) := by decide +kernel
theorem dX2_init_4 : decode cX2_init 4 = .ok (.aload_n 0, 1) := by decide +kernel
theorem dX2_init_5 : decode cX2_init 5 = .ok (.bipush 64, 2) := by decide +kernel
theorem dX2_init_7 : decode cX2_init 7 = .ok (.newarray .int, 2) := by decide +kernel
theorem dX2_init_9 : decode cX2_init 9 = .ok (.putfield 9, 3) := by decide +kernel
theorem dX2_init_12 : decode cX2_init 12 = .ok (.aload_n 0, 1) := by decide +kernel
theorem dX2_init_13 : decode cX2_init 13 = .ok (.bipush 64, 2) := by decide +kernel
theorem dX2_init_15 : decode cX2_init 15 = .ok (.newarray .int, 2) := by decide +kernel
theorem dX2_init_17 : decode cX2_init 17 = .ok (.putfield 15, 3) := by decide +kernel
theorem dX2_init_20 : decode cX2_init 20 = .ok (.aload_n 0, 1) := by decide +kernel
theorem dX2_init_21 : decode cX2_init 21 = .ok (.new 18, 3) := by decide +kernel
theorem dX2_init_24 : decode cX2_init 24 = .ok (.dup, 1) := by decide +kernel
theorem dX2_init_25 : decode cX2_init 25 = .ok (.invokespecial 20, 3) := by decide +kernel
theorem dX2_init_28 : decode cX2_init 28 = .ok (.putfield 21, 3) := by decide +kernel
theorem dX2_init_31 : decode cX2_init 31 = .ok (.return_, 1) := by decide +kernel
theorem dX2_decode_0 : decode cX2_decode 0 = .ok (.aload_n 0, 1) := by decide +kernel
theorem dX2_decode_1 : decode cX2_decode 1 = .ok (.getfield 25, 3) := by decide +kernel
theorem dX2_decode_4 : decode cX2_decode 4 = .ok (.ifCond .eq 4, 3) := by decide +kernel
theorem dX2_decode_7 : decode cX2_decode 7 = .ok (.return_, 1) := by decide +kernel
theorem dX2_decode_8 : decode cX2_decode 8 = .ok (.iconst 0, 1) := by decide +kernel
theorem dX2_decode_9 : decode cX2_decode 9 = .ok (.istore_n 2, 1) := by decide +kernel
theorem dX2_decode_10 : decode cX2_decode 10 = .ok (.iload_n 2, 1) := by decide +kernel
theorem dX2_decode_11 : decode cX2_decode 11 = .ok (.aload_n 1, 1) := by decide +kernel
theorem dX2_decode_12 : decode cX2_decode 12 = .ok (.getfield 29, 3) := by decide +kernel
theorem dX2_decode_15 : decode cX2_decode 15 = .ok (.if_icmp .ge 33, 3) := by decide +kernel
theorem dX2_decode_18 : decode cX2_decode 18 = .ok (.aload_n 1, 1) := by decide +kernel
theorem dX2_decode_19 : decode cX2_decode 19 = .ok (.getfield 35, 3) := by decide +kernel
theorem dX2_decode_22 : decode cX2_decode 22 = .ok (.iload_n 2, 1) := by decide +kernel
theorem dX2_decode_23 : decode cX2_decode 23 = .ok (.baload, 1) := by decide +kernel
theorem dX2_decode_24 : decode cX2_decode 24 = .ok (.ifCond .eq 12, 3) := by decide +kernel
theorem dX2_decode_27 : decode cX2_decode 27 = .ok (.aload_n 0, 1) := by decide +kernel
theorem dX2_decode_28 : decode cX2_decode 28 = .ok (.aload_n 1, 1) := by decide +kernel
theorem dX2_decode_29 : decode cX2_decode 29 = .ok (.iload_n 2, 1) := by decide +kernel
theorem dX2_decode_30 : decode cX2_decode 30 = .ok (.invokevirtual 39, 3) := by decide +kernel
theorem dX2_decode_33 : decode cX2_decode 33 = .ok (.goto 9, 3) := by decide +kernel
theorem dX2_decode_36 : decode cX2_decode 36 = .ok (.aload_n 0, 1) := by decide +kernel
theorem dX2_decode_37 : decode cX2_decode 37 = .ok (.aload_n 1, 1) := by decide +kernel
theorem dX2_decode_38 : decode cX2_decode 38 = .ok (.iload_n 2, 1) := by decide +kernel
theorem dX2_decode_39 : decode cX2_decode 39 = .ok (.invokevirtual 43, 3) := by decide +kernel
theorem dX2_decode_42 : decode cX2_decode 42 = .ok (.iinc 2 1, 3) := by decide +kernel
theorem dX2_decode_45 : decode cX2_decode 45 = .ok (.goto (-35), 3) := by decide +kernel
theorem dX2_decode_48 : decode cX2_decode 48 = .ok (.aload_n 0, 1) := by decide +kernel
theorem dX2_decode_49 : decode cX2_decode 49 = .ok (.iconst 1, 1) := by decide +kernel
theorem dX2_decode_50 : decode cX2_decode 50 = .ok (.putfield 25, 3) := by decide +kernel
theorem dX2_decode_53 : decode cX2_decode 53 = .ok (.return_, 1) := by decide +kernel
theorem dX2_decodeBlock_0 : decode cX2_decodeBlock 0 = .ok (.aload_n 1, 1) := by decide +kernel
theorem dX2_decodeBlock_1 : decode cX2_decodeBlock 1 = .ok (.iload_n 2, 1) := by decide +kernel
theorem dX2_decodeBlock_2 : decode cX2_decodeBlock 2 = .ok (.invokevirtual 46, 3) := by decide +kernel
theorem dX2_decodeBlock_5 : decode cX2_decodeBlock 5 = .ok (.istore_n 3, 1) := by decide +kernel
theorem dX2_decodeBlock_6 : decode cX2_decodeBlock 6 = .ok (.aload_n 0, 1) := by decide +kernel
theorem dX2_decodeBlock_7 : decode cX2_decodeBlock 7 = .ok (.getfield 21, 3) := by decide +kernel
theorem dX2_decodeBlock_10 : decode cX2_decodeBlock 10 = .ok (.aload_n 1, 1) := by decide +kernel
theorem dX2_decodeBlock_11 : decode cX2_decodeBlock 11 = .ok (.getfield 50, 3) := by decide +kernel
theorem dX2_decodeBlock_14 : decode cX2_decodeBlock 14 = .ok (.iload_n 2, 1) := by decide +kernel
theorem dX2_decodeBlock_15 : decode cX2_decodeBlock 15 = .ok (.iaload, 1) := by decide +kernel
theorem dX2_decodeBlock_16 : decode cX2_decodeBlock 16 = .ok (.aload_n 1, 1) := by decide +kernel
theorem dX2_decodeBlock_17 : decode cX2_decodeBlock 17 = .ok (.getfield 53, 3) := by decide +kernel
theorem dX2_decodeBlock_20 : decode cX2_decodeBlock 20 = .ok (.iload_n 2, 1) := by decide +kernel
theorem dX2_decodeBlock_21 : decode cX2_decodeBlock 21 = .ok (.iaload, 1) := by decide +kernel
theorem dX2_decodeBlock_22 : decode cX2_decodeBlock 22 = .ok (.invokevirtual 56, 3) := by decide +kernel
theorem dX2_decodeBlock_25 : decode cX2_decodeBlock 25 = .ok (.iload_n 3, 1) := by decide +kernel
theorem dX2_decodeBlock_26 : decode cX2_decodeBlock 26 = .ok (.istore 4, 2) := by decide +kernel
theorem dX2_decodeBlock_28 : decode cX2_decodeBlock 28 = .ok (.iload 4, 2) := by decide +kernel
theorem dX2_decodeBlock_30 : decode cX2_decodeBlock 30 = .ok (.aload_n 1, 1) := by decide +kernel
theorem dX2_decodeBlock_31 : decode cX2_decodeBlock 31 = .ok (.iload_n 2, 1) := by decide +kernel
theorem dX2_decodeBlock_32 : decode cX2_decodeBlock 32 = .ok (.invokevirtual 60, 3) := by decide +kernel
theorem dX2_decodeBlock_35 : decode cX2_decodeBlock 35 = .ok (.if_icmp .ge 57, 3) := by decide +kernel
theorem dX2_decodeBlock_38 : decode cX2_decodeBlock 38 = .ok (.iload 4, 2) := by decide +kernel
theorem dX2_decodeBlock_40 : decode cX2_decodeBlock 40 = .ok (.iload_n 3, 1) := by decide +kernel
theorem dX2_decodeBlock_41 : decode cX2_decodeBlock 41 = .ok (.if_icmp .le 17, 3) := by decide +kernel
theorem dX2_decodeBlock_44 : decode cX2_decodeBlock 44 = .ok (.aload_n 0, 1) := by decide +kernel
theorem dX2_decodeBlock_45 : decode cX2_decodeBlock 45 = .ok (.getfield 21, 3) := by decide +kernel
theorem dX2_decodeBlock_48 : decode cX2_decodeBlock 48 = .ok (.aload_n 1, 1) := by decide +kernel
theorem dX2_decodeBlock_49 : decode cX2_decodeBlock 49 = .ok (.getfield 63, 3) := by decide +kernel
theorem dX2_decodeBlock_52 : decode cX2_decodeBlock 52 = .ok (.iload 4, 2) := by decide +kernel
theorem dX2_decodeBlock_54 : decode cX2_decodeBlock 54 = .ok (.iaload, 1) := by decide +kernel
theorem dX2_decodeBlock_55 : decode cX2_decodeBlock 55 = .ok (.invokevirtual 66, 3) := by decide +kernel
theorem dX2_decodeBlock_58 : decode cX2_decodeBlock 58 = .ok (.aload_n 0, 1) := by decide +kernel
theorem dX2_decodeBlock_59 : decode cX2_decodeBlock 59 = .ok (.getfield 9, 3) := by decide +kernel
theorem dX2_decodeBlock_62 : decode cX2_decodeBlock 62 = .ok (.iload 4, 2) := by decide +kernel
theorem dX2_decodeBlock_64 : decode cX2_decodeBlock 64 = .ok (.aload_n 0, 1) := by decide +kernel
theorem dX2_decodeBlock_65 : decode cX2_decodeBlock 65 = .ok (.getfield 21, 3) := by decide +kernel
theorem dX2_decodeBlock_68 : decode cX2_decodeBlock 68 = .ok (.getfield 70, 3) := by decide +kernel
theorem dX2_decodeBlock_71 : decode cX2_decodeBlock 71 = .ok (.iastore, 1) := by decide +kernel
theorem dX2_decodeBlock_72 : decode cX2_decodeBlock 72 = .ok (.aload_n 0, 1) := by decide +kernel
theorem dX2_decodeBlock_73 : decode cX2_decodeBlock 73 = .ok (.getfield 15, 3) := by decide +kernel
theorem dX2_decodeBlock_76 : decode cX2_decodeBlock 76 = .ok (.iload 4, 2) := by decide +kernel
theorem dX2_decodeBlock_78 : decode cX2_decodeBlock 78 = .ok (.aload_n 0, 1) := by decide +kernel
theorem dX2_decodeBlock_79 : decode cX2_decodeBlock 79 = .ok (.getfield 21, 3) := by decide +kernel
theorem dX2_decodeBlock_82 : decode cX2_decodeBlock 82 = .ok (.getfield 73, 3) := by decide +kernel
theorem dX2_decodeBlock_85 : decode cX2_decodeBlock 85 = .ok (.iastore, 1) := by decide +kernel
theorem dX2_decodeBlock_86 : decode cX2_decodeBlock 86 = .ok (.iinc 4 1, 3) := by decide +kernel
theorem dX2_decodeBlock_89 : decode cX2_decodeBlock 89 = .ok (.goto (-61), 3) := by decide +kernel
theorem dX2_decodeBlock_92 : decode cX2_decodeBlock 92 = .ok (.return_, 1) := by decide +kernel
theorem dX2_fillBlock_0 : decode cX2_fillBlock 0 = .ok (.aload_n 1, 1) := by decide +kernel
theorem dX2_fillBlock_1 : decode cX2_fillBlock 1 = .ok (.iload_n 2, 1) := by decide +kernel
theorem dX2_fillBlock_2 : decode cX2_fillBlock 2 = .ok (.invokevirtual 46, 3) := by decide +kernel
theorem dX2_fillBlock_5 : decode cX2_fillBlock 5 = .ok (.istore_n 3, 1) := by decide +kernel
theorem dX2_fillBlock_6 : decode cX2_fillBlock 6 = .ok (.iload_n 3, 1) := by decide +kernel
theorem dX2_fillBlock_7 : decode cX2_fillBlock 7 = .ok (.aload_n 1, 1) := by decide +kernel
theorem dX2_fillBlock_8 : decode cX2_fillBlock 8 = .ok (.iload_n 2, 1) := by decide +kernel
theorem dX2_fillBlock_9 : decode cX2_fillBlock 9 = .ok (.invokevirtual 60, 3) := by decide +kernel
theorem dX2_fillBlock_12 : decode cX2_fillBlock 12 = .ok (.if_icmp .ge 29, 3) := by decide +kernel
theorem dX2_fillBlock_15 : decode cX2_fillBlock 15 = .ok (.aload_n 0, 1) := by decide +kernel
theorem dX2_fillBlock_16 : decode cX2_fillBlock 16 = .ok (.getfield 9, 3) := by decide +kernel
theorem dX2_fillBlock_19 : decode cX2_fillBlock 19 = .ok (.iload_n 3, 1) := by decide +kernel
theorem dX2_fillBlock_20 : decode cX2_fillBlock 20 = .ok (.aload_n 0, 1) := by decide +kernel
theorem dX2_fillBlock_21 : decode cX2_fillBlock 21 = .ok (.aload_n 1, 1) := by decide +kernel
theorem dX2_fillBlock_22 : decode cX2_fillBlock 22 = .ok (.iload_n 2, 1) := by decide +kernel
theorem dX2_fillBlock_23 : decode cX2_fillBlock 23 = .ok (.iload_n 3, 1) := by decide +kernel
theorem dX2_fillBlock_24 : decode cX2_fillBlock 24 = .ok (.invokevirtual 76, 3) := by decide +kernel
theorem dX2_fillBlock_27 : decode cX2_fillBlock 27 = .ok (.iastore, 1) := by decide +kernel
theorem dX2_fillBlock_28 : decode cX2_fillBlock 28 = .ok (.aload_n 0, 1) := by decide +kernel
theorem dX2_fillBlock_29 : decode cX2_fillBlock 29 = .ok (.getfield 15, 3) := by decide +kernel
theorem dX2_fillBlock_32 : decode cX2_fillBlock 32 = .ok (.iload_n 3, 1) := by decide +kernel
theorem dX2_fillBlock_33 : decode cX2_fillBlock 33 = .ok (.iconst (-1), 1) := by decide +kernel
theorem dX2_fillBlock_34 : decode cX2_fillBlock 34 = .ok (.iastore, 1) := by decide +kernel
theorem dX2_fillBlock_35 : decode cX2_fillBlock 35 = .ok (.iinc 3 1, 3) := by decide +kernel
theorem dX2_fillBlock_38 : decode cX2_fillBlock 38 = .ok (.goto (-32), 3) := by decide +kernel
theorem dX2_fillBlock_41 : decode cX2_fillBlock 41 = .ok (.return_, 1) := by decide +kernel
theorem dX2_fillingOf_0 : decode cX2_fillingOf 0 = .ok (.aload_n 1, 1) := by decide +kernel
theorem dX2_fillingOf_1 : decode cX2_fillingOf 1 = .ok (.getfield 80, 3) := by decide +kernel
theorem dX2_fillingOf_4 : decode cX2_fillingOf 4 = .ok (.iconst 2, 1) := by decide +kernel
theorem dX2_fillingOf_5 : decode cX2_fillingOf 5 = .ok (.iaload, 1) := by decide +kernel
theorem dX2_fillingOf_6 : decode cX2_fillingOf 6 = .ok (.istore 4, 2) := by decide +kernel
theorem dX2_fillingOf_8 : decode cX2_fillingOf 8 = .ok (.iload_n 2, 1) := by decide +kernel
theorem dX2_fillingOf_9 : decode cX2_fillingOf 9 = .ok (.ifCond .eq 9, 3) := by decide +kernel
theorem dX2_fillingOf_12 : decode cX2_fillingOf 12 = .ok (.iload 4, 2) := by decide +kernel
theorem dX2_fillingOf_14 : decode cX2_fillingOf 14 = .ok (.iconst 1, 1) := by decide +kernel
theorem dX2_fillingOf_15 : decode cX2_fillingOf 15 = .ok (.if_icmp .ne 5, 3) := by decide +kernel
theorem dX2_fillingOf_18 : decode cX2_fillingOf 18 = .ok (.iconst 0, 1) := by decide +kernel
theorem dX2_fillingOf_19 : decode cX2_fillingOf 19 = .ok (.ireturn, 1) := by decide +kernel
theorem dX2_fillingOf_20 : decode cX2_fillingOf 20 = .ok (.iload 4, 2) := by decide +kernel
theorem dX2_fillingOf_22 : decode cX2_fillingOf 22 = .ok (.ifCond .ne 16, 3) := by decide +kernel
theorem dX2_fillingOf_25 : decode cX2_fillingOf 25 = .ok (.aload_n 0, 1) := by decide +kernel
theorem dX2_fillingOf_26 : decode cX2_fillingOf 26 = .ok (.getfield 9, 3) := by decide +kernel
theorem dX2_fillingOf_29 : decode cX2_fillingOf 29 = .ok (.aload_n 1, 1) := by decide +kernel
theorem dX2_fillingOf_30 : decode cX2_fillingOf 30 = .ok (.iload_n 2, 1) := by decide +kernel
theorem dX2_fillingOf_31 : decode cX2_fillingOf 31 = .ok (.invokevirtual 46, 3) := by decide +kernel
theorem dX2_fillingOf_34 : decode cX2_fillingOf 34 = .ok (.iconst 1, 1) := by decide +kernel
theorem dX2_fillingOf_35 : decode cX2_fillingOf 35 = .ok (.isub, 1) := by decide +kernel
theorem dX2_fillingOf_36 : decode cX2_fillingOf 36 = .ok (.iaload, 1) := by decide +kernel
theorem dX2_fillingOf_37 : decode cX2_fillingOf 37 = .ok (.ireturn, 1) := by decide +kernel
theorem dX2_fillingOf_38 : decode cX2_fillingOf 38 = .ok (.aload_n 0, 1) := by decide +kernel
theorem dX2_fillingOf_39 : decode cX2_fillingOf 39 = .ok (.getfield 9, 3) := by decide +kernel
theorem dX2_fillingOf_42 : decode cX2_fillingOf 42 = .ok (.iload_n 3, 1) := by decide +kernel
theorem dX2_fillingOf_43 : decode cX2_fillingOf 43 = .ok (.aload_n 1, 1) := by decide +kernel
theorem dX2_fillingOf_44 : decode cX2_fillingOf 44 = .ok (.getfield 80, 3) := by decide +kernel
theorem dX2_fillingOf_47 : decode cX2_fillingOf 47 = .ok (.iconst 0, 1) := by decide +kernel
theorem dX2_fillingOf_48 : decode cX2_fillingOf 48 = .ok (.iaload, 1) := by decide +kernel
theorem dX2_fillingOf_49 : decode cX2_fillingOf 49 = .ok (.isub, 1) := by decide +kernel
theorem dX2_fillingOf_50 : decode cX2_fillingOf 50 = .ok (.iaload, 1) := by decide +kernel
theorem dX2_fillingOf_51 : decode cX2_fillingOf 51 = .ok (.ireturn, 1) := by decide +kernel
theorem dX2_errorOf_0 : decode cX2_errorOf 0 = .ok (.iconst 0, 1) := by decide +kernel
theorem dX2_errorOf_1 : decode cX2_errorOf 1 = .ok (.istore 4, 2) := by decide +kernel
theorem dX2_errorOf_3 : decode cX2_errorOf 3 = .ok (.iload_n 2, 1) := by decide +kernel
theorem dX2_errorOf_4 : decode cX2_errorOf 4 = .ok (.istore 5, 2) := by decide +kernel
theorem dX2_errorOf_6 : decode cX2_errorOf 6 = .ok (.iload 5, 2) := by decide +kernel
theorem dX2_errorOf_8 : decode cX2_errorOf 8 = .ok (.iload_n 3, 1) := by decide +kernel
theorem dX2_errorOf_9 : decode cX2_errorOf 9 = .ok (.if_icmp .ge 36, 3) := by decide +kernel
theorem dX2_errorOf_12 : decode cX2_errorOf 12 = .ok (.aload_n 1, 1) := by decide +kernel
theorem dX2_errorOf_13 : decode cX2_errorOf 13 = .ok (.getfield 83, 3) := by decide +kernel
theorem dX2_errorOf_16 : decode cX2_errorOf 16 = .ok (.iload 5, 2) := by decide +kernel
theorem dX2_errorOf_18 : decode cX2_errorOf 18 = .ok (.iaload, 1) := by decide +kernel
theorem dX2_errorOf_19 : decode cX2_errorOf 19 = .ok (.aload_n 0, 1) := by decide +kernel
theorem dX2_errorOf_20 : decode cX2_errorOf 20 = .ok (.getfield 9, 3) := by decide +kernel
theorem dX2_errorOf_23 : decode cX2_errorOf 23 = .ok (.iload 5, 2) := by decide +kernel
theorem dX2_errorOf_25 : decode cX2_errorOf 25 = .ok (.iaload, 1) := by decide +kernel
theorem dX2_errorOf_26 : decode cX2_errorOf 26 = .ok (.isub, 1) := by decide +kernel
theorem dX2_errorOf_27 : decode cX2_errorOf 27 = .ok (.istore 6, 2) := by decide +kernel
theorem dX2_errorOf_29 : decode cX2_errorOf 29 = .ok (.iload 4, 2) := by decide +kernel
theorem dX2_errorOf_31 : decode cX2_errorOf 31 = .ok (.iload 6, 2) := by decide +kernel
theorem dX2_errorOf_33 : decode cX2_errorOf 33 = .ok (.iload 6, 2) := by decide +kernel
theorem dX2_errorOf_35 : decode cX2_errorOf 35 = .ok (.imul, 1) := by decide +kernel
theorem dX2_errorOf_36 : decode cX2_errorOf 36 = .ok (.iadd, 1) := by decide +kernel
theorem dX2_errorOf_37 : decode cX2_errorOf 37 = .ok (.istore 4, 2) := by decide +kernel
theorem dX2_errorOf_39 : decode cX2_errorOf 39 = .ok (.iinc 5 1, 3) := by decide +kernel
theorem dX2_errorOf_42 : decode cX2_errorOf 42 = .ok (.goto (-36), 3) := by decide +kernel
theorem dX2_errorOf_45 : decode cX2_errorOf 45 = .ok (.iload 4, 2) := by decide +kernel
theorem dX2_errorOf_47 : decode cX2_errorOf 47 = .ok (.ireturn, 1) := by decide +kernel
theorem dX2_greatestDifference_0 : decode cX2_greatestDifference 0 = .ok (.iconst 0, 1) := by decide +kernel
theorem dX2_greatestDifference_1 : decode cX2_greatestDifference 1 = .ok (.istore_n 2, 1) := by decide +kernel
theorem dX2_greatestDifference_2 : decode cX2_greatestDifference 2 = .ok (.iconst 0, 1) := by decide +kernel
theorem dX2_greatestDifference_3 : decode cX2_greatestDifference 3 = .ok (.istore_n 3, 1) := by decide +kernel
theorem dX2_greatestDifference_4 : decode cX2_greatestDifference 4 = .ok (.iload_n 3, 1) := by decide +kernel
theorem dX2_greatestDifference_5 : decode cX2_greatestDifference 5 = .ok (.aload_n 1, 1) := by decide +kernel
theorem dX2_greatestDifference_6 : decode cX2_greatestDifference 6 = .ok (.getfield 86, 3) := by decide +kernel
theorem dX2_greatestDifference_9 : decode cX2_greatestDifference 9 = .ok (.if_icmp .ge 30, 3) := by decide +kernel
theorem dX2_greatestDifference_12 : decode cX2_greatestDifference 12 = .ok (.iload_n 2, 1) := by decide +kernel
theorem dX2_greatestDifference_13 : decode cX2_greatestDifference 13 = .ok (.aload_n 1, 1) := by decide +kernel
theorem dX2_greatestDifference_14 : decode cX2_greatestDifference 14 = .ok (.getfield 83, 3) := by decide +kernel
theorem dX2_greatestDifference_17 : decode cX2_greatestDifference 17 = .ok (.iload_n 3, 1) := by decide +kernel
theorem dX2_greatestDifference_18 : decode cX2_greatestDifference 18 = .ok (.iaload, 1) := by decide +kernel
theorem dX2_greatestDifference_19 : decode cX2_greatestDifference 19 = .ok (.aload_n 0, 1) := by decide +kernel
theorem dX2_greatestDifference_20 : decode cX2_greatestDifference 20 = .ok (.getfield 9, 3) := by decide +kernel
theorem dX2_greatestDifference_23 : decode cX2_greatestDifference 23 = .ok (.iload_n 3, 1) := by decide +kernel
theorem dX2_greatestDifference_24 : decode cX2_greatestDifference 24 = .ok (.iaload, 1) := by decide +kernel
theorem dX2_greatestDifference_25 : decode cX2_greatestDifference 25 = .ok (.isub, 1) := by decide +kernel
theorem dX2_greatestDifference_26 : decode cX2_greatestDifference 26 = .ok (.invokestatic 89, 3) := by decide +kernel
theorem dX2_greatestDifference_29 : decode cX2_greatestDifference 29 = .ok (.invokestatic 94, 3) := by decide +kernel
theorem dX2_greatestDifference_32 : decode cX2_greatestDifference 32 = .ok (.istore_n 2, 1) := by decide +kernel
theorem dX2_greatestDifference_33 : decode cX2_greatestDifference 33 = .ok (.iinc 3 1, 3) := by decide +kernel
theorem dX2_greatestDifference_36 : decode cX2_greatestDifference 36 = .ok (.goto (-32), 3) := by decide +kernel
theorem dX2_greatestDifference_39 : decode cX2_greatestDifference 39 = .ok (.iload_n 2, 1) := by decide +kernel
theorem dX2_greatestDifference_40 : decode cX2_greatestDifference 40 = .ok (.ireturn, 1) := by decide +kernel
theorem dX2_justAsTheyAre_0 : decode cX2_justAsTheyAre 0 = .ok (.iconst 0, 1) := by decide +kernel
theorem dX2_justAsTheyAre_1 : decode cX2_justAsTheyAre 1 = .ok (.istore_n 2, 1) := by decide +kernel
theorem dX2_justAsTheyAre_2 : decode cX2_justAsTheyAre 2 = .ok (.iconst 0, 1) := by decide +kernel
theorem dX2_justAsTheyAre_3 : decode cX2_justAsTheyAre 3 = .ok (.istore_n 3, 1) := by decide +kernel
theorem dX2_justAsTheyAre_4 : decode cX2_justAsTheyAre 4 = .ok (.iload_n 3, 1) := by decide +kernel
theorem dX2_justAsTheyAre_5 : decode cX2_justAsTheyAre 5 = .ok (.aload_n 1, 1) := by decide +kernel
theorem dX2_justAsTheyAre_6 : decode cX2_justAsTheyAre 6 = .ok (.getfield 86, 3) := by decide +kernel
theorem dX2_justAsTheyAre_9 : decode cX2_justAsTheyAre 9 = .ok (.if_icmp .ge 27, 3) := by decide +kernel
theorem dX2_justAsTheyAre_12 : decode cX2_justAsTheyAre 12 = .ok (.aload_n 1, 1) := by decide +kernel
theorem dX2_justAsTheyAre_13 : decode cX2_justAsTheyAre 13 = .ok (.getfield 83, 3) := by decide +kernel
theorem dX2_justAsTheyAre_16 : decode cX2_justAsTheyAre 16 = .ok (.iload_n 3, 1) := by decide +kernel
theorem dX2_justAsTheyAre_17 : decode cX2_justAsTheyAre 17 = .ok (.iaload, 1) := by decide +kernel
theorem dX2_justAsTheyAre_18 : decode cX2_justAsTheyAre 18 = .ok (.aload_n 0, 1) := by decide +kernel
theorem dX2_justAsTheyAre_19 : decode cX2_justAsTheyAre 19 = .ok (.getfield 9, 3) := by decide +kernel
theorem dX2_justAsTheyAre_22 : decode cX2_justAsTheyAre 22 = .ok (.iload_n 3, 1) := by decide +kernel
theorem dX2_justAsTheyAre_23 : decode cX2_justAsTheyAre 23 = .ok (.iaload, 1) := by decide +kernel
theorem dX2_justAsTheyAre_24 : decode cX2_justAsTheyAre 24 = .ok (.if_icmp .ne 6, 3) := by decide +kernel
theorem dX2_justAsTheyAre_27 : decode cX2_justAsTheyAre 27 = .ok (.iinc 2 1, 3) := by decide +kernel
theorem dX2_justAsTheyAre_30 : decode cX2_justAsTheyAre 30 = .ok (.iinc 3 1, 3) := by decide +kernel
theorem dX2_justAsTheyAre_33 : decode cX2_justAsTheyAre 33 = .ok (.goto (-29), 3) := by decide +kernel
theorem dX2_justAsTheyAre_36 : decode cX2_justAsTheyAre 36 = .ok (.iload_n 2, 1) := by decide +kernel
theorem dX2_justAsTheyAre_37 : decode cX2_justAsTheyAre 37 = .ok (.ireturn, 1) := by decide +kernel
theorem dX2_othersThan_0 : decode cX2_othersThan 0 = .ok (.iconst 0, 1) := by decide +kernel
theorem dX2_othersThan_1 : decode cX2_othersThan 1 = .ok (.istore_n 3, 1) := by decide +kernel
theorem dX2_othersThan_2 : decode cX2_othersThan 2 = .ok (.iconst 0, 1) := by decide +kernel
theorem dX2_othersThan_3 : decode cX2_othersThan 3 = .ok (.istore 4, 2) := by decide +kernel
theorem dX2_othersThan_5 : decode cX2_othersThan 5 = .ok (.iload 4, 2) := by decide +kernel
theorem dX2_othersThan_7 : decode cX2_othersThan 7 = .ok (.iload_n 2, 1) := by decide +kernel
theorem dX2_othersThan_8 : decode cX2_othersThan 8 = .ok (.if_icmp .ge 29, 3) := by decide +kernel
theorem dX2_othersThan_11 : decode cX2_othersThan 11 = .ok (.aload_n 0, 1) := by decide +kernel
theorem dX2_othersThan_12 : decode cX2_othersThan 12 = .ok (.getfield 9, 3) := by decide +kernel
theorem dX2_othersThan_15 : decode cX2_othersThan 15 = .ok (.iload 4, 2) := by decide +kernel
theorem dX2_othersThan_17 : decode cX2_othersThan 17 = .ok (.iaload, 1) := by decide +kernel
theorem dX2_othersThan_18 : decode cX2_othersThan 18 = .ok (.aload_n 1, 1) := by decide +kernel
theorem dX2_othersThan_19 : decode cX2_othersThan 19 = .ok (.getfield 9, 3) := by decide +kernel
theorem dX2_othersThan_22 : decode cX2_othersThan 22 = .ok (.iload 4, 2) := by decide +kernel
theorem dX2_othersThan_24 : decode cX2_othersThan 24 = .ok (.iaload, 1) := by decide +kernel
theorem dX2_othersThan_25 : decode cX2_othersThan 25 = .ok (.if_icmp .eq 6, 3) := by decide +kernel
theorem dX2_othersThan_28 : decode cX2_othersThan 28 = .ok (.iinc 3 1, 3) := by decide +kernel
theorem dX2_othersThan_31 : decode cX2_othersThan 31 = .ok (.iinc 4 1, 3) := by decide +kernel
theorem dX2_othersThan_34 : decode cX2_othersThan 34 = .ok (.goto (-29), 3) := by decide +kernel
theorem dX2_othersThan_37 : decode cX2_othersThan 37 = .ok (.iload_n 3, 1) := by decide +kernel
theorem dX2_othersThan_38 : decode cX2_othersThan 38 = .ok (.ireturn, 1) := by decide +kernel
theorem dX3_init_0 : decode cX3_init 0 = .ok (.aload_n 0, 1) := by decide +kernel
theorem dX3_init_1 : decode cX3_init 1 = .ok (.invokespecial 3, 3) := by decide +kernel
theorem dX3_init_4 : decode cX3_init 4 = .ok (.aload_n 0, 1) := by decide +kernel
theorem dX3_init_5 : decode cX3_init 5 = .ok (.bipush 6, 2) := by decide +kernel
theorem dX3_init_7 : decode cX3_init 7 = .ok (.anewarray 9, 3) := by decide +kernel
theorem dX3_init_10 : decode cX3_init 10 = .ok (.dup, 1) := by decide +kernel
theorem dX3_init_11 : decode cX3_init 11 = .ok (.iconst 0, 1) := by decide +kernel
theorem dX3_init_12 : decode cX3_init 12 = .ok (.new 9, 3) := by decide +kernel
theorem dX3_init_15 : decode cX3_init 15 = .ok (.dup, 1) := by decide +kernel
theorem dX3_init_16 : decode cX3_init 16 = .ok (.invokespecial 11, 3) := by decide +kernel
theorem dX3_init_19 : decode cX3_init 19 = .ok (.aastore, 1) := by decide +kernel
theorem dX3_init_20 : decode cX3_init 20 = .ok (.dup, 1) := by decide +kernel
theorem dX3_init_21 : decode cX3_init 21 = .ok (.iconst 1, 1) := by decide +kernel
theorem dX3_init_22 : decode cX3_init 22 = .ok (.new 9, 3) := by decide +kernel
theorem dX3_init_25 : decode cX3_init 25 = .ok (.dup, 1) := by decide +kernel
theorem dX3_init_26 : decode cX3_init 26 = .ok (.invokespecial 11, 3) := by decide +kernel
theorem dX3_init_29 : decode cX3_init 29 = .ok (.aastore, 1) := by decide +kernel
theorem dX3_init_30 : decode cX3_init 30 = .ok (.dup, 1) := by decide +kernel
theorem dX3_init_31 : decode cX3_init 31 = .ok (.iconst 2, 1) := by decide +kernel
theorem dX3_init_32 : decode cX3_init 32 = .ok (.new 9, 3) := by decide +kernel
theorem dX3_init_35 : decode cX3_init 35 = .ok (.dup, 1) := by decide +kernel
theorem dX3_init_36 : decode cX3_init 36 = .ok (.invokespecial 11, 3) := by decide +kernel
theorem dX3_init_39 : decode cX3_init 39 = .ok (.aastore, 1) := by decide +kernel
theorem dX3_init_40 : decode cX3_init 40 = .ok (.dup, 1) := by decide +kernel
theorem dX3_init_41 : decode cX3_init 41 = .ok (.iconst 3, 1) := by decide +kernel
theorem dX3_init_42 : decode cX3_init 42 = .ok (.new 9, 3) := by decide +kernel
theorem dX3_init_45 : decode cX3_init 45 = .ok (.dup, 1) := by decide +kernel
theorem dX3_init_46 : decode cX3_init 46 = .ok (.invokespecial 11, 3) := by decide +kernel
theorem dX3_init_49 : decode cX3_init 49 = .ok (.aastore, 1) := by decide +kernel
theorem dX3_init_50 : decode cX3_init 50 = .ok (.dup, 1) := by decide +kernel
theorem dX3_init_51 : decode cX3_init 51 = .ok (.iconst 4, 1) := by decide +kernel
theorem dX3_init_52 : decode cX3_init 52 = .ok (.new 9, 3) := by decide +kernel
theorem dX3_init_55 : decode cX3_init 55 = .ok (.dup, 1) := by decide +kernel
theorem dX3_init_56 : decode cX3_init 56 = .ok (.invokespecial 11, 3) := by decide +kernel
theorem dX3_init_59 : decode cX3_init 59 = .ok (.aastore, 1) := by decide +kernel
theorem dX3_init_60 : decode cX3_init 60 = .ok (.dup, 1) := by decide +kernel
theorem dX3_init_61 : decode cX3_init 61 = .ok (.iconst 5, 1) := by decide +kernel
theorem dX3_init_62 : decode cX3_init 62 = .ok (.new 9, 3) := by decide +kernel
theorem dX3_init_65 : decode cX3_init 65 = .ok (.dup, 1) := by decide +kernel
theorem dX3_init_66 : decode cX3_init 66 = .ok (.invokespecial 11, 3) := by decide +kernel
theorem dX3_init_69 : decode cX3_init 69 = .ok (.aastore, 1) := by decide +kernel
theorem dX3_init_70 : decode cX3_init 70 = .ok (.putfield 12, 3) := by decide +kernel
theorem dX3_init_73 : decode cX3_init 73 = .ok (.return_, 1) := by decide +kernel
theorem dX3_save_0 : decode cX3_save 0 = .ok (.aload_n 0, 1) := by decide +kernel
theorem dX3_save_1 : decode cX3_save 1 = .ok (.getfield 18, 3) := by decide +kernel
theorem dX3_save_4 : decode cX3_save 4 = .ok (.bipush 6, 2) := by decide +kernel
theorem dX3_save_6 : decode cX3_save 6 = .ok (.if_icmp .ne 7, 3) := by decide +kernel
theorem dX3_save_9 : decode cX3_save 9 = .ok (.aload_n 0, 1) := by decide +kernel
theorem dX3_save_10 : decode cX3_save 10 = .ok (.invokevirtual 22, 3) := by decide +kernel
theorem dX3_save_13 : decode cX3_save 13 = .ok (.aload_n 0, 1) := by decide +kernel
theorem dX3_save_14 : decode cX3_save 14 = .ok (.getfield 12, 3) := by decide +kernel
theorem dX3_save_17 : decode cX3_save 17 = .ok (.aload_n 0, 1) := by decide +kernel
theorem dX3_save_18 : decode cX3_save 18 = .ok (.getfield 18, 3) := by decide +kernel
theorem dX3_save_21 : decode cX3_save 21 = .ok (.aaload, 1) := by decide +kernel
theorem dX3_save_22 : decode cX3_save 22 = .ok (.aload_n 1, 1) := by decide +kernel
theorem dX3_save_23 : decode cX3_save 23 = .ok (.invokevirtual 25, 3) := by decide +kernel
theorem dX3_save_26 : decode cX3_save 26 = .ok (.aload_n 0, 1) := by decide +kernel
theorem dX3_save_27 : decode cX3_save 27 = .ok (.dup, 1) := by decide +kernel
theorem dX3_save_28 : decode cX3_save 28 = .ok (.getfield 18, 3) := by decide +kernel
theorem dX3_save_31 : decode cX3_save 31 = .ok (.iconst 1, 1) := by decide +kernel
theorem dX3_save_32 : decode cX3_save 32 = .ok (.iadd, 1) := by decide +kernel
theorem dX3_save_33 : decode cX3_save 33 = .ok (.putfield 18, 3) := by decide +kernel
theorem dX3_save_36 : decode cX3_save 36 = .ok (.return_, 1) := by decide +kernel
theorem dX3_restore_0 : decode cX3_restore 0 = .ok (.aload_n 0, 1) := by decide +kernel
theorem dX3_restore_1 : decode cX3_restore 1 = .ok (.dup, 1) := by decide +kernel
theorem dX3_restore_2 : decode cX3_restore 2 = .ok (.getfield 18, 3) := by decide +kernel
theorem dX3_restore_5 : decode cX3_restore 5 = .ok (.iconst 1, 1) := by decide +kernel
theorem dX3_restore_6 : decode cX3_restore 6 = .ok (.isub, 1) := by decide +kernel
theorem dX3_restore_7 : decode cX3_restore 7 = .ok (.putfield 18, 3) := by decide +kernel
theorem dX3_restore_10 : decode cX3_restore 10 = .ok (.aload_n 1, 1) := by decide +kernel
theorem dX3_restore_11 : decode cX3_restore 11 = .ok (.aload_n 0, 1) := by decide +kernel
theorem dX3_restore_12 : decode cX3_restore 12 = .ok (.getfield 12, 3) := by decide +kernel
theorem dX3_restore_15 : decode cX3_restore 15 = .ok (.aload_n 0, 1) := by decide +kernel
theorem dX3_restore_16 : decode cX3_restore 16 = .ok (.getfield 18, 3) := by decide +kernel
theorem dX3_restore_19 : decode cX3_restore 19 = .ok (.aaload, 1) := by decide +kernel
theorem dX3_restore_20 : decode cX3_restore 20 = .ok (.invokevirtual 25, 3) := by decide +kernel
theorem dX3_restore_23 : decode cX3_restore 23 = .ok (.return_, 1) := by decide +kernel
theorem dX3_dropOldest_0 : decode cX3_dropOldest 0 = .ok (.aload_n 0, 1) := by decide +kernel
theorem dX3_dropOldest_1 : decode cX3_dropOldest 1 = .ok (.getfield 12, 3) := by decide +kernel
theorem dX3_dropOldest_4 : decode cX3_dropOldest 4 = .ok (.iconst 0, 1) := by decide +kernel
theorem dX3_dropOldest_5 : decode cX3_dropOldest 5 = .ok (.aaload, 1) := by decide +kernel
theorem dX3_dropOldest_6 : decode cX3_dropOldest 6 = .ok (.astore_n 1, 1) := by decide +kernel
theorem dX3_dropOldest_7 : decode cX3_dropOldest 7 = .ok (.iconst 1, 1) := by decide +kernel
theorem dX3_dropOldest_8 : decode cX3_dropOldest 8 = .ok (.istore_n 2, 1) := by decide +kernel
theorem dX3_dropOldest_9 : decode cX3_dropOldest 9 = .ok (.iload_n 2, 1) := by decide +kernel
theorem dX3_dropOldest_10 : decode cX3_dropOldest 10 = .ok (.bipush 6, 2) := by decide +kernel
theorem dX3_dropOldest_12 : decode cX3_dropOldest 12 = .ok (.if_icmp .ge 23, 3) := by decide +kernel
theorem dX3_dropOldest_15 : decode cX3_dropOldest 15 = .ok (.aload_n 0, 1) := by decide +kernel
theorem dX3_dropOldest_16 : decode cX3_dropOldest 16 = .ok (.getfield 12, 3) := by decide +kernel
theorem dX3_dropOldest_19 : decode cX3_dropOldest 19 = .ok (.iload_n 2, 1) := by decide +kernel
theorem dX3_dropOldest_20 : decode cX3_dropOldest 20 = .ok (.iconst 1, 1) := by decide +kernel
theorem dX3_dropOldest_21 : decode cX3_dropOldest 21 = .ok (.isub, 1) := by decide +kernel
theorem dX3_dropOldest_22 : decode cX3_dropOldest 22 = .ok (.aload_n 0, 1) := by decide +kernel
theorem dX3_dropOldest_23 : decode cX3_dropOldest 23 = .ok (.getfield 12, 3) := by decide +kernel
theorem dX3_dropOldest_26 : decode cX3_dropOldest 26 = .ok (.iload_n 2, 1) := by decide +kernel
theorem dX3_dropOldest_27 : decode cX3_dropOldest 27 = .ok (.aaload, 1) := by decide +kernel
theorem dX3_dropOldest_28 : decode cX3_dropOldest 28 = .ok (.aastore, 1) := by decide +kernel
theorem dX3_dropOldest_29 : decode cX3_dropOldest 29 = .ok (.iinc 2 1, 3) := by decide +kernel
theorem dX3_dropOldest_32 : decode cX3_dropOldest 32 = .ok (.goto (-23), 3) := by decide +kernel
theorem dX3_dropOldest_35 : decode cX3_dropOldest 35 = .ok (.aload_n 0, 1) := by decide +kernel
theorem dX3_dropOldest_36 : decode cX3_dropOldest 36 = .ok (.getfield 12, 3) := by decide +kernel
theorem dX3_dropOldest_39 : decode cX3_dropOldest 39 = .ok (.iconst 5, 1) := by decide +kernel
theorem dX3_dropOldest_40 : decode cX3_dropOldest 40 = .ok (.aload_n 1, 1) := by decide +kernel
theorem dX3_dropOldest_41 : decode cX3_dropOldest 41 = .ok (.aastore, 1) := by decide +kernel
theorem dX3_dropOldest_42 : decode cX3_dropOldest 42 = .ok (.aload_n 0, 1) := by decide +kernel
theorem dX3_dropOldest_43 : decode cX3_dropOldest 43 = .ok (.dup, 1) := by decide +kernel
theorem dX3_dropOldest_44 : decode cX3_dropOldest 44 = .ok (.getfield 18, 3) := by decide +kernel
theorem dX3_dropOldest_47 : decode cX3_dropOldest 47 = .ok (.iconst 1, 1) := by decide +kernel
theorem dX3_dropOldest_48 : decode cX3_dropOldest 48 = .ok (.isub, 1) := by decide +kernel
theorem dX3_dropOldest_49 : decode cX3_dropOldest 49 = .ok (.putfield 18, 3) := by decide +kernel
theorem dX3_dropOldest_52 : decode cX3_dropOldest 52 = .ok (.return_, 1) := by decide +kernel
theorem dX4_init_0 : decode cX4_init 0 = .ok (.aload_n 0, 1) := by decide +kernel
theorem dX4_init_1 : decode cX4_init 1 = .ok (.invokespecial 3, 3) := by decide +kernel
theorem dX4_init_4 : decode cX4_init 4 = .ok (.aload_n 0, 1) := by decide +kernel
theorem dX4_init_5 : decode cX4_init 5 = .ok (.bipush 32, 2) := by decide +kernel
theorem dX4_init_7 : decode cX4_init 7 = .ok (.putfield 9, 3) := by decide +kernel
theorem dX4_init_10 : decode cX4_init 10 = .ok (.aload_n 0, 1) := by decide +kernel
theorem dX4_init_11 : decode cX4_init 11 = .ok (.bipush 64, 2) := by decide +kernel
theorem dX4_init_13 : decode cX4_init 13 = .ok (.newarray .int, 2) := by decide +kernel
theorem dX4_init_15 : decode cX4_init 15 = .ok (.putfield 15, 3) := by decide +kernel
theorem dX4_init_18 : decode cX4_init 18 = .ok (.aload_n 0, 1) := by decide +kernel
theorem dX4_init_19 : decode cX4_init 19 = .ok (.iconst 3, 1) := by decide +kernel
theorem dX4_init_20 : decode cX4_init 20 = .ok (.newarray .int, 2) := by decide +kernel
theorem dX4_init_22 : decode cX4_init 22 = .ok (.dup, 1) := by decide +kernel
theorem dX4_init_23 : decode cX4_init 23 = .ok (.iconst 0, 1) := by decide +kernel
theorem dX4_init_24 : decode cX4_init 24 = .ok (.bipush 8, 2) := by decide +kernel
theorem dX4_init_26 : decode cX4_init 26 = .ok (.iastore, 1) := by decide +kernel
theorem dX4_init_27 : decode cX4_init 27 = .ok (.dup, 1) := by decide +kernel
theorem dX4_init_28 : decode cX4_init 28 = .ok (.iconst 1, 1) := by decide +kernel
theorem dX4_init_29 : decode cX4_init 29 = .ok (.iconst 0, 1) := by decide +kernel
theorem dX4_init_30 : decode cX4_init 30 = .ok (.iastore, 1) := by decide +kernel
theorem dX4_init_31 : decode cX4_init 31 = .ok (.dup, 1) := by decide +kernel
theorem dX4_init_32 : decode cX4_init 32 = .ok (.iconst 2, 1) := by decide +kernel
theorem dX4_init_33 : decode cX4_init 33 = .ok (.iconst 0, 1) := by decide +kernel
theorem dX4_init_34 : decode cX4_init 34 = .ok (.iastore, 1) := by decide +kernel
theorem dX4_init_35 : decode cX4_init 35 = .ok (.putfield 19, 3) := by decide +kernel
theorem dX4_init_38 : decode cX4_init 38 = .ok (.aload_n 0, 1) := by decide +kernel
theorem dX4_init_39 : decode cX4_init 39 = .ok (.bipush 32, 2) := by decide +kernel
theorem dX4_init_41 : decode cX4_init 41 = .ok (.newarray .int, 2) := by decide +kernel
theorem dX4_init_43 : decode cX4_init 43 = .ok (.putfield 22, 3) := by decide +kernel
theorem dX4_init_46 : decode cX4_init 46 = .ok (.aload_n 0, 1) := by decide +kernel
theorem dX4_init_47 : decode cX4_init 47 = .ok (.bipush 32, 2) := by decide +kernel
theorem dX4_init_49 : decode cX4_init 49 = .ok (.newarray .int, 2) := by decide +kernel
theorem dX4_init_51 : decode cX4_init 51 = .ok (.putfield 25, 3) := by decide +kernel
theorem dX4_init_54 : decode cX4_init 54 = .ok (.aload_n 0, 1) := by decide +kernel
theorem dX4_init_55 : decode cX4_init 55 = .ok (.bipush 32, 2) := by decide +kernel
theorem dX4_init_57 : decode cX4_init 57 = .ok (.newarray .boolean, 2) := by decide +kernel
theorem dX4_init_59 : decode cX4_init 59 = .ok (.putfield 28, 3) := by decide +kernel
theorem dX4_init_62 : decode cX4_init 62 = .ok (.aload_n 0, 1) := by decide +kernel
theorem dX4_init_63 : decode cX4_init 63 = .ok (.bipush 64, 2) := by decide +kernel
theorem dX4_init_65 : decode cX4_init 65 = .ok (.newarray .int, 2) := by decide +kernel
theorem dX4_init_67 : decode cX4_init 67 = .ok (.putfield 32, 3) := by decide +kernel
theorem dX4_init_70 : decode cX4_init 70 = .ok (.aload_n 0, 1) := by decide +kernel
theorem dX4_init_71 : decode cX4_init 71 = .ok (.bipush 64, 2) := by decide +kernel
theorem dX4_init_73 : decode cX4_init 73 = .ok (.newarray .int, 2) := by decide +kernel
theorem dX4_init_75 : decode cX4_init 75 = .ok (.putfield 35, 3) := by decide +kernel
theorem dX4_init_78 : decode cX4_init 78 = .ok (.return_, 1) := by decide +kernel
theorem dX4_copyFrom_0 : decode cX4_copyFrom 0 = .ok (.aload_n 0, 1) := by decide +kernel
theorem dX4_copyFrom_1 : decode cX4_copyFrom 1 = .ok (.aload_n 1, 1) := by decide +kernel
theorem dX4_copyFrom_2 : decode cX4_copyFrom 2 = .ok (.getfield 9, 3) := by decide +kernel
theorem dX4_copyFrom_5 : decode cX4_copyFrom 5 = .ok (.putfield 9, 3) := by decide +kernel
theorem dX4_copyFrom_8 : decode cX4_copyFrom 8 = .ok (.aload_n 0, 1) := by decide +kernel
theorem dX4_copyFrom_9 : decode cX4_copyFrom 9 = .ok (.aload_n 1, 1) := by decide +kernel
theorem dX4_copyFrom_10 : decode cX4_copyFrom 10 = .ok (.getfield 38, 3) := by decide +kernel
theorem dX4_copyFrom_13 : decode cX4_copyFrom 13 = .ok (.putfield 38, 3) := by decide +kernel
theorem dX4_copyFrom_16 : decode cX4_copyFrom 16 = .ok (.aload_n 0, 1) := by decide +kernel
theorem dX4_copyFrom_17 : decode cX4_copyFrom 17 = .ok (.aload_n 1, 1) := by decide +kernel
theorem dX4_copyFrom_18 : decode cX4_copyFrom 18 = .ok (.getfield 41, 3) := by decide +kernel
theorem dX4_copyFrom_21 : decode cX4_copyFrom 21 = .ok (.putfield 41, 3) := by decide +kernel
theorem dX4_copyFrom_24 : decode cX4_copyFrom 24 = .ok (.aload_n 0, 1) := by decide +kernel
theorem dX4_copyFrom_25 : decode cX4_copyFrom 25 = .ok (.aload_n 1, 1) := by decide +kernel
theorem dX4_copyFrom_26 : decode cX4_copyFrom 26 = .ok (.getfield 44, 3) := by decide +kernel
theorem dX4_copyFrom_29 : decode cX4_copyFrom 29 = .ok (.putfield 44, 3) := by decide +kernel
theorem dX4_copyFrom_32 : decode cX4_copyFrom 32 = .ok (.aload_n 1, 1) := by decide +kernel
theorem dX4_copyFrom_33 : decode cX4_copyFrom 33 = .ok (.getfield 15, 3) := by decide +kernel
theorem dX4_copyFrom_36 : decode cX4_copyFrom 36 = .ok (.aload_n 0, 1) := by decide +kernel
theorem dX4_copyFrom_37 : decode cX4_copyFrom 37 = .ok (.getfield 15, 3) := by decide +kernel
theorem dX4_copyFrom_40 : decode cX4_copyFrom 40 = .ok (.invokestatic 47, 3) := by decide +kernel
theorem dX4_copyFrom_43 : decode cX4_copyFrom 43 = .ok (.aload_n 1, 1) := by decide +kernel
theorem dX4_copyFrom_44 : decode cX4_copyFrom 44 = .ok (.getfield 19, 3) := by decide +kernel
theorem dX4_copyFrom_47 : decode cX4_copyFrom 47 = .ok (.aload_n 0, 1) := by decide +kernel
theorem dX4_copyFrom_48 : decode cX4_copyFrom 48 = .ok (.getfield 19, 3) := by decide +kernel
theorem dX4_copyFrom_51 : decode cX4_copyFrom 51 = .ok (.invokestatic 47, 3) := by decide +kernel
theorem dX4_copyFrom_54 : decode cX4_copyFrom 54 = .ok (.aload_n 1, 1) := by decide +kernel
theorem dX4_copyFrom_55 : decode cX4_copyFrom 55 = .ok (.getfield 22, 3) := by decide +kernel
theorem dX4_copyFrom_58 : decode cX4_copyFrom 58 = .ok (.aload_n 0, 1) := by decide +kernel
theorem dX4_copyFrom_59 : decode cX4_copyFrom 59 = .ok (.getfield 22, 3) := by decide +kernel
theorem dX4_copyFrom_62 : decode cX4_copyFrom 62 = .ok (.invokestatic 47, 3) := by decide +kernel
theorem dX4_copyFrom_65 : decode cX4_copyFrom 65 = .ok (.aload_n 1, 1) := by decide +kernel
theorem dX4_copyFrom_66 : decode cX4_copyFrom 66 = .ok (.getfield 25, 3) := by decide +kernel
theorem dX4_copyFrom_69 : decode cX4_copyFrom 69 = .ok (.aload_n 0, 1) := by decide +kernel
theorem dX4_copyFrom_70 : decode cX4_copyFrom 70 = .ok (.getfield 25, 3) := by decide +kernel
theorem dX4_copyFrom_73 : decode cX4_copyFrom 73 = .ok (.invokestatic 47, 3) := by decide +kernel
theorem dX4_copyFrom_76 : decode cX4_copyFrom 76 = .ok (.aload_n 1, 1) := by decide +kernel
theorem dX4_copyFrom_77 : decode cX4_copyFrom 77 = .ok (.getfield 32, 3) := by decide +kernel
theorem dX4_copyFrom_80 : decode cX4_copyFrom 80 = .ok (.aload_n 0, 1) := by decide +kernel
theorem dX4_copyFrom_81 : decode cX4_copyFrom 81 = .ok (.getfield 32, 3) := by decide +kernel
theorem dX4_copyFrom_84 : decode cX4_copyFrom 84 = .ok (.invokestatic 47, 3) := by decide +kernel
theorem dX4_copyFrom_87 : decode cX4_copyFrom 87 = .ok (.aload_n 1, 1) := by decide +kernel
theorem dX4_copyFrom_88 : decode cX4_copyFrom 88 = .ok (.getfield 35, 3) := by decide +kernel
theorem dX4_copyFrom_91 : decode cX4_copyFrom 91 = .ok (.aload_n 0, 1) := by decide +kernel
theorem dX4_copyFrom_92 : decode cX4_copyFrom 92 = .ok (.getfield 35, 3) := by decide +kernel
theorem dX4_copyFrom_95 : decode cX4_copyFrom 95 = .ok (.invokestatic 47, 3) := by decide +kernel
theorem dX4_copyFrom_98 : decode cX4_copyFrom 98 = .ok (.iconst 0, 1) := by decide +kernel
theorem dX4_copyFrom_99 : decode cX4_copyFrom 99 = .ok (.istore_n 2, 1) := by decide +kernel
theorem dX4_copyFrom_100 : decode cX4_copyFrom 100 = .ok (.iload_n 2, 1) := by decide +kernel
theorem dX4_copyFrom_101 : decode cX4_copyFrom 101 = .ok (.bipush 32, 2) := by decide +kernel
theorem dX4_copyFrom_103 : decode cX4_copyFrom 103 = .ok (.if_icmp .ge 21, 3) := by decide +kernel
theorem dX4_copyFrom_106 : decode cX4_copyFrom 106 = .ok (.aload_n 0, 1) := by decide +kernel
theorem dX4_copyFrom_107 : decode cX4_copyFrom 107 = .ok (.getfield 28, 3) := by decide +kernel
theorem dX4_copyFrom_110 : decode cX4_copyFrom 110 = .ok (.iload_n 2, 1) := by decide +kernel
theorem dX4_copyFrom_111 : decode cX4_copyFrom 111 = .ok (.aload_n 1, 1) := by decide +kernel
theorem dX4_copyFrom_112 : decode cX4_copyFrom 112 = .ok (.getfield 28, 3) := by decide +kernel
theorem dX4_copyFrom_115 : decode cX4_copyFrom 115 = .ok (.iload_n 2, 1) := by decide +kernel
theorem dX4_copyFrom_116 : decode cX4_copyFrom 116 = .ok (.baload, 1) := by decide +kernel
theorem dX4_copyFrom_117 : decode cX4_copyFrom 117 = .ok (.bastore, 1) := by decide +kernel
theorem dX4_copyFrom_118 : decode cX4_copyFrom 118 = .ok (.iinc 2 1, 3) := by decide +kernel
theorem dX4_copyFrom_121 : decode cX4_copyFrom 121 = .ok (.goto (-21), 3) := by decide +kernel
theorem dX4_copyFrom_124 : decode cX4_copyFrom 124 = .ok (.return_, 1) := by decide +kernel
theorem dX4_becomeSilence_0 : decode cX4_becomeSilence 0 = .ok (.aload_n 0, 1) := by decide +kernel
theorem dX4_becomeSilence_1 : decode cX4_becomeSilence 1 = .ok (.iload_n 1, 1) := by decide +kernel
theorem dX4_becomeSilence_2 : decode cX4_becomeSilence 2 = .ok (.putfield 9, 3) := by decide +kernel
theorem dX4_becomeSilence_5 : decode cX4_becomeSilence 5 = .ok (.iconst 0, 1) := by decide +kernel
theorem dX4_becomeSilence_6 : decode cX4_becomeSilence 6 = .ok (.istore_n 2, 1) := by decide +kernel
theorem dX4_becomeSilence_7 : decode cX4_becomeSilence 7 = .ok (.iload_n 2, 1) := by decide +kernel
theorem dX4_becomeSilence_8 : decode cX4_becomeSilence 8 = .ok (.bipush 64, 2) := by decide +kernel
theorem dX4_becomeSilence_10 : decode cX4_becomeSilence 10 = .ok (.if_icmp .ge 16, 3) := by decide +kernel
theorem dX4_becomeSilence_13 : decode cX4_becomeSilence 13 = .ok (.aload_n 0, 1) := by decide +kernel
theorem dX4_becomeSilence_14 : decode cX4_becomeSilence 14 = .ok (.getfield 15, 3) := by decide +kernel
theorem dX4_becomeSilence_17 : decode cX4_becomeSilence 17 = .ok (.iload_n 2, 1) := by decide +kernel
theorem dX4_becomeSilence_18 : decode cX4_becomeSilence 18 = .ok (.iconst 0, 1) := by decide +kernel
theorem dX4_becomeSilence_19 : decode cX4_becomeSilence 19 = .ok (.iastore, 1) := by decide +kernel
theorem dX4_becomeSilence_20 : decode cX4_becomeSilence 20 = .ok (.iinc 2 1, 3) := by decide +kernel
theorem dX4_becomeSilence_23 : decode cX4_becomeSilence 23 = .ok (.goto (-16), 3) := by decide +kernel
theorem dX4_becomeSilence_26 : decode cX4_becomeSilence 26 = .ok (.aload_n 0, 1) := by decide +kernel
theorem dX4_becomeSilence_27 : decode cX4_becomeSilence 27 = .ok (.invokevirtual 51, 3) := by decide +kernel
theorem dX4_becomeSilence_30 : decode cX4_becomeSilence 30 = .ok (.return_, 1) := by decide +kernel
theorem dX4_forgetBlocks_0 : decode cX4_forgetBlocks 0 = .ok (.aload_n 0, 1) := by decide +kernel
theorem dX4_forgetBlocks_1 : decode cX4_forgetBlocks 1 = .ok (.iconst 0, 1) := by decide +kernel
theorem dX4_forgetBlocks_2 : decode cX4_forgetBlocks 2 = .ok (.putfield 38, 3) := by decide +kernel
theorem dX4_forgetBlocks_5 : decode cX4_forgetBlocks 5 = .ok (.return_, 1) := by decide +kernel
theorem dX4_isCoded_0 : decode cX4_isCoded 0 = .ok (.aload_n 0, 1) := by decide +kernel
theorem dX4_isCoded_1 : decode cX4_isCoded 1 = .ok (.getfield 38, 3) := by decide +kernel
theorem dX4_isCoded_4 : decode cX4_isCoded 4 = .ok (.ifCond .le 7, 3) := by decide +kernel
theorem dX4_isCoded_7 : decode cX4_isCoded 7 = .ok (.iconst 1, 1) := by decide +kernel
theorem dX4_isCoded_8 : decode cX4_isCoded 8 = .ok (.goto 4, 3) := by decide +kernel
theorem dX4_isCoded_11 : decode cX4_isCoded 11 = .ok (.iconst 0, 1) := by decide +kernel
theorem dX4_isCoded_12 : decode cX4_isCoded 12 = .ok (.ireturn, 1) := by decide +kernel
theorem dX4_hasSample_0 : decode cX4_hasSample 0 = .ok (.iload_n 1, 1) := by decide +kernel
theorem dX4_hasSample_1 : decode cX4_hasSample 1 = .ok (.ifCond .lt 15, 3) := by decide +kernel
theorem dX4_hasSample_4 : decode cX4_hasSample 4 = .ok (.iload_n 1, 1) := by decide +kernel
theorem dX4_hasSample_5 : decode cX4_hasSample 5 = .ok (.aload_n 0, 1) := by decide +kernel
theorem dX4_hasSample_6 : decode cX4_hasSample 6 = .ok (.getfield 9, 3) := by decide +kernel
theorem dX4_hasSample_9 : decode cX4_hasSample 9 = .ok (.if_icmp .ge 7, 3) := by decide +kernel
theorem dX4_hasSample_12 : decode cX4_hasSample 12 = .ok (.iconst 1, 1) := by decide +kernel
theorem dX4_hasSample_13 : decode cX4_hasSample 13 = .ok (.goto 4, 3) := by decide +kernel
theorem dX4_hasSample_16 : decode cX4_hasSample 16 = .ok (.iconst 0, 1) := by decide +kernel
theorem dX4_hasSample_17 : decode cX4_hasSample 17 = .ok (.ireturn, 1) := by decide +kernel
theorem dX4_hasBlock_0 : decode cX4_hasBlock 0 = .ok (.iload_n 1, 1) := by decide +kernel
theorem dX4_hasBlock_1 : decode cX4_hasBlock 1 = .ok (.ifCond .lt 15, 3) := by decide +kernel
theorem dX4_hasBlock_4 : decode cX4_hasBlock 4 = .ok (.iload_n 1, 1) := by decide +kernel
theorem dX4_hasBlock_5 : decode cX4_hasBlock 5 = .ok (.aload_n 0, 1) := by decide +kernel
theorem dX4_hasBlock_6 : decode cX4_hasBlock 6 = .ok (.getfield 38, 3) := by decide +kernel
theorem dX4_hasBlock_9 : decode cX4_hasBlock 9 = .ok (.if_icmp .ge 7, 3) := by decide +kernel
theorem dX4_hasBlock_12 : decode cX4_hasBlock 12 = .ok (.iconst 1, 1) := by decide +kernel
theorem dX4_hasBlock_13 : decode cX4_hasBlock 13 = .ok (.goto 4, 3) := by decide +kernel
theorem dX4_hasBlock_16 : decode cX4_hasBlock 16 = .ok (.iconst 0, 1) := by decide +kernel
theorem dX4_hasBlock_17 : decode cX4_hasBlock 17 = .ok (.ireturn, 1) := by decide +kernel
theorem dX4_hasCode_0 : decode cX4_hasCode 0 = .ok (.aload_n 0, 1) := by decide +kernel
theorem dX4_hasCode_1 : decode cX4_hasCode 1 = .ok (.invokevirtual 54, 3) := by decide +kernel
theorem dX4_hasCode_4 : decode cX4_hasCode 4 = .ok (.ifCond .eq 25, 3) := by decide +kernel
theorem dX4_hasCode_7 : decode cX4_hasCode 7 = .ok (.aload_n 0, 1) := by decide +kernel
theorem dX4_hasCode_8 : decode cX4_hasCode 8 = .ok (.iload_n 1, 1) := by decide +kernel
theorem dX4_hasCode_9 : decode cX4_hasCode 9 = .ok (.invokevirtual 58, 3) := by decide +kernel
theorem dX4_hasCode_12 : decode cX4_hasCode 12 = .ok (.ifCond .eq 17, 3) := by decide +kernel
theorem dX4_hasCode_15 : decode cX4_hasCode 15 = .ok (.aload_n 0, 1) := by decide +kernel
theorem dX4_hasCode_16 : decode cX4_hasCode 16 = .ok (.getfield 32, 3) := by decide +kernel
theorem dX4_hasCode_19 : decode cX4_hasCode 19 = .ok (.iload_n 1, 1) := by decide +kernel
theorem dX4_hasCode_20 : decode cX4_hasCode 20 = .ok (.iaload, 1) := by decide +kernel
theorem dX4_hasCode_21 : decode cX4_hasCode 21 = .ok (.iconst (-1), 1) := by decide +kernel
theorem dX4_hasCode_22 : decode cX4_hasCode 22 = .ok (.if_icmp .eq 7, 3) := by decide +kernel
theorem dX4_hasCode_25 : decode cX4_hasCode 25 = .ok (.iconst 1, 1) := by decide +kernel
theorem dX4_hasCode_26 : decode cX4_hasCode 26 = .ok (.goto 4, 3) := by decide +kernel
theorem dX4_hasCode_29 : decode cX4_hasCode 29 = .ok (.iconst 0, 1) := by decide +kernel
theorem dX4_hasCode_30 : decode cX4_hasCode 30 = .ok (.ireturn, 1) := by decide +kernel
theorem dX4_startOf_0 : decode cX4_startOf 0 = .ok (.iload_n 1, 1) := by decide +kernel
theorem dX4_startOf_1 : decode cX4_startOf 1 = .ok (.aload_n 0, 1) := by decide +kernel
theorem dX4_startOf_2 : decode cX4_startOf 2 = .ok (.getfield 19, 3) := by decide +kernel
theorem dX4_startOf_5 : decode cX4_startOf 5 = .ok (.iconst 0, 1) := by decide +kernel
theorem dX4_startOf_6 : decode cX4_startOf 6 = .ok (.iaload, 1) := by decide +kernel
theorem dX4_startOf_7 : decode cX4_startOf 7 = .ok (.imul, 1) := by decide +kernel
theorem dX4_startOf_8 : decode cX4_startOf 8 = .ok (.ireturn, 1) := by decide +kernel
theorem dX4_endOf_0 : decode cX4_endOf 0 = .ok (.aload_n 0, 1) := by decide +kernel
theorem dX4_endOf_1 : decode cX4_endOf 1 = .ok (.getfield 9, 3) := by decide +kernel
theorem dX4_endOf_4 : decode cX4_endOf 4 = .ok (.aload_n 0, 1) := by decide +kernel
theorem dX4_endOf_5 : decode cX4_endOf 5 = .ok (.iload_n 1, 1) := by decide +kernel
theorem dX4_endOf_6 : decode cX4_endOf 6 = .ok (.invokevirtual 62, 3) := by decide +kernel
theorem dX4_endOf_9 : decode cX4_endOf 9 = .ok (.aload_n 0, 1) := by decide +kernel
theorem dX4_endOf_10 : decode cX4_endOf 10 = .ok (.getfield 19, 3) := by decide +kernel
theorem dX4_endOf_13 : decode cX4_endOf 13 = .ok (.iconst 0, 1) := by decide +kernel
theorem dX4_endOf_14 : decode cX4_endOf 14 = .ok (.iaload, 1) := by decide +kernel
theorem dX4_endOf_15 : decode cX4_endOf 15 = .ok (.iadd, 1) := by decide +kernel
theorem dX4_endOf_16 : decode cX4_endOf 16 = .ok (.invokestatic 66, 3) := by decide +kernel
theorem dX4_endOf_19 : decode cX4_endOf 19 = .ok (.ireturn, 1) := by decide +kernel
theorem dX4_codesOf_0 : decode cX4_codesOf 0 = .ok (.aload_n 0, 1) := by decide +kernel
theorem dX4_codesOf_1 : decode cX4_codesOf 1 = .ok (.iload_n 1, 1) := by decide +kernel
theorem dX4_codesOf_2 : decode cX4_codesOf 2 = .ok (.invokevirtual 72, 3) := by decide +kernel
theorem dX4_codesOf_5 : decode cX4_codesOf 5 = .ok (.aload_n 0, 1) := by decide +kernel
theorem dX4_codesOf_6 : decode cX4_codesOf 6 = .ok (.iload_n 1, 1) := by decide +kernel
theorem dX4_codesOf_7 : decode cX4_codesOf 7 = .ok (.invokevirtual 62, 3) := by decide +kernel
theorem dX4_codesOf_10 : decode cX4_codesOf 10 = .ok (.isub, 1) := by decide +kernel
theorem dX4_codesOf_11 : decode cX4_codesOf 11 = .ok (.iconst 1, 1) := by decide +kernel
theorem dX4_codesOf_12 : decode cX4_codesOf 12 = .ok (.isub, 1) := by decide +kernel
theorem dX4_codesOf_13 : decode cX4_codesOf 13 = .ok (.ireturn, 1) := by decide +kernel
theorem dX4_lostBlocks_0 : decode cX4_lostBlocks 0 = .ok (.iconst 0, 1) := by decide +kernel
theorem dX4_lostBlocks_1 : decode cX4_lostBlocks 1 = .ok (.istore_n 1, 1) := by decide +kernel
theorem dX4_lostBlocks_2 : decode cX4_lostBlocks 2 = .ok (.iconst 0, 1) := by decide +kernel
theorem dX4_lostBlocks_3 : decode cX4_lostBlocks 3 = .ok (.istore_n 2, 1) := by decide +kernel
theorem dX4_lostBlocks_4 : decode cX4_lostBlocks 4 = .ok (.iload_n 2, 1) := by decide +kernel
theorem dX4_lostBlocks_5 : decode cX4_lostBlocks 5 = .ok (.aload_n 0, 1) := by decide +kernel
theorem dX4_lostBlocks_6 : decode cX4_lostBlocks 6 = .ok (.getfield 38, 3) := by decide +kernel
theorem dX4_lostBlocks_9 : decode cX4_lostBlocks 9 = .ok (.if_icmp .ge 21, 3) := by decide +kernel
theorem dX4_lostBlocks_12 : decode cX4_lostBlocks 12 = .ok (.aload_n 0, 1) := by decide +kernel
theorem dX4_lostBlocks_13 : decode cX4_lostBlocks 13 = .ok (.getfield 28, 3) := by decide +kernel
theorem dX4_lostBlocks_16 : decode cX4_lostBlocks 16 = .ok (.iload_n 2, 1) := by decide +kernel
theorem dX4_lostBlocks_17 : decode cX4_lostBlocks 17 = .ok (.baload, 1) := by decide +kernel
theorem dX4_lostBlocks_18 : decode cX4_lostBlocks 18 = .ok (.ifCond .eq 6, 3) := by decide +kernel
theorem dX4_lostBlocks_21 : decode cX4_lostBlocks 21 = .ok (.iinc 1 1, 3) := by decide +kernel
theorem dX4_lostBlocks_24 : decode cX4_lostBlocks 24 = .ok (.iinc 2 1, 3) := by decide +kernel
theorem dX4_lostBlocks_27 : decode cX4_lostBlocks 27 = .ok (.goto (-23), 3) := by decide +kernel
theorem dX4_lostBlocks_30 : decode cX4_lostBlocks 30 = .ok (.iload_n 1, 1) := by decide +kernel
theorem dX4_lostBlocks_31 : decode cX4_lostBlocks 31 = .ok (.ireturn, 1) := by decide +kernel
theorem dX4_turnOver_0 : decode cX4_turnOver 0 = .ok (.aload_n 0, 1) := by decide +kernel
theorem dX4_turnOver_1 : decode cX4_turnOver 1 = .ok (.getfield 32, 3) := by decide +kernel
theorem dX4_turnOver_4 : decode cX4_turnOver 4 = .ok (.iload_n 1, 1) := by decide +kernel
theorem dX4_turnOver_5 : decode cX4_turnOver 5 = .ok (.dup2, 1) := by decide +kernel
theorem dX4_turnOver_6 : decode cX4_turnOver 6 = .ok (.iaload, 1) := by decide +kernel
theorem dX4_turnOver_7 : decode cX4_turnOver 7 = .ok (.iconst 1, 1) := by decide +kernel
theorem dX4_turnOver_8 : decode cX4_turnOver 8 = .ok (.iload_n 2, 1) := by decide +kernel
theorem dX4_turnOver_9 : decode cX4_turnOver 9 = .ok (.ishl, 1) := by decide +kernel
theorem dX4_turnOver_10 : decode cX4_turnOver 10 = .ok (.ixor, 1) := by decide +kernel
theorem dX4_turnOver_11 : decode cX4_turnOver 11 = .ok (.iastore, 1) := by decide +kernel
theorem dX4_turnOver_12 : decode cX4_turnOver 12 = .ok (.return_, 1) := by decide +kernel
theorem dX4_putBlock_0 : decode cX4_putBlock 0 = .ok (.aload_n 0, 1) := by decide +kernel
theorem dX4_putBlock_1 : decode cX4_putBlock 1 = .ok (.getfield 22, 3) := by decide +kernel
theorem dX4_putBlock_4 : decode cX4_putBlock 4 = .ok (.iload_n 1, 1) := by decide +kernel
theorem dX4_putBlock_5 : decode cX4_putBlock 5 = .ok (.aload_n 2, 1) := by decide +kernel
theorem dX4_putBlock_6 : decode cX4_putBlock 6 = .ok (.getfield 75, 3) := by decide +kernel
theorem dX4_putBlock_9 : decode cX4_putBlock 9 = .ok (.iastore, 1) := by decide +kernel
theorem dX4_putBlock_10 : decode cX4_putBlock 10 = .ok (.aload_n 0, 1) := by decide +kernel
theorem dX4_putBlock_11 : decode cX4_putBlock 11 = .ok (.getfield 25, 3) := by decide +kernel
theorem dX4_putBlock_14 : decode cX4_putBlock 14 = .ok (.iload_n 1, 1) := by decide +kernel
theorem dX4_putBlock_15 : decode cX4_putBlock 15 = .ok (.aload_n 2, 1) := by decide +kernel
theorem dX4_putBlock_16 : decode cX4_putBlock 16 = .ok (.getfield 80, 3) := by decide +kernel
theorem dX4_putBlock_19 : decode cX4_putBlock 19 = .ok (.iastore, 1) := by decide +kernel
theorem dX4_putBlock_20 : decode cX4_putBlock 20 = .ok (.aload_n 0, 1) := by decide +kernel
theorem dX4_putBlock_21 : decode cX4_putBlock 21 = .ok (.getfield 28, 3) := by decide +kernel
theorem dX4_putBlock_24 : decode cX4_putBlock 24 = .ok (.iload_n 1, 1) := by decide +kernel
theorem dX4_putBlock_25 : decode cX4_putBlock 25 = .ok (.iconst 0, 1) := by decide +kernel
theorem dX4_putBlock_26 : decode cX4_putBlock 26 = .ok (.bastore, 1) := by decide +kernel
theorem dX4_putBlock_27 : decode cX4_putBlock 27 = .ok (.aload_n 0, 1) := by decide +kernel
theorem dX4_putBlock_28 : decode cX4_putBlock 28 = .ok (.iload_n 1, 1) := by decide +kernel
theorem dX4_putBlock_29 : decode cX4_putBlock 29 = .ok (.invokevirtual 62, 3) := by decide +kernel
theorem dX4_putBlock_32 : decode cX4_putBlock 32 = .ok (.istore_n 3, 1) := by decide +kernel
theorem dX4_putBlock_33 : decode cX4_putBlock 33 = .ok (.iconst 0, 1) := by decide +kernel
theorem dX4_putBlock_34 : decode cX4_putBlock 34 = .ok (.istore 4, 2) := by decide +kernel
theorem dX4_putBlock_36 : decode cX4_putBlock 36 = .ok (.iload 4, 2) := by decide +kernel
theorem dX4_putBlock_38 : decode cX4_putBlock 38 = .ok (.aload_n 0, 1) := by decide +kernel
theorem dX4_putBlock_39 : decode cX4_putBlock 39 = .ok (.iload_n 1, 1) := by decide +kernel
theorem dX4_putBlock_40 : decode cX4_putBlock 40 = .ok (.invokevirtual 83, 3) := by decide +kernel
theorem dX4_putBlock_43 : decode cX4_putBlock 43 = .ok (.if_icmp .ge 37, 3) := by decide +kernel
theorem dX4_putBlock_46 : decode cX4_putBlock 46 = .ok (.iload 4, 2) := by decide +kernel
theorem dX4_putBlock_48 : decode cX4_putBlock 48 = .ok (.aload_n 2, 1) := by decide +kernel
theorem dX4_putBlock_49 : decode cX4_putBlock 49 = .ok (.getfield 86, 3) := by decide +kernel
theorem dX4_putBlock_52 : decode cX4_putBlock 52 = .ok (.arraylength, 1) := by decide +kernel
theorem dX4_putBlock_53 : decode cX4_putBlock 53 = .ok (.if_icmp .ge 27, 3) := by decide +kernel
theorem dX4_putBlock_56 : decode cX4_putBlock 56 = .ok (.aload_n 0, 1) := by decide +kernel
theorem dX4_putBlock_57 : decode cX4_putBlock 57 = .ok (.getfield 32, 3) := by decide +kernel
theorem dX4_putBlock_60 : decode cX4_putBlock 60 = .ok (.iload_n 3, 1) := by decide +kernel
theorem dX4_putBlock_61 : decode cX4_putBlock 61 = .ok (.iconst 1, 1) := by decide +kernel
theorem dX4_putBlock_62 : decode cX4_putBlock 62 = .ok (.iadd, 1) := by decide +kernel
theorem dX4_putBlock_63 : decode cX4_putBlock 63 = .ok (.iload 4, 2) := by decide +kernel
theorem dX4_putBlock_65 : decode cX4_putBlock 65 = .ok (.iadd, 1) := by decide +kernel
theorem dX4_putBlock_66 : decode cX4_putBlock 66 = .ok (.aload_n 2, 1) := by decide +kernel
theorem dX4_putBlock_67 : decode cX4_putBlock 67 = .ok (.getfield 86, 3) := by decide +kernel
theorem dX4_putBlock_70 : decode cX4_putBlock 70 = .ok (.iload 4, 2) := by decide +kernel
theorem dX4_putBlock_72 : decode cX4_putBlock 72 = .ok (.iaload, 1) := by decide +kernel
theorem dX4_putBlock_73 : decode cX4_putBlock 73 = .ok (.iastore, 1) := by decide +kernel
theorem dX4_putBlock_74 : decode cX4_putBlock 74 = .ok (.iinc 4 1, 3) := by decide +kernel
theorem dX4_putBlock_77 : decode cX4_putBlock 77 = .ok (.goto (-41), 3) := by decide +kernel
theorem dX4_putBlock_80 : decode cX4_putBlock 80 = .ok (.return_, 1) := by decide +kernel
theorem dX5_init_0 : decode cX5_init 0 = .ok (.aload_n 0, 1) := by decide +kernel
theorem dX5_init_1 : decode cX5_init 1 = .ok (.invokespecial 3, 3) := by decide +kernel
theorem dX5_init_4 : decode cX5_init 4 = .ok (.return_, 1) := by decide +kernel
theorem dX5_stepOf_0 : decode cX5_stepOf 0 = .ok (.iload_n 0, 1) := by decide +kernel
theorem dX5_stepOf_1 : decode cX5_stepOf 1 = .ok (.ifCond .lt 19, 3) := by decide +kernel
theorem dX5_stepOf_4 : decode cX5_stepOf 4 = .ok (.iload_n 0, 1) := by decide +kernel
theorem dX5_stepOf_5 : decode cX5_stepOf 5 = .ok (.getstatic 9, 3) := by decide +kernel
theorem dX5_stepOf_8 : decode cX5_stepOf 8 = .ok (.arraylength, 1) := by decide +kernel
theorem dX5_stepOf_9 : decode cX5_stepOf 9 = .ok (.if_icmp .ge 11, 3) := by decide +kernel
theorem dX5_stepOf_12 : decode cX5_stepOf 12 = .ok (.getstatic 9, 3) := by decide +kernel
theorem dX5_stepOf_15 : decode cX5_stepOf 15 = .ok (.iload_n 0, 1) := by decide +kernel
theorem dX5_stepOf_16 : decode cX5_stepOf 16 = .ok (.iaload, 1) := by decide +kernel
theorem dX5_stepOf_17 : decode cX5_stepOf 17 = .ok (.goto 4, 3) := by decide +kernel
theorem dX5_stepOf_20 : decode cX5_stepOf 20 = .ok (.iconst 0, 1) := by decide +kernel
theorem dX5_stepOf_21 : decode cX5_stepOf 21 = .ok (.ireturn, 1) := by decide +kernel
theorem dX5_begin_0 : decode cX5_begin 0 = .ok (.aload_n 0, 1) := by decide +kernel
theorem dX5_begin_1 : decode cX5_begin 1 = .ok (.iload_n 1, 1) := by decide +kernel
theorem dX5_begin_2 : decode cX5_begin 2 = .ok (.putfield 15, 3) := by decide +kernel
theorem dX5_begin_5 : decode cX5_begin 5 = .ok (.aload_n 0, 1) := by decide +kernel
theorem dX5_begin_6 : decode cX5_begin 6 = .ok (.iload_n 2, 1) := by decide +kernel
theorem dX5_begin_7 : decode cX5_begin 7 = .ok (.putfield 19, 3) := by decide +kernel
theorem dX5_begin_10 : decode cX5_begin 10 = .ok (.return_, 1) := by decide +kernel
theorem dX5_codeTowards_0 : decode cX5_codeTowards 0 = .ok (.aload_n 0, 1) := by decide +kernel
theorem dX5_codeTowards_1 : decode cX5_codeTowards 1 = .ok (.getfield 19, 3) := by decide +kernel
theorem dX5_codeTowards_4 : decode cX5_codeTowards 4 = .ok (.invokestatic 22, 3) := by decide +kernel
theorem dX5_codeTowards_7 : decode cX5_codeTowards 7 = .ok (.istore_n 2, 1) := by decide +kernel
theorem dX5_codeTowards_8 : decode cX5_codeTowards 8 = .ok (.iload_n 1, 1) := by decide +kernel
theorem dX5_codeTowards_9 : decode cX5_codeTowards 9 = .ok (.aload_n 0, 1) := by decide +kernel
theorem dX5_codeTowards_10 : decode cX5_codeTowards 10 = .ok (.getfield 15, 3) := by decide +kernel
theorem dX5_codeTowards_13 : decode cX5_codeTowards 13 = .ok (.isub, 1) := by decide +kernel
theorem dX5_codeTowards_14 : decode cX5_codeTowards 14 = .ok (.invokestatic 26, 3) := by decide +kernel
theorem dX5_codeTowards_17 : decode cX5_codeTowards 17 = .ok (.istore_n 3, 1) := by decide +kernel
theorem dX5_codeTowards_18 : decode cX5_codeTowards 18 = .ok (.iload_n 1, 1) := by decide +kernel
theorem dX5_codeTowards_19 : decode cX5_codeTowards 19 = .ok (.aload_n 0, 1) := by decide +kernel
theorem dX5_codeTowards_20 : decode cX5_codeTowards 20 = .ok (.getfield 15, 3) := by decide +kernel
theorem dX5_codeTowards_23 : decode cX5_codeTowards 23 = .ok (.if_icmp .ge 8, 3) := by decide +kernel
theorem dX5_codeTowards_26 : decode cX5_codeTowards 26 = .ok (.bipush 8, 2) := by decide +kernel
theorem dX5_codeTowards_28 : decode cX5_codeTowards 28 = .ok (.goto 4, 3) := by decide +kernel
theorem dX5_codeTowards_31 : decode cX5_codeTowards 31 = .ok (.iconst 0, 1) := by decide +kernel
theorem dX5_codeTowards_32 : decode cX5_codeTowards 32 = .ok (.istore 4, 2) := by decide +kernel
theorem dX5_codeTowards_34 : decode cX5_codeTowards 34 = .ok (.iload_n 3, 1) := by decide +kernel
theorem dX5_codeTowards_35 : decode cX5_codeTowards 35 = .ok (.iload_n 2, 1) := by decide +kernel
theorem dX5_codeTowards_36 : decode cX5_codeTowards 36 = .ok (.if_icmp .lt 13, 3) := by decide +kernel
theorem dX5_codeTowards_39 : decode cX5_codeTowards 39 = .ok (.iload 4, 2) := by decide +kernel
theorem dX5_codeTowards_41 : decode cX5_codeTowards 41 = .ok (.iconst 4, 1) := by decide +kernel
theorem dX5_codeTowards_42 : decode cX5_codeTowards 42 = .ok (.ior, 1) := by decide +kernel
theorem dX5_codeTowards_43 : decode cX5_codeTowards 43 = .ok (.istore 4, 2) := by decide +kernel
theorem dX5_codeTowards_45 : decode cX5_codeTowards 45 = .ok (.iload_n 3, 1) := by decide +kernel
theorem dX5_codeTowards_46 : decode cX5_codeTowards 46 = .ok (.iload_n 2, 1) := by decide +kernel
theorem dX5_codeTowards_47 : decode cX5_codeTowards 47 = .ok (.isub, 1) := by decide +kernel
theorem dX5_codeTowards_48 : decode cX5_codeTowards 48 = .ok (.istore_n 3, 1) := by decide +kernel
theorem dX5_codeTowards_49 : decode cX5_codeTowards 49 = .ok (.iload_n 3, 1) := by decide +kernel
theorem dX5_codeTowards_50 : decode cX5_codeTowards 50 = .ok (.iload_n 2, 1) := by decide +kernel
theorem dX5_codeTowards_51 : decode cX5_codeTowards 51 = .ok (.iconst 2, 1) := by decide +kernel
theorem dX5_codeTowards_52 : decode cX5_codeTowards 52 = .ok (.idiv, 1) := by decide +kernel
theorem dX5_codeTowards_53 : decode cX5_codeTowards 53 = .ok (.if_icmp .lt 15, 3) := by decide +kernel
theorem dX5_codeTowards_56 : decode cX5_codeTowards 56 = .ok (.iload 4, 2) := by decide +kernel
theorem dX5_codeTowards_58 : decode cX5_codeTowards 58 = .ok (.iconst 2, 1) := by decide +kernel
theorem dX5_codeTowards_59 : decode cX5_codeTowards 59 = .ok (.ior, 1) := by decide +kernel
theorem dX5_codeTowards_60 : decode cX5_codeTowards 60 = .ok (.istore 4, 2) := by decide +kernel
theorem dX5_codeTowards_62 : decode cX5_codeTowards 62 = .ok (.iload_n 3, 1) := by decide +kernel
theorem dX5_codeTowards_63 : decode cX5_codeTowards 63 = .ok (.iload_n 2, 1) := by decide +kernel
theorem dX5_codeTowards_64 : decode cX5_codeTowards 64 = .ok (.iconst 2, 1) := by decide +kernel
theorem dX5_codeTowards_65 : decode cX5_codeTowards 65 = .ok (.idiv, 1) := by decide +kernel
theorem dX5_codeTowards_66 : decode cX5_codeTowards 66 = .ok (.isub, 1) := by decide +kernel
theorem dX5_codeTowards_67 : decode cX5_codeTowards 67 = .ok (.istore_n 3, 1) := by decide +kernel
theorem dX5_codeTowards_68 : decode cX5_codeTowards 68 = .ok (.iload_n 3, 1) := by decide +kernel
theorem dX5_codeTowards_69 : decode cX5_codeTowards 69 = .ok (.iload_n 2, 1) := by decide +kernel
theorem dX5_codeTowards_70 : decode cX5_codeTowards 70 = .ok (.iconst 4, 1) := by decide +kernel
theorem dX5_codeTowards_71 : decode cX5_codeTowards 71 = .ok (.idiv, 1) := by decide +kernel
theorem dX5_codeTowards_72 : decode cX5_codeTowards 72 = .ok (.if_icmp .lt 9, 3) := by decide +kernel
theorem dX5_codeTowards_75 : decode cX5_codeTowards 75 = .ok (.iload 4, 2) := by decide +kernel
theorem dX5_codeTowards_77 : decode cX5_codeTowards 77 = .ok (.iconst 1, 1) := by decide +kernel
theorem dX5_codeTowards_78 : decode cX5_codeTowards 78 = .ok (.ior, 1) := by decide +kernel
theorem dX5_codeTowards_79 : decode cX5_codeTowards 79 = .ok (.istore 4, 2) := by decide +kernel
theorem dX5_codeTowards_81 : decode cX5_codeTowards 81 = .ok (.iload 4, 2) := by decide +kernel
theorem dX5_codeTowards_83 : decode cX5_codeTowards 83 = .ok (.ireturn, 1) := by decide +kernel
theorem dX5_follow_0 : decode cX5_follow 0 = .ok (.aload_n 0, 1) := by decide +kernel
theorem dX5_follow_1 : decode cX5_follow 1 = .ok (.getfield 19, 3) := by decide +kernel
theorem dX5_follow_4 : decode cX5_follow 4 = .ok (.invokestatic 22, 3) := by decide +kernel
theorem dX5_follow_7 : decode cX5_follow 7 = .ok (.iload_n 1, 1) := by decide +kernel
theorem dX5_follow_8 : decode cX5_follow 8 = .ok (.invokestatic 31, 3) := by decide +kernel
theorem dX5_follow_11 : decode cX5_follow 11 = .ok (.istore_n 2, 1) := by decide +kernel
theorem dX5_follow_12 : decode cX5_follow 12 = .ok (.aload_n 0, 1) := by decide +kernel
theorem dX5_follow_13 : decode cX5_follow 13 = .ok (.iload_n 1, 1) := by decide +kernel
theorem dX5_follow_14 : decode cX5_follow 14 = .ok (.bipush 8, 2) := by decide +kernel
theorem dX5_follow_16 : decode cX5_follow 16 = .ok (.iand, 1) := by decide +kernel
theorem dX5_follow_17 : decode cX5_follow 17 = .ok (.ifCond .eq 12, 3) := by decide +kernel
theorem dX5_follow_20 : decode cX5_follow 20 = .ok (.aload_n 0, 1) := by decide +kernel
theorem dX5_follow_21 : decode cX5_follow 21 = .ok (.getfield 15, 3) := by decide +kernel
theorem dX5_follow_24 : decode cX5_follow 24 = .ok (.iload_n 2, 1) := by decide +kernel
theorem dX5_follow_25 : decode cX5_follow 25 = .ok (.isub, 1) := by decide +kernel
theorem dX5_follow_26 : decode cX5_follow 26 = .ok (.goto 9, 3) := by decide +kernel
theorem dX5_follow_29 : decode cX5_follow 29 = .ok (.aload_n 0, 1) := by decide +kernel
theorem dX5_follow_30 : decode cX5_follow 30 = .ok (.getfield 15, 3) := by decide +kernel
theorem dX5_follow_33 : decode cX5_follow 33 = .ok (.iload_n 2, 1) := by decide +kernel
theorem dX5_follow_34 : decode cX5_follow 34 = .ok (.iadd, 1) := by decide +kernel
theorem dX5_follow_35 : decode cX5_follow 35 = .ok (.invokestatic 35, 3) := by decide +kernel
theorem dX5_follow_38 : decode cX5_follow 38 = .ok (.putfield 15, 3) := by decide +kernel
theorem dX5_follow_41 : decode cX5_follow 41 = .ok (.iload_n 1, 1) := by decide +kernel
theorem dX5_follow_42 : decode cX5_follow 42 = .ok (.bipush 7, 2) := by decide +kernel
theorem dX5_follow_44 : decode cX5_follow 44 = .ok (.iand, 1) := by decide +kernel
theorem dX5_follow_45 : decode cX5_follow 45 = .ok (.istore_n 3, 1) := by decide +kernel
theorem dX5_follow_46 : decode cX5_follow 46 = .ok (.iload_n 3, 1) := by decide +kernel
theorem dX5_follow_47 : decode cX5_follow 47 = .ok (.iconst 4, 1) := by decide +kernel
theorem dX5_follow_48 : decode cX5_follow 48 = .ok (.if_icmp .ge 12, 3) := by decide +kernel
theorem dX5_follow_51 : decode cX5_follow 51 = .ok (.aload_n 0, 1) := by decide +kernel
theorem dX5_follow_52 : decode cX5_follow 52 = .ok (.getfield 19, 3) := by decide +kernel
theorem dX5_follow_55 : decode cX5_follow 55 = .ok (.iconst 1, 1) := by decide +kernel
theorem dX5_follow_56 : decode cX5_follow 56 = .ok (.isub, 1) := by decide +kernel
theorem dX5_follow_57 : decode cX5_follow 57 = .ok (.goto 15, 3) := by decide +kernel
theorem dX5_follow_60 : decode cX5_follow 60 = .ok (.aload_n 0, 1) := by decide +kernel
theorem dX5_follow_61 : decode cX5_follow 61 = .ok (.getfield 19, 3) := by decide +kernel
theorem dX5_follow_64 : decode cX5_follow 64 = .ok (.iconst 2, 1) := by decide +kernel
theorem dX5_follow_65 : decode cX5_follow 65 = .ok (.iload_n 3, 1) := by decide +kernel
theorem dX5_follow_66 : decode cX5_follow 66 = .ok (.iconst 4, 1) := by decide +kernel
theorem dX5_follow_67 : decode cX5_follow 67 = .ok (.isub, 1) := by decide +kernel
theorem dX5_follow_68 : decode cX5_follow 68 = .ok (.iconst 1, 1) := by decide +kernel
theorem dX5_follow_69 : decode cX5_follow 69 = .ok (.iadd, 1) := by decide +kernel
theorem dX5_follow_70 : decode cX5_follow 70 = .ok (.imul, 1) := by decide +kernel
theorem dX5_follow_71 : decode cX5_follow 71 = .ok (.iadd, 1) := by decide +kernel
theorem dX5_follow_72 : decode cX5_follow 72 = .ok (.istore 4, 2) := by decide +kernel
theorem dX5_follow_74 : decode cX5_follow 74 = .ok (.aload_n 0, 1) := by decide +kernel
theorem dX5_follow_75 : decode cX5_follow 75 = .ok (.iconst 0, 1) := by decide +kernel
theorem dX5_follow_76 : decode cX5_follow 76 = .ok (.bipush 48, 2) := by decide +kernel
theorem dX5_follow_78 : decode cX5_follow 78 = .ok (.iload 4, 2) := by decide +kernel
theorem dX5_follow_80 : decode cX5_follow 80 = .ok (.invokestatic 38, 3) := by decide +kernel
theorem dX5_follow_83 : decode cX5_follow 83 = .ok (.invokestatic 41, 3) := by decide +kernel
theorem dX5_follow_86 : decode cX5_follow 86 = .ok (.putfield 19, 3) := by decide +kernel
theorem dX5_follow_89 : decode cX5_follow 89 = .ok (.return_, 1) := by decide +kernel
theorem dX5_changeBy_0 : decode cX5_changeBy 0 = .ok (.iload_n 0, 1) := by decide +kernel
theorem dX5_changeBy_1 : decode cX5_changeBy 1 = .ok (.bipush 8, 2) := by decide +kernel
theorem dX5_changeBy_3 : decode cX5_changeBy 3 = .ok (.idiv, 1) := by decide +kernel
theorem dX5_changeBy_4 : decode cX5_changeBy 4 = .ok (.istore_n 2, 1) := by decide +kernel
theorem dX5_changeBy_5 : decode cX5_changeBy 5 = .ok (.iload_n 1, 1) := by decide +kernel
theorem dX5_changeBy_6 : decode cX5_changeBy 6 = .ok (.iconst 4, 1) := by decide +kernel
theorem dX5_changeBy_7 : decode cX5_changeBy 7 = .ok (.iand, 1) := by decide +kernel
theorem dX5_changeBy_8 : decode cX5_changeBy 8 = .ok (.ifCond .eq 7, 3) := by decide +kernel
theorem dX5_changeBy_11 : decode cX5_changeBy 11 = .ok (.iload_n 2, 1) := by decide +kernel
theorem dX5_changeBy_12 : decode cX5_changeBy 12 = .ok (.iload_n 0, 1) := by decide +kernel
theorem dX5_changeBy_13 : decode cX5_changeBy 13 = .ok (.iadd, 1) := by decide +kernel
theorem dX5_changeBy_14 : decode cX5_changeBy 14 = .ok (.istore_n 2, 1) := by decide +kernel
theorem dX5_changeBy_15 : decode cX5_changeBy 15 = .ok (.iload_n 1, 1) := by decide +kernel
theorem dX5_changeBy_16 : decode cX5_changeBy 16 = .ok (.iconst 2, 1) := by decide +kernel
theorem dX5_changeBy_17 : decode cX5_changeBy 17 = .ok (.iand, 1) := by decide +kernel
theorem dX5_changeBy_18 : decode cX5_changeBy 18 = .ok (.ifCond .eq 9, 3) := by decide +kernel
theorem dX5_changeBy_21 : decode cX5_changeBy 21 = .ok (.iload_n 2, 1) := by decide +kernel
theorem dX5_changeBy_22 : decode cX5_changeBy 22 = .ok (.iload_n 0, 1) := by decide +kernel
theorem dX5_changeBy_23 : decode cX5_changeBy 23 = .ok (.iconst 2, 1) := by decide +kernel
theorem dX5_changeBy_24 : decode cX5_changeBy 24 = .ok (.idiv, 1) := by decide +kernel
theorem dX5_changeBy_25 : decode cX5_changeBy 25 = .ok (.iadd, 1) := by decide +kernel
theorem dX5_changeBy_26 : decode cX5_changeBy 26 = .ok (.istore_n 2, 1) := by decide +kernel
theorem dX5_changeBy_27 : decode cX5_changeBy 27 = .ok (.iload_n 1, 1) := by decide +kernel
theorem dX5_changeBy_28 : decode cX5_changeBy 28 = .ok (.iconst 1, 1) := by decide +kernel
theorem dX5_changeBy_29 : decode cX5_changeBy 29 = .ok (.iand, 1) := by decide +kernel
theorem dX5_changeBy_30 : decode cX5_changeBy 30 = .ok (.ifCond .eq 9, 3) := by decide +kernel
theorem dX5_changeBy_33 : decode cX5_changeBy 33 = .ok (.iload_n 2, 1) := by decide +kernel
theorem dX5_changeBy_34 : decode cX5_changeBy 34 = .ok (.iload_n 0, 1) := by decide +kernel
theorem dX5_changeBy_35 : decode cX5_changeBy 35 = .ok (.iconst 4, 1) := by decide +kernel
theorem dX5_changeBy_36 : decode cX5_changeBy 36 = .ok (.idiv, 1) := by decide +kernel
theorem dX5_changeBy_37 : decode cX5_changeBy 37 = .ok (.iadd, 1) := by decide +kernel
theorem dX5_changeBy_38 : decode cX5_changeBy 38 = .ok (.istore_n 2, 1) := by decide +kernel
theorem dX5_changeBy_39 : decode cX5_changeBy 39 = .ok (.iload_n 2, 1) := by decide +kernel
theorem dX5_changeBy_40 : decode cX5_changeBy 40 = .ok (.ireturn, 1) := by decide +kernel
theorem dX6_init_0 : decode cX6_init 0 = .ok (.aload_n 0, 1) := by decide +kernel
theorem dX6_init_1 : decode cX6_init 1 = .ok (.invokespecial 3, 3) := by decide +kernel
theorem dX6_init_4 : decode cX6_init 4 = .ok (.aload_n 0, 1) := by decide +kernel
theorem dX6_init_5 : decode cX6_init 5 = .ok (.new 9, 3) := by decide +kernel
theorem dX6_init_8 : decode cX6_init 8 = .ok (.dup, 1) := by decide +kernel
theorem dX6_init_9 : decode cX6_init 9 = .ok (.invokespecial 11, 3) := by decide +kernel
theorem dX6_init_12 : decode cX6_init 12 = .ok (.putfield 12, 3) := by decide +kernel
theorem dX6_init_15 : decode cX6_init 15 = .ok (.aload_n 0, 1) := by decide +kernel
theorem dX6_init_16 : decode cX6_init 16 = .ok (.new 16, 3) := by decide +kernel
theorem dX6_init_19 : decode cX6_init 19 = .ok (.dup, 1) := by decide +kernel
theorem dX6_init_20 : decode cX6_init 20 = .ok (.invokespecial 18, 3) := by decide +kernel
theorem dX6_init_23 : decode cX6_init 23 = .ok (.putfield 19, 3) := by decide +kernel
theorem dX6_init_26 : decode cX6_init 26 = .ok (.aload_n 0, 1) := by decide +kernel
theorem dX6_init_27 : decode cX6_init 27 = .ok (.iconst 2, 1) := by decide +kernel
theorem dX6_init_28 : decode cX6_init 28 = .ok (.anewarray 9, 3) := by decide +kernel
theorem dX6_init_31 : decode cX6_init 31 = .ok (.dup, 1) := by decide +kernel
theorem dX6_init_32 : decode cX6_init 32 = .ok (.iconst 0, 1) := by decide +kernel
theorem dX6_init_33 : decode cX6_init 33 = .ok (.new 9, 3) := by decide +kernel
theorem dX6_init_36 : decode cX6_init 36 = .ok (.dup, 1) := by decide +kernel
theorem dX6_init_37 : decode cX6_init 37 = .ok (.invokespecial 11, 3) := by decide +kernel
theorem dX6_init_40 : decode cX6_init 40 = .ok (.aastore, 1) := by decide +kernel
theorem dX6_init_41 : decode cX6_init 41 = .ok (.dup, 1) := by decide +kernel
theorem dX6_init_42 : decode cX6_init 42 = .ok (.iconst 1, 1) := by decide +kernel
theorem dX6_init_43 : decode cX6_init 43 = .ok (.new 9, 3) := by decide +kernel
theorem dX6_init_46 : decode cX6_init 46 = .ok (.dup, 1) := by decide +kernel
theorem dX6_init_47 : decode cX6_init 47 = .ok (.invokespecial 11, 3) := by decide +kernel
theorem dX6_init_50 : decode cX6_init 50 = .ok (.aastore, 1) := by decide +kernel
theorem dX6_init_51 : decode cX6_init 51 = .ok (.putfield 23, 3) := by decide +kernel
theorem dX6_init_54 : decode cX6_init 54 = .ok (.aload_n 0, 1) := by decide +kernel
theorem dX6_init_55 : decode cX6_init 55 = .ok (.iconst 2, 1) := by decide +kernel
theorem dX6_init_56 : decode cX6_init 56 = .ok (.newarray .boolean, 2) := by decide +kernel
theorem dX6_init_58 : decode cX6_init 58 = .ok (.putfield 27, 3) := by decide +kernel
theorem dX6_init_61 : decode cX6_init 61 = .ok (.aload_n 0, 1) := by decide +kernel
theorem dX6_init_62 : decode cX6_init 62 = .ok (.new 31, 3) := by decide +kernel
theorem dX6_init_65 : decode cX6_init 65 = .ok (.dup, 1) := by decide +kernel
theorem dX6_init_66 : decode cX6_init 66 = .ok (.invokespecial 33, 3) := by decide +kernel
theorem dX6_init_69 : decode cX6_init 69 = .ok (.putfield 34, 3) := by decide +kernel
theorem dX6_init_72 : decode cX6_init 72 = .ok (.aload_n 0, 1) := by decide +kernel
theorem dX6_init_73 : decode cX6_init 73 = .ok (.new 38, 3) := by decide +kernel
theorem dX6_init_76 : decode cX6_init 76 = .ok (.dup, 1) := by decide +kernel
theorem dX6_init_77 : decode cX6_init 77 = .ok (.invokespecial 40, 3) := by decide +kernel
theorem dX6_init_80 : decode cX6_init 80 = .ok (.putfield 41, 3) := by decide +kernel
theorem dX6_init_83 : decode cX6_init 83 = .ok (.aload_n 0, 1) := by decide +kernel
theorem dX6_init_84 : decode cX6_init 84 = .ok (.new 45, 3) := by decide +kernel
theorem dX6_init_87 : decode cX6_init 87 = .ok (.dup, 1) := by decide +kernel
theorem dX6_init_88 : decode cX6_init 88 = .ok (.invokespecial 47, 3) := by decide +kernel
theorem dX6_init_91 : decode cX6_init 91 = .ok (.putfield 48, 3) := by decide +kernel
theorem dX6_init_94 : decode cX6_init 94 = .ok (.aload_n 0, 1) := by decide +kernel
theorem dX6_init_95 : decode cX6_init 95 = .ok (.new 45, 3) := by decide +kernel
theorem dX6_init_98 : decode cX6_init 98 = .ok (.dup, 1) := by decide +kernel
theorem dX6_init_99 : decode cX6_init 99 = .ok (.invokespecial 47, 3) := by decide +kernel
theorem dX6_init_102 : decode cX6_init 102 = .ok (.putfield 52, 3) := by decide +kernel
theorem dX6_init_105 : decode cX6_init 105 = .ok (.aload_n 0, 1) := by decide +kernel
theorem dX6_init_106 : decode cX6_init 106 = .ok (.new 55, 3) := by decide +kernel
theorem dX6_init_109 : decode cX6_init 109 = .ok (.dup, 1) := by decide +kernel
theorem dX6_init_110 : decode cX6_init 110 = .ok (.invokespecial 57, 3) := by decide +kernel
theorem dX6_init_113 : decode cX6_init 113 = .ok (.putfield 58, 3) := by decide +kernel
theorem dX6_init_116 : decode cX6_init 116 = .ok (.return_, 1) := by decide +kernel
theorem dX6_wave_0 : decode cX6_wave 0 = .ok (.iload_n 1, 1) := by decide +kernel
theorem dX6_wave_1 : decode cX6_wave 1 = .ok (.iconst 1, 1) := by decide +kernel
theorem dX6_wave_2 : decode cX6_wave 2 = .ok (.if_icmp .lt 9, 3) := by decide +kernel
theorem dX6_wave_5 : decode cX6_wave 5 = .ok (.iload_n 1, 1) := by decide +kernel
theorem dX6_wave_6 : decode cX6_wave 6 = .ok (.bipush 64, 2) := by decide +kernel
theorem dX6_wave_8 : decode cX6_wave 8 = .ok (.if_icmp .le 13, 3) := by decide +kernel
theorem dX6_wave_11 : decode cX6_wave 11 = .ok (.new 62, 3) := by decide +kernel
theorem dX6_wave_14 : decode cX6_wave 14 = .ok (.dup, 1) := by decide +kernel
theorem dX6_wave_15 : decode cX6_wave 15 = .ok (.ldc 64, 2) := by decide +kernel
theorem dX6_wave_17 : decode cX6_wave 17 = .ok (.invokespecial 66, 3) := by decide +kernel
theorem dX6_wave_20 : decode cX6_wave 20 = .ok (.athrow, 1) := by decide +kernel
theorem dX6_wave_21 : decode cX6_wave 21 = .ok (.aload_n 0, 1) := by decide +kernel
theorem dX6_wave_22 : decode cX6_wave 22 = .ok (.invokevirtual 69, 3) := by decide +kernel
theorem dX6_wave_25 : decode cX6_wave 25 = .ok (.aload_n 0, 1) := by decide +kernel
theorem dX6_wave_26 : decode cX6_wave 26 = .ok (.getfield 12, 3) := by decide +kernel
theorem dX6_wave_29 : decode cX6_wave 29 = .ok (.getfield 72, 3) := by decide +kernel
theorem dX6_wave_32 : decode cX6_wave 32 = .ok (.istore_n 2, 1) := by decide +kernel
theorem dX6_wave_33 : decode cX6_wave 33 = .ok (.aload_n 0, 1) := by decide +kernel
theorem dX6_wave_34 : decode cX6_wave 34 = .ok (.getfield 12, 3) := by decide +kernel
theorem dX6_wave_37 : decode cX6_wave 37 = .ok (.iload_n 1, 1) := by decide +kernel
theorem dX6_wave_38 : decode cX6_wave 38 = .ok (.invokevirtual 76, 3) := by decide +kernel
theorem dX6_wave_41 : decode cX6_wave 41 = .ok (.iload_n 2, 1) := by decide +kernel
theorem dX6_wave_42 : decode cX6_wave 42 = .ok (.ireturn, 1) := by decide +kernel
theorem dX6_sample_0 : decode cX6_sample 0 = .ok (.aload_n 0, 1) := by decide +kernel
theorem dX6_sample_1 : decode cX6_sample 1 = .ok (.getfield 12, 3) := by decide +kernel
theorem dX6_sample_4 : decode cX6_sample 4 = .ok (.iload_n 1, 1) := by decide +kernel
theorem dX6_sample_5 : decode cX6_sample 5 = .ok (.invokevirtual 80, 3) := by decide +kernel
theorem dX6_sample_8 : decode cX6_sample 8 = .ok (.ifCond .ne 13, 3) := by decide +kernel
theorem dX6_sample_11 : decode cX6_sample 11 = .ok (.new 84, 3) := by decide +kernel
theorem dX6_sample_14 : decode cX6_sample 14 = .ok (.dup, 1) := by decide +kernel
theorem dX6_sample_15 : decode cX6_sample 15 = .ok (.ldc 86, 2) := by decide +kernel
theorem dX6_sample_17 : decode cX6_sample 17 = .ok (.invokespecial 88, 3) := by decide +kernel
theorem dX6_sample_20 : decode cX6_sample 20 = .ok (.athrow, 1) := by decide +kernel
theorem dX6_sample_21 : decode cX6_sample 21 = .ok (.iload_n 2, 1) := by decide +kernel
theorem dX6_sample_22 : decode cX6_sample 22 = .ok (.invokestatic 89, 3) := by decide +kernel
theorem dX6_sample_25 : decode cX6_sample 25 = .ok (.ifCond .ne 13, 3) := by decide +kernel
theorem dX6_sample_28 : decode cX6_sample 28 = .ok (.new 62, 3) := by decide +kernel
theorem dX6_sample_31 : decode cX6_sample 31 = .ok (.dup, 1) := by decide +kernel
theorem dX6_sample_32 : decode cX6_sample 32 = .ok (.ldc 92, 2) := by decide +kernel
theorem dX6_sample_34 : decode cX6_sample 34 = .ok (.invokespecial 66, 3) := by decide +kernel
theorem dX6_sample_37 : decode cX6_sample 37 = .ok (.athrow, 1) := by decide +kernel
theorem dX6_sample_38 : decode cX6_sample 38 = .ok (.aload_n 0, 1) := by decide +kernel
theorem dX6_sample_39 : decode cX6_sample 39 = .ok (.invokevirtual 69, 3) := by decide +kernel
theorem dX6_sample_42 : decode cX6_sample 42 = .ok (.aload_n 0, 1) := by decide +kernel
theorem dX6_sample_43 : decode cX6_sample 43 = .ok (.getfield 12, 3) := by decide +kernel
theorem dX6_sample_46 : decode cX6_sample 46 = .ok (.getfield 94, 3) := by decide +kernel
theorem dX6_sample_49 : decode cX6_sample 49 = .ok (.iload_n 1, 1) := by decide +kernel
theorem dX6_sample_50 : decode cX6_sample 50 = .ok (.iaload, 1) := by decide +kernel
theorem dX6_sample_51 : decode cX6_sample 51 = .ok (.istore_n 3, 1) := by decide +kernel
theorem dX6_sample_52 : decode cX6_sample 52 = .ok (.aload_n 0, 1) := by decide +kernel
theorem dX6_sample_53 : decode cX6_sample 53 = .ok (.getfield 12, 3) := by decide +kernel
theorem dX6_sample_56 : decode cX6_sample 56 = .ok (.getfield 94, 3) := by decide +kernel
theorem dX6_sample_59 : decode cX6_sample 59 = .ok (.iload_n 1, 1) := by decide +kernel
theorem dX6_sample_60 : decode cX6_sample 60 = .ok (.iload_n 2, 1) := by decide +kernel
theorem dX6_sample_61 : decode cX6_sample 61 = .ok (.iastore, 1) := by decide +kernel
theorem dX6_sample_62 : decode cX6_sample 62 = .ok (.aload_n 0, 1) := by decide +kernel
theorem dX6_sample_63 : decode cX6_sample 63 = .ok (.getfield 12, 3) := by decide +kernel
theorem dX6_sample_66 : decode cX6_sample 66 = .ok (.invokevirtual 98, 3) := by decide +kernel
theorem dX6_sample_69 : decode cX6_sample 69 = .ok (.iload_n 3, 1) := by decide +kernel
theorem dX6_sample_70 : decode cX6_sample 70 = .ok (.sipush 10000, 3) := by decide +kernel
theorem dX6_sample_73 : decode cX6_sample 73 = .ok (.iadd, 1) := by decide +kernel
theorem dX6_sample_74 : decode cX6_sample 74 = .ok (.ireturn, 1) := by decide +kernel
theorem dX6_add_0 : decode cX6_add 0 = .ok (.iload_n 1, 1) := by decide +kernel
theorem dX6_add_1 : decode cX6_add 1 = .ok (.ifCond .lt 8, 3) := by decide +kernel
theorem dX6_add_4 : decode cX6_add 4 = .ok (.iload_n 1, 1) := by decide +kernel
theorem dX6_add_5 : decode cX6_add 5 = .ok (.iconst 2, 1) := by decide +kernel
theorem dX6_add_6 : decode cX6_add 6 = .ok (.if_icmp .le 13, 3) := by decide +kernel
theorem dX6_add_9 : decode cX6_add 9 = .ok (.new 62, 3) := by decide +kernel
theorem dX6_add_12 : decode cX6_add 12 = .ok (.dup, 1) := by decide +kernel
theorem dX6_add_13 : decode cX6_add 13 = .ok (.ldc 101, 2) := by decide +kernel
theorem dX6_add_15 : decode cX6_add 15 = .ok (.invokespecial 66, 3) := by decide +kernel
theorem dX6_add_18 : decode cX6_add 18 = .ok (.athrow, 1) := by decide +kernel
theorem dX6_add_19 : decode cX6_add 19 = .ok (.iload_n 2, 1) := by decide +kernel
theorem dX6_add_20 : decode cX6_add 20 = .ok (.ifCond .lt 10, 3) := by decide +kernel
theorem dX6_add_23 : decode cX6_add 23 = .ok (.iload_n 2, 1) := by decide +kernel
theorem dX6_add_24 : decode cX6_add 24 = .ok (.sipush 2047, 3) := by decide +kernel
theorem dX6_add_27 : decode cX6_add 27 = .ok (.if_icmp .le 13, 3) := by decide +kernel
theorem dX6_add_30 : decode cX6_add 30 = .ok (.new 62, 3) := by decide +kernel
theorem dX6_add_33 : decode cX6_add 33 = .ok (.dup, 1) := by decide +kernel
theorem dX6_add_34 : decode cX6_add 34 = .ok (.ldc 103, 2) := by decide +kernel
theorem dX6_add_36 : decode cX6_add 36 = .ok (.invokespecial 66, 3) := by decide +kernel
theorem dX6_add_39 : decode cX6_add 39 = .ok (.athrow, 1) := by decide +kernel
theorem dX6_add_40 : decode cX6_add 40 = .ok (.iload_n 3, 1) := by decide +kernel
theorem dX6_add_41 : decode cX6_add 41 = .ok (.iconst 1, 1) := by decide +kernel
theorem dX6_add_42 : decode cX6_add 42 = .ok (.if_icmp .lt 9, 3) := by decide +kernel
theorem dX6_add_45 : decode cX6_add 45 = .ok (.iload_n 3, 1) := by decide +kernel
theorem dX6_add_46 : decode cX6_add 46 = .ok (.bipush 64, 2) := by decide +kernel
theorem dX6_add_48 : decode cX6_add 48 = .ok (.if_icmp .le 13, 3) := by decide +kernel
theorem dX6_add_51 : decode cX6_add 51 = .ok (.new 62, 3) := by decide +kernel
theorem dX6_add_54 : decode cX6_add 54 = .ok (.dup, 1) := by decide +kernel
theorem dX6_add_55 : decode cX6_add 55 = .ok (.ldc 105, 2) := by decide +kernel
theorem dX6_add_57 : decode cX6_add 57 = .ok (.invokespecial 66, 3) := by decide +kernel
theorem dX6_add_60 : decode cX6_add 60 = .ok (.athrow, 1) := by decide +kernel
theorem dX6_add_61 : decode cX6_add 61 = .ok (.aload_n 0, 1) := by decide +kernel
theorem dX6_add_62 : decode cX6_add 62 = .ok (.invokevirtual 69, 3) := by decide +kernel
theorem dX6_add_65 : decode cX6_add 65 = .ok (.iconst 0, 1) := by decide +kernel
theorem dX6_add_66 : decode cX6_add 66 = .ok (.istore 4, 2) := by decide +kernel
theorem dX6_add_68 : decode cX6_add 68 = .ok (.iconst 0, 1) := by decide +kernel
theorem dX6_add_69 : decode cX6_add 69 = .ok (.istore 5, 2) := by decide +kernel
theorem dX6_add_71 : decode cX6_add 71 = .ok (.iload 5, 2) := by decide +kernel
theorem dX6_add_73 : decode cX6_add 73 = .ok (.aload_n 0, 1) := by decide +kernel
theorem dX6_add_74 : decode cX6_add 74 = .ok (.getfield 12, 3) := by decide +kernel
theorem dX6_add_77 : decode cX6_add 77 = .ok (.getfield 72, 3) := by decide +kernel
theorem dX6_add_80 : decode cX6_add 80 = .ok (.if_icmp .ge 58, 3) := by decide +kernel
theorem dX6_add_83 : decode cX6_add 83 = .ok (.aload_n 0, 1) := by decide +kernel
theorem dX6_add_84 : decode cX6_add 84 = .ok (.getfield 12, 3) := by decide +kernel
theorem dX6_add_87 : decode cX6_add 87 = .ok (.getfield 94, 3) := by decide +kernel
theorem dX6_add_90 : decode cX6_add 90 = .ok (.iload 5, 2) := by decide +kernel
theorem dX6_add_92 : decode cX6_add 92 = .ok (.iaload, 1) := by decide +kernel
theorem dX6_add_93 : decode cX6_add 93 = .ok (.iload_n 1, 1) := by decide +kernel
theorem dX6_add_94 : decode cX6_add 94 = .ok (.iload_n 2, 1) := by decide +kernel
theorem dX6_add_95 : decode cX6_add 95 = .ok (.iload_n 3, 1) := by decide +kernel
theorem dX6_add_96 : decode cX6_add 96 = .ok (.iload 5, 2) := by decide +kernel
theorem dX6_add_98 : decode cX6_add 98 = .ok (.iload_n 3, 1) := by decide +kernel
theorem dX6_add_99 : decode cX6_add 99 = .ok (.irem, 1) := by decide +kernel
theorem dX6_add_100 : decode cX6_add 100 = .ok (.invokestatic 107, 3) := by decide +kernel
theorem dX6_add_103 : decode cX6_add 103 = .ok (.iadd, 1) := by decide +kernel
theorem dX6_add_104 : decode cX6_add 104 = .ok (.istore 6, 2) := by decide +kernel
theorem dX6_add_106 : decode cX6_add 106 = .ok (.aload_n 0, 1) := by decide +kernel
theorem dX6_add_107 : decode cX6_add 107 = .ok (.getfield 12, 3) := by decide +kernel
theorem dX6_add_110 : decode cX6_add 110 = .ok (.getfield 94, 3) := by decide +kernel
theorem dX6_add_113 : decode cX6_add 113 = .ok (.iload 5, 2) := by decide +kernel
theorem dX6_add_115 : decode cX6_add 115 = .ok (.iload 6, 2) := by decide +kernel
theorem dX6_add_117 : decode cX6_add 117 = .ok (.invokestatic 111, 3) := by decide +kernel
theorem dX6_add_120 : decode cX6_add 120 = .ok (.iastore, 1) := by decide +kernel
theorem dX6_add_121 : decode cX6_add 121 = .ok (.iload 6, 2) := by decide +kernel
theorem dX6_add_123 : decode cX6_add 123 = .ok (.invokestatic 89, 3) := by decide +kernel
theorem dX6_add_126 : decode cX6_add 126 = .ok (.ifCond .ne 6, 3) := by decide +kernel
theorem dX6_add_129 : decode cX6_add 129 = .ok (.iinc 4 1, 3) := by decide +kernel
theorem dX6_add_132 : decode cX6_add 132 = .ok (.iinc 5 1, 3) := by decide +kernel
theorem dX6_add_135 : decode cX6_add 135 = .ok (.goto (-64), 3) := by decide +kernel
theorem dX6_add_138 : decode cX6_add 138 = .ok (.aload_n 0, 1) := by decide +kernel
theorem dX6_add_139 : decode cX6_add 139 = .ok (.getfield 12, 3) := by decide +kernel
theorem dX6_add_142 : decode cX6_add 142 = .ok (.invokevirtual 98, 3) := by decide +kernel
theorem dX6_add_145 : decode cX6_add 145 = .ok (.iload 4, 2) := by decide +kernel
theorem dX6_add_147 : decode cX6_add 147 = .ok (.ireturn, 1) := by decide +kernel
theorem dX6_set_0 : decode cX6_set 0 = .ok (.iload_n 1, 1) := by decide +kernel
theorem dX6_set_1 : decode cX6_set 1 = .ok (.invokestatic 139, 3) := by decide +kernel
theorem dX6_set_4 : decode cX6_set 4 = .ok (.ifCond .ne 13, 3) := by decide +kernel
theorem dX6_set_7 : decode cX6_set 7 = .ok (.new 84, 3) := by decide +kernel
theorem dX6_set_10 : decode cX6_set 10 = .ok (.dup, 1) := by decide +kernel
theorem dX6_set_11 : decode cX6_set 11 = .ok (.ldc 142, 2) := by decide +kernel
theorem dX6_set_13 : decode cX6_set 13 = .ok (.invokespecial 88, 3) := by decide +kernel
theorem dX6_set_16 : decode cX6_set 16 = .ok (.athrow, 1) := by decide +kernel
theorem dX6_set_17 : decode cX6_set 17 = .ok (.iload_n 2, 1) := by decide +kernel
theorem dX6_set_18 : decode cX6_set 18 = .ok (.iload_n 1, 1) := by decide +kernel
theorem dX6_set_19 : decode cX6_set 19 = .ok (.invokestatic 144, 3) := by decide +kernel
theorem dX6_set_22 : decode cX6_set 22 = .ok (.if_icmp .lt 11, 3) := by decide +kernel
theorem dX6_set_25 : decode cX6_set 25 = .ok (.iload_n 2, 1) := by decide +kernel
theorem dX6_set_26 : decode cX6_set 26 = .ok (.iload_n 1, 1) := by decide +kernel
theorem dX6_set_27 : decode cX6_set 27 = .ok (.invokestatic 147, 3) := by decide +kernel
theorem dX6_set_30 : decode cX6_set 30 = .ok (.if_icmp .le 13, 3) := by decide +kernel
theorem dX6_set_33 : decode cX6_set 33 = .ok (.new 62, 3) := by decide +kernel
theorem dX6_set_36 : decode cX6_set 36 = .ok (.dup, 1) := by decide +kernel
theorem dX6_set_37 : decode cX6_set 37 = .ok (.ldc 150, 2) := by decide +kernel
theorem dX6_set_39 : decode cX6_set 39 = .ok (.invokespecial 66, 3) := by decide +kernel
theorem dX6_set_42 : decode cX6_set 42 = .ok (.athrow, 1) := by decide +kernel
theorem dX6_set_43 : decode cX6_set 43 = .ok (.aload_n 0, 1) := by decide +kernel
theorem dX6_set_44 : decode cX6_set 44 = .ok (.invokevirtual 69, 3) := by decide +kernel
theorem dX6_set_47 : decode cX6_set 47 = .ok (.aload_n 0, 1) := by decide +kernel
theorem dX6_set_48 : decode cX6_set 48 = .ok (.getfield 12, 3) := by decide +kernel
theorem dX6_set_51 : decode cX6_set 51 = .ok (.getfield 152, 3) := by decide +kernel
theorem dX6_set_54 : decode cX6_set 54 = .ok (.iload_n 1, 1) := by decide +kernel
theorem dX6_set_55 : decode cX6_set 55 = .ok (.iaload, 1) := by decide +kernel
theorem dX6_set_56 : decode cX6_set 56 = .ok (.istore_n 3, 1) := by decide +kernel
theorem dX6_set_57 : decode cX6_set 57 = .ok (.aload_n 0, 1) := by decide +kernel
theorem dX6_set_58 : decode cX6_set 58 = .ok (.getfield 12, 3) := by decide +kernel
theorem dX6_set_61 : decode cX6_set 61 = .ok (.getfield 152, 3) := by decide +kernel
theorem dX6_set_64 : decode cX6_set 64 = .ok (.iload_n 1, 1) := by decide +kernel
theorem dX6_set_65 : decode cX6_set 65 = .ok (.iload_n 2, 1) := by decide +kernel
theorem dX6_set_66 : decode cX6_set 66 = .ok (.iastore, 1) := by decide +kernel
theorem dX6_set_67 : decode cX6_set 67 = .ok (.iload_n 1, 1) := by decide +kernel
theorem dX6_set_68 : decode cX6_set 68 = .ok (.iconst 2, 1) := by decide +kernel
theorem dX6_set_69 : decode cX6_set 69 = .ok (.if_icmp .eq 10, 3) := by decide +kernel
theorem dX6_set_72 : decode cX6_set 72 = .ok (.aload_n 0, 1) := by decide +kernel
theorem dX6_set_73 : decode cX6_set 73 = .ok (.getfield 12, 3) := by decide +kernel
theorem dX6_set_76 : decode cX6_set 76 = .ok (.invokevirtual 98, 3) := by decide +kernel
theorem dX6_set_79 : decode cX6_set 79 = .ok (.iload_n 3, 1) := by decide +kernel
theorem dX6_set_80 : decode cX6_set 80 = .ok (.ireturn, 1) := by decide +kernel
theorem dX6_code_0 : decode cX6_code 0 = .ok (.aload_n 0, 1) := by decide +kernel
theorem dX6_code_1 : decode cX6_code 1 = .ok (.invokevirtual 69, 3) := by decide +kernel
theorem dX6_code_4 : decode cX6_code 4 = .ok (.aload_n 0, 1) := by decide +kernel
theorem dX6_code_5 : decode cX6_code 5 = .ok (.getfield 41, 3) := by decide +kernel
theorem dX6_code_8 : decode cX6_code 8 = .ok (.aload_n 0, 1) := by decide +kernel
theorem dX6_code_9 : decode cX6_code 9 = .ok (.getfield 12, 3) := by decide +kernel
theorem dX6_code_12 : decode cX6_code 12 = .ok (.invokevirtual 155, 3) := by decide +kernel
theorem dX6_code_15 : decode cX6_code 15 = .ok (.aload_n 0, 1) := by decide +kernel
theorem dX6_code_16 : decode cX6_code 16 = .ok (.getfield 12, 3) := by decide +kernel
theorem dX6_code_19 : decode cX6_code 19 = .ok (.getfield 158, 3) := by decide +kernel
theorem dX6_code_22 : decode cX6_code 22 = .ok (.ireturn, 1) := by decide +kernel
theorem dX6_lose_0 : decode cX6_lose 0 = .ok (.aload_n 0, 1) := by decide +kernel
theorem dX6_lose_1 : decode cX6_lose 1 = .ok (.iload_n 1, 1) := by decide +kernel
theorem dX6_lose_2 : decode cX6_lose 2 = .ok (.invokevirtual 161, 3) := by decide +kernel
theorem dX6_lose_5 : decode cX6_lose 5 = .ok (.aload_n 0, 1) := by decide +kernel
theorem dX6_lose_6 : decode cX6_lose 6 = .ok (.invokevirtual 69, 3) := by decide +kernel
theorem dX6_lose_9 : decode cX6_lose 9 = .ok (.aload_n 0, 1) := by decide +kernel
theorem dX6_lose_10 : decode cX6_lose 10 = .ok (.getfield 12, 3) := by decide +kernel
theorem dX6_lose_13 : decode cX6_lose 13 = .ok (.getfield 164, 3) := by decide +kernel
theorem dX6_lose_16 : decode cX6_lose 16 = .ok (.iload_n 1, 1) := by decide +kernel
theorem dX6_lose_17 : decode cX6_lose 17 = .ok (.aload_n 0, 1) := by decide +kernel
theorem dX6_lose_18 : decode cX6_lose 18 = .ok (.getfield 12, 3) := by decide +kernel
theorem dX6_lose_21 : decode cX6_lose 21 = .ok (.getfield 164, 3) := by decide +kernel
theorem dX6_lose_24 : decode cX6_lose 24 = .ok (.iload_n 1, 1) := by decide +kernel
theorem dX6_lose_25 : decode cX6_lose 25 = .ok (.baload, 1) := by decide +kernel
theorem dX6_lose_26 : decode cX6_lose 26 = .ok (.ifCond .ne 7, 3) := by decide +kernel
theorem dX6_lose_29 : decode cX6_lose 29 = .ok (.iconst 1, 1) := by decide +kernel
theorem dX6_lose_30 : decode cX6_lose 30 = .ok (.goto 4, 3) := by decide +kernel
theorem dX6_lose_33 : decode cX6_lose 33 = .ok (.iconst 0, 1) := by decide +kernel
theorem dX6_lose_34 : decode cX6_lose 34 = .ok (.bastore, 1) := by decide +kernel
theorem dX6_lose_35 : decode cX6_lose 35 = .ok (.aload_n 0, 1) := by decide +kernel
theorem dX6_lose_36 : decode cX6_lose 36 = .ok (.getfield 12, 3) := by decide +kernel
theorem dX6_lose_39 : decode cX6_lose 39 = .ok (.invokevirtual 167, 3) := by decide +kernel
theorem dX6_lose_42 : decode cX6_lose 42 = .ok (.ireturn, 1) := by decide +kernel
theorem dX6_spoil_0 : decode cX6_spoil 0 = .ok (.aload_n 0, 1) := by decide +kernel
theorem dX6_spoil_1 : decode cX6_spoil 1 = .ok (.iload_n 1, 1) := by decide +kernel
theorem dX6_spoil_2 : decode cX6_spoil 2 = .ok (.iload_n 2, 1) := by decide +kernel
theorem dX6_spoil_3 : decode cX6_spoil 3 = .ok (.invokevirtual 171, 3) := by decide +kernel
theorem dX6_spoil_6 : decode cX6_spoil 6 = .ok (.aload_n 0, 1) := by decide +kernel
theorem dX6_spoil_7 : decode cX6_spoil 7 = .ok (.invokevirtual 69, 3) := by decide +kernel
theorem dX6_spoil_10 : decode cX6_spoil 10 = .ok (.aload_n 0, 1) := by decide +kernel
theorem dX6_spoil_11 : decode cX6_spoil 11 = .ok (.getfield 12, 3) := by decide +kernel
theorem dX6_spoil_14 : decode cX6_spoil 14 = .ok (.iload_n 1, 1) := by decide +kernel
theorem dX6_spoil_15 : decode cX6_spoil 15 = .ok (.iload_n 2, 1) := by decide +kernel
theorem dX6_spoil_16 : decode cX6_spoil 16 = .ok (.invokevirtual 175, 3) := by decide +kernel
theorem dX6_spoil_19 : decode cX6_spoil 19 = .ok (.aload_n 0, 1) := by decide +kernel
theorem dX6_spoil_20 : decode cX6_spoil 20 = .ok (.getfield 12, 3) := by decide +kernel
theorem dX6_spoil_23 : decode cX6_spoil 23 = .ok (.dup, 1) := by decide +kernel
theorem dX6_spoil_24 : decode cX6_spoil 24 = .ok (.getfield 178, 3) := by decide +kernel
theorem dX6_spoil_27 : decode cX6_spoil 27 = .ok (.iconst 1, 1) := by decide +kernel
theorem dX6_spoil_28 : decode cX6_spoil 28 = .ok (.iadd, 1) := by decide +kernel
theorem dX6_spoil_29 : decode cX6_spoil 29 = .ok (.putfield 178, 3) := by decide +kernel
theorem dX6_spoil_32 : decode cX6_spoil 32 = .ok (.aload_n 0, 1) := by decide +kernel
theorem dX6_spoil_33 : decode cX6_spoil 33 = .ok (.getfield 12, 3) := by decide +kernel
theorem dX6_spoil_36 : decode cX6_spoil 36 = .ok (.getfield 181, 3) := by decide +kernel
theorem dX6_spoil_39 : decode cX6_spoil 39 = .ok (.iload_n 1, 1) := by decide +kernel
theorem dX6_spoil_40 : decode cX6_spoil 40 = .ok (.iaload, 1) := by decide +kernel
theorem dX6_spoil_41 : decode cX6_spoil 41 = .ok (.ireturn, 1) := by decide +kernel
theorem dX6_clearBuffer_0 : decode cX6_clearBuffer 0 = .ok (.aload_n 0, 1) := by decide +kernel
theorem dX6_clearBuffer_1 : decode cX6_clearBuffer 1 = .ok (.getfield 34, 3) := by decide +kernel
theorem dX6_clearBuffer_4 : decode cX6_clearBuffer 4 = .ok (.getfield 194, 3) := by decide +kernel
theorem dX6_clearBuffer_7 : decode cX6_clearBuffer 7 = .ok (.istore_n 1, 1) := by decide +kernel
theorem dX6_clearBuffer_8 : decode cX6_clearBuffer 8 = .ok (.aload_n 0, 1) := by decide +kernel
theorem dX6_clearBuffer_9 : decode cX6_clearBuffer 9 = .ok (.getfield 34, 3) := by decide +kernel
theorem dX6_clearBuffer_12 : decode cX6_clearBuffer 12 = .ok (.iconst 0, 1) := by decide +kernel
theorem dX6_clearBuffer_13 : decode cX6_clearBuffer 13 = .ok (.putfield 194, 3) := by decide +kernel
theorem dX6_clearBuffer_16 : decode cX6_clearBuffer 16 = .ok (.iload_n 1, 1) := by decide +kernel
theorem dX6_clearBuffer_17 : decode cX6_clearBuffer 17 = .ok (.ireturn, 1) := by decide +kernel
theorem dX6_firstError_0 : decode cX6_firstError 0 = .ok (.aload_n 0, 1) := by decide +kernel
theorem dX6_firstError_1 : decode cX6_firstError 1 = .ok (.getfield 34, 3) := by decide +kernel
theorem dX6_firstError_4 : decode cX6_firstError 4 = .ok (.invokevirtual 197, 3) := by decide +kernel
theorem dX6_firstError_7 : decode cX6_firstError 7 = .ok (.ireturn, 1) := by decide +kernel
theorem dX6_load_0 : decode cX6_load 0 = .ok (.aload_n 0, 1) := by decide +kernel
theorem dX6_load_1 : decode cX6_load 1 = .ok (.iload_n 1, 1) := by decide +kernel
theorem dX6_load_2 : decode cX6_load 2 = .ok (.invokevirtual 161, 3) := by decide +kernel
theorem dX6_load_5 : decode cX6_load 5 = .ok (.aload_n 0, 1) := by decide +kernel
theorem dX6_load_6 : decode cX6_load 6 = .ok (.getfield 34, 3) := by decide +kernel
theorem dX6_load_9 : decode cX6_load 9 = .ok (.invokevirtual 200, 3) := by decide +kernel
theorem dX6_load_12 : decode cX6_load 12 = .ok (.ifCond .eq 21, 3) := by decide +kernel
theorem dX6_load_15 : decode cX6_load 15 = .ok (.aload_n 0, 1) := by decide +kernel
theorem dX6_load_16 : decode cX6_load 16 = .ok (.getfield 34, 3) := by decide +kernel
theorem dX6_load_19 : decode cX6_load 19 = .ok (.getfield 203, 3) := by decide +kernel
theorem dX6_load_22 : decode cX6_load 22 = .ok (.aload_n 0, 1) := by decide +kernel
theorem dX6_load_23 : decode cX6_load 23 = .ok (.getfield 12, 3) := by decide +kernel
theorem dX6_load_26 : decode cX6_load 26 = .ok (.iload_n 1, 1) := by decide +kernel
theorem dX6_load_27 : decode cX6_load 27 = .ok (.invokevirtual 206, 3) := by decide +kernel
theorem dX6_load_30 : decode cX6_load 30 = .ok (.if_icmp .eq 13, 3) := by decide +kernel
theorem dX6_load_33 : decode cX6_load 33 = .ok (.new 62, 3) := by decide +kernel
theorem dX6_load_36 : decode cX6_load 36 = .ok (.dup, 1) := by decide +kernel
theorem dX6_load_37 : decode cX6_load 37 = .ok (.ldc 209, 2) := by decide +kernel
theorem dX6_load_39 : decode cX6_load 39 = .ok (.invokespecial 66, 3) := by decide +kernel
theorem dX6_load_42 : decode cX6_load 42 = .ok (.athrow, 1) := by decide +kernel
theorem dX6_load_43 : decode cX6_load 43 = .ok (.aload_n 0, 1) := by decide +kernel
theorem dX6_load_44 : decode cX6_load 44 = .ok (.getfield 48, 3) := by decide +kernel
theorem dX6_load_47 : decode cX6_load 47 = .ok (.aload_n 0, 1) := by decide +kernel
theorem dX6_load_48 : decode cX6_load 48 = .ok (.getfield 12, 3) := by decide +kernel
theorem dX6_load_51 : decode cX6_load 51 = .ok (.invokevirtual 124, 3) := by decide +kernel
theorem dX6_load_54 : decode cX6_load 54 = .ok (.aload_n 0, 1) := by decide +kernel
theorem dX6_load_55 : decode cX6_load 55 = .ok (.invokevirtual 69, 3) := by decide +kernel
theorem dX6_load_58 : decode cX6_load 58 = .ok (.aload_n 0, 1) := by decide +kernel
theorem dX6_load_59 : decode cX6_load 59 = .ok (.getfield 12, 3) := by decide +kernel
theorem dX6_load_62 : decode cX6_load 62 = .ok (.iload_n 1, 1) := by decide +kernel
theorem dX6_load_63 : decode cX6_load 63 = .ok (.aload_n 0, 1) := by decide +kernel
theorem dX6_load_64 : decode cX6_load 64 = .ok (.getfield 34, 3) := by decide +kernel
theorem dX6_load_67 : decode cX6_load 67 = .ok (.invokevirtual 211, 3) := by decide +kernel
theorem dX6_load_70 : decode cX6_load 70 = .ok (.aload_n 0, 1) := by decide +kernel
theorem dX6_load_71 : decode cX6_load 71 = .ok (.getfield 34, 3) := by decide +kernel
theorem dX6_load_74 : decode cX6_load 74 = .ok (.iconst 0, 1) := by decide +kernel
theorem dX6_load_75 : decode cX6_load 75 = .ok (.putfield 194, 3) := by decide +kernel
theorem dX6_load_78 : decode cX6_load 78 = .ok (.aload_n 0, 1) := by decide +kernel
theorem dX6_load_79 : decode cX6_load 79 = .ok (.getfield 52, 3) := by decide +kernel
theorem dX6_load_82 : decode cX6_load 82 = .ok (.iconst 0, 1) := by decide +kernel
theorem dX6_load_83 : decode cX6_load 83 = .ok (.putfield 215, 3) := by decide +kernel
theorem dX6_load_86 : decode cX6_load 86 = .ok (.aload_n 0, 1) := by decide +kernel
theorem dX6_load_87 : decode cX6_load 87 = .ok (.getfield 52, 3) := by decide +kernel
theorem dX6_load_90 : decode cX6_load 90 = .ok (.aload_n 0, 1) := by decide +kernel
theorem dX6_load_91 : decode cX6_load 91 = .ok (.getfield 12, 3) := by decide +kernel
theorem dX6_load_94 : decode cX6_load 94 = .ok (.invokevirtual 124, 3) := by decide +kernel
theorem dX6_load_97 : decode cX6_load 97 = .ok (.aload_n 0, 1) := by decide +kernel
theorem dX6_load_98 : decode cX6_load 98 = .ok (.getfield 52, 3) := by decide +kernel
theorem dX6_load_101 : decode cX6_load 101 = .ok (.aload_n 0, 1) := by decide +kernel
theorem dX6_load_102 : decode cX6_load 102 = .ok (.getfield 48, 3) := by decide +kernel
theorem dX6_load_105 : decode cX6_load 105 = .ok (.aload_n 0, 1) := by decide +kernel
theorem dX6_load_106 : decode cX6_load 106 = .ok (.getfield 12, 3) := by decide +kernel
theorem dX6_load_109 : decode cX6_load 109 = .ok (.getfield 72, 3) := by decide +kernel
theorem dX6_load_112 : decode cX6_load 112 = .ok (.invokevirtual 219, 3) := by decide +kernel
theorem dX6_load_115 : decode cX6_load 115 = .ok (.ireturn, 1) := by decide +kernel
theorem dX6_write_0 : decode cX6_write 0 = .ok (.aload_n 0, 1) := by decide +kernel
theorem dX6_write_1 : decode cX6_write 1 = .ok (.iload_n 1, 1) := by decide +kernel
theorem dX6_write_2 : decode cX6_write 2 = .ok (.invokevirtual 161, 3) := by decide +kernel
theorem dX6_write_5 : decode cX6_write 5 = .ok (.aload_n 0, 1) := by decide +kernel
theorem dX6_write_6 : decode cX6_write 6 = .ok (.getfield 34, 3) := by decide +kernel
theorem dX6_write_9 : decode cX6_write 9 = .ok (.aload_n 0, 1) := by decide +kernel
theorem dX6_write_10 : decode cX6_write 10 = .ok (.getfield 12, 3) := by decide +kernel
theorem dX6_write_13 : decode cX6_write 13 = .ok (.iload_n 1, 1) := by decide +kernel
theorem dX6_write_14 : decode cX6_write 14 = .ok (.invokevirtual 223, 3) := by decide +kernel
theorem dX6_write_17 : decode cX6_write 17 = .ok (.aload_n 0, 1) := by decide +kernel
theorem dX6_write_18 : decode cX6_write 18 = .ok (.getfield 34, 3) := by decide +kernel
theorem dX6_write_21 : decode cX6_write 21 = .ok (.getfield 194, 3) := by decide +kernel
theorem dX6_write_24 : decode cX6_write 24 = .ok (.ireturn, 1) := by decide +kernel
theorem dX6_keep_0 : decode cX6_keep 0 = .ok (.aload_n 0, 1) := by decide +kernel
theorem dX6_keep_1 : decode cX6_keep 1 = .ok (.iload_n 1, 1) := by decide +kernel
theorem dX6_keep_2 : decode cX6_keep 2 = .ok (.invokevirtual 227, 3) := by decide +kernel
theorem dX6_keep_5 : decode cX6_keep 5 = .ok (.aload_n 0, 1) := by decide +kernel
theorem dX6_keep_6 : decode cX6_keep 6 = .ok (.getfield 23, 3) := by decide +kernel
theorem dX6_keep_9 : decode cX6_keep 9 = .ok (.iload_n 1, 1) := by decide +kernel
theorem dX6_keep_10 : decode cX6_keep 10 = .ok (.aaload, 1) := by decide +kernel
theorem dX6_keep_11 : decode cX6_keep 11 = .ok (.aload_n 0, 1) := by decide +kernel
theorem dX6_keep_12 : decode cX6_keep 12 = .ok (.getfield 12, 3) := by decide +kernel
theorem dX6_keep_15 : decode cX6_keep 15 = .ok (.invokevirtual 230, 3) := by decide +kernel
theorem dX6_keep_18 : decode cX6_keep 18 = .ok (.aload_n 0, 1) := by decide +kernel
theorem dX6_keep_19 : decode cX6_keep 19 = .ok (.getfield 27, 3) := by decide +kernel
theorem dX6_keep_22 : decode cX6_keep 22 = .ok (.iload_n 1, 1) := by decide +kernel
theorem dX6_keep_23 : decode cX6_keep 23 = .ok (.iconst 1, 1) := by decide +kernel
theorem dX6_keep_24 : decode cX6_keep 24 = .ok (.bastore, 1) := by decide +kernel
theorem dX6_keep_25 : decode cX6_keep 25 = .ok (.aload_n 0, 1) := by decide +kernel
theorem dX6_keep_26 : decode cX6_keep 26 = .ok (.getfield 12, 3) := by decide +kernel
theorem dX6_keep_29 : decode cX6_keep 29 = .ok (.getfield 72, 3) := by decide +kernel
theorem dX6_keep_32 : decode cX6_keep 32 = .ok (.ireturn, 1) := by decide +kernel
theorem dX6_goBack_0 : decode cX6_goBack 0 = .ok (.aload_n 0, 1) := by decide +kernel
theorem dX6_goBack_1 : decode cX6_goBack 1 = .ok (.iload_n 1, 1) := by decide +kernel
theorem dX6_goBack_2 : decode cX6_goBack 2 = .ok (.invokevirtual 227, 3) := by decide +kernel
theorem dX6_goBack_5 : decode cX6_goBack 5 = .ok (.aload_n 0, 1) := by decide +kernel
theorem dX6_goBack_6 : decode cX6_goBack 6 = .ok (.getfield 27, 3) := by decide +kernel
theorem dX6_goBack_9 : decode cX6_goBack 9 = .ok (.iload_n 1, 1) := by decide +kernel
theorem dX6_goBack_10 : decode cX6_goBack 10 = .ok (.baload, 1) := by decide +kernel
theorem dX6_goBack_11 : decode cX6_goBack 11 = .ok (.ifCond .ne 13, 3) := by decide +kernel
theorem dX6_goBack_14 : decode cX6_goBack 14 = .ok (.new 119, 3) := by decide +kernel
theorem dX6_goBack_17 : decode cX6_goBack 17 = .ok (.dup, 1) := by decide +kernel
theorem dX6_goBack_18 : decode cX6_goBack 18 = .ok (.ldc 233, 2) := by decide +kernel
theorem dX6_goBack_20 : decode cX6_goBack 20 = .ok (.invokespecial 123, 3) := by decide +kernel
theorem dX6_goBack_23 : decode cX6_goBack 23 = .ok (.athrow, 1) := by decide +kernel
theorem dX6_goBack_24 : decode cX6_goBack 24 = .ok (.aload_n 0, 1) := by decide +kernel
theorem dX6_goBack_25 : decode cX6_goBack 25 = .ok (.invokevirtual 69, 3) := by decide +kernel
theorem dX6_goBack_28 : decode cX6_goBack 28 = .ok (.aload_n 0, 1) := by decide +kernel
theorem dX6_goBack_29 : decode cX6_goBack 29 = .ok (.getfield 12, 3) := by decide +kernel
theorem dX6_goBack_32 : decode cX6_goBack 32 = .ok (.aload_n 0, 1) := by decide +kernel
theorem dX6_goBack_33 : decode cX6_goBack 33 = .ok (.getfield 23, 3) := by decide +kernel
theorem dX6_goBack_36 : decode cX6_goBack 36 = .ok (.iload_n 1, 1) := by decide +kernel
theorem dX6_goBack_37 : decode cX6_goBack 37 = .ok (.aaload, 1) := by decide +kernel
theorem dX6_goBack_38 : decode cX6_goBack 38 = .ok (.invokevirtual 230, 3) := by decide +kernel
theorem dX6_goBack_41 : decode cX6_goBack 41 = .ok (.aload_n 0, 1) := by decide +kernel
theorem dX6_goBack_42 : decode cX6_goBack 42 = .ok (.getfield 12, 3) := by decide +kernel
theorem dX6_goBack_45 : decode cX6_goBack 45 = .ok (.getfield 72, 3) := by decide +kernel
theorem dX6_goBack_48 : decode cX6_goBack 48 = .ok (.ireturn, 1) := by decide +kernel
theorem dX6_undo_0 : decode cX6_undo 0 = .ok (.aload_n 0, 1) := by decide +kernel
theorem dX6_undo_1 : decode cX6_undo 1 = .ok (.getfield 19, 3) := by decide +kernel
theorem dX6_undo_4 : decode cX6_undo 4 = .ok (.getfield 235, 3) := by decide +kernel
theorem dX6_undo_7 : decode cX6_undo 7 = .ok (.ifCond .ne 13, 3) := by decide +kernel
theorem dX6_undo_10 : decode cX6_undo 10 = .ok (.new 119, 3) := by decide +kernel
theorem dX6_undo_13 : decode cX6_undo 13 = .ok (.dup, 1) := by decide +kernel
theorem dX6_undo_14 : decode cX6_undo 14 = .ok (.ldc 236, 2) := by decide +kernel
theorem dX6_undo_16 : decode cX6_undo 16 = .ok (.invokespecial 123, 3) := by decide +kernel
theorem dX6_undo_19 : decode cX6_undo 19 = .ok (.athrow, 1) := by decide +kernel
theorem dX6_undo_20 : decode cX6_undo 20 = .ok (.aload_n 0, 1) := by decide +kernel
theorem dX6_undo_21 : decode cX6_undo 21 = .ok (.getfield 19, 3) := by decide +kernel
theorem dX6_undo_24 : decode cX6_undo 24 = .ok (.aload_n 0, 1) := by decide +kernel
theorem dX6_undo_25 : decode cX6_undo 25 = .ok (.getfield 12, 3) := by decide +kernel
theorem dX6_undo_28 : decode cX6_undo 28 = .ok (.invokevirtual 238, 3) := by decide +kernel
theorem dX6_undo_31 : decode cX6_undo 31 = .ok (.aload_n 0, 1) := by decide +kernel
theorem dX6_undo_32 : decode cX6_undo 32 = .ok (.getfield 48, 3) := by decide +kernel
theorem dX6_undo_35 : decode cX6_undo 35 = .ok (.iconst 0, 1) := by decide +kernel
theorem dX6_undo_36 : decode cX6_undo 36 = .ok (.putfield 215, 3) := by decide +kernel
theorem dX6_undo_39 : decode cX6_undo 39 = .ok (.aload_n 0, 1) := by decide +kernel
theorem dX6_undo_40 : decode cX6_undo 40 = .ok (.getfield 19, 3) := by decide +kernel
theorem dX6_undo_43 : decode cX6_undo 43 = .ok (.getfield 235, 3) := by decide +kernel
theorem dX6_undo_46 : decode cX6_undo 46 = .ok (.ireturn, 1) := by decide +kernel
theorem dX6_sampleOf_0 : decode cX6_sampleOf 0 = .ok (.aload_n 0, 1) := by decide +kernel
theorem dX6_sampleOf_1 : decode cX6_sampleOf 1 = .ok (.getfield 12, 3) := by decide +kernel
theorem dX6_sampleOf_4 : decode cX6_sampleOf 4 = .ok (.iload_n 1, 1) := by decide +kernel
theorem dX6_sampleOf_5 : decode cX6_sampleOf 5 = .ok (.invokevirtual 80, 3) := by decide +kernel
theorem dX6_sampleOf_8 : decode cX6_sampleOf 8 = .ok (.ifCond .ne 13, 3) := by decide +kernel
theorem dX6_sampleOf_11 : decode cX6_sampleOf 11 = .ok (.new 84, 3) := by decide +kernel
theorem dX6_sampleOf_14 : decode cX6_sampleOf 14 = .ok (.dup, 1) := by decide +kernel
theorem dX6_sampleOf_15 : decode cX6_sampleOf 15 = .ok (.ldc 86, 2) := by decide +kernel
theorem dX6_sampleOf_17 : decode cX6_sampleOf 17 = .ok (.invokespecial 88, 3) := by decide +kernel
theorem dX6_sampleOf_20 : decode cX6_sampleOf 20 = .ok (.athrow, 1) := by decide +kernel
theorem dX6_sampleOf_21 : decode cX6_sampleOf 21 = .ok (.iload_n 2, 1) := by decide +kernel
theorem dX6_sampleOf_22 : decode cX6_sampleOf 22 = .ok (.ifCond .lt 9, 3) := by decide +kernel
theorem dX6_sampleOf_25 : decode cX6_sampleOf 25 = .ok (.iload_n 2, 1) := by decide +kernel
theorem dX6_sampleOf_26 : decode cX6_sampleOf 26 = .ok (.bipush 6, 2) := by decide +kernel
theorem dX6_sampleOf_28 : decode cX6_sampleOf 28 = .ok (.if_icmp .lt 13, 3) := by decide +kernel
theorem dX6_sampleOf_31 : decode cX6_sampleOf 31 = .ok (.new 62, 3) := by decide +kernel
theorem dX6_sampleOf_34 : decode cX6_sampleOf 34 = .ok (.dup, 1) := by decide +kernel
theorem dX6_sampleOf_35 : decode cX6_sampleOf 35 = .ok (.ldc 249, 2) := by decide +kernel
theorem dX6_sampleOf_37 : decode cX6_sampleOf 37 = .ok (.invokespecial 66, 3) := by decide +kernel
theorem dX6_sampleOf_40 : decode cX6_sampleOf 40 = .ok (.athrow, 1) := by decide +kernel
theorem dX6_sampleOf_41 : decode cX6_sampleOf 41 = .ok (.iload_n 2, 1) := by decide +kernel
theorem dX6_sampleOf_42 : decode cX6_sampleOf 42 = .ok (.ifCond .ne 17, 3) := by decide +kernel
theorem dX6_sampleOf_45 : decode cX6_sampleOf 45 = .ok (.aload_n 0, 1) := by decide +kernel
theorem dX6_sampleOf_46 : decode cX6_sampleOf 46 = .ok (.getfield 12, 3) := by decide +kernel
theorem dX6_sampleOf_49 : decode cX6_sampleOf 49 = .ok (.getfield 94, 3) := by decide +kernel
theorem dX6_sampleOf_52 : decode cX6_sampleOf 52 = .ok (.iload_n 1, 1) := by decide +kernel
theorem dX6_sampleOf_53 : decode cX6_sampleOf 53 = .ok (.iaload, 1) := by decide +kernel
theorem dX6_sampleOf_54 : decode cX6_sampleOf 54 = .ok (.sipush 10000, 3) := by decide +kernel
theorem dX6_sampleOf_57 : decode cX6_sampleOf 57 = .ok (.iadd, 1) := by decide +kernel
theorem dX6_sampleOf_58 : decode cX6_sampleOf 58 = .ok (.ireturn, 1) := by decide +kernel
theorem dX6_sampleOf_59 : decode cX6_sampleOf 59 = .ok (.aload_n 0, 1) := by decide +kernel
theorem dX6_sampleOf_60 : decode cX6_sampleOf 60 = .ok (.getfield 12, 3) := by decide +kernel
theorem dX6_sampleOf_63 : decode cX6_sampleOf 63 = .ok (.invokevirtual 115, 3) := by decide +kernel
theorem dX6_sampleOf_66 : decode cX6_sampleOf 66 = .ok (.ifCond .ne 5, 3) := by decide +kernel
theorem dX6_sampleOf_69 : decode cX6_sampleOf 69 = .ok (.iconst (-1), 1) := by decide +kernel
theorem dX6_sampleOf_70 : decode cX6_sampleOf 70 = .ok (.ireturn, 1) := by decide +kernel
theorem dX6_sampleOf_71 : decode cX6_sampleOf 71 = .ok (.aload_n 0, 1) := by decide +kernel
theorem dX6_sampleOf_72 : decode cX6_sampleOf 72 = .ok (.getfield 48, 3) := by decide +kernel
theorem dX6_sampleOf_75 : decode cX6_sampleOf 75 = .ok (.aload_n 0, 1) := by decide +kernel
theorem dX6_sampleOf_76 : decode cX6_sampleOf 76 = .ok (.getfield 12, 3) := by decide +kernel
theorem dX6_sampleOf_79 : decode cX6_sampleOf 79 = .ok (.invokevirtual 124, 3) := by decide +kernel
theorem dX6_sampleOf_82 : decode cX6_sampleOf 82 = .ok (.iload_n 2, 1) := by decide +kernel
theorem dX6_sampleOf_83 : decode cX6_sampleOf 83 = .ok (.tableswitch 77 1 4 #[29, 43, 57, 67], 29) := by decide +kernel
theorem dX6_sampleOf_112 : decode cX6_sampleOf 112 = .ok (.aload_n 0, 1) := by decide +kernel
theorem dX6_sampleOf_113 : decode cX6_sampleOf 113 = .ok (.getfield 48, 3) := by decide +kernel
theorem dX6_sampleOf_116 : decode cX6_sampleOf 116 = .ok (.getfield 132, 3) := by decide +kernel
theorem dX6_sampleOf_119 : decode cX6_sampleOf 119 = .ok (.iload_n 1, 1) := by decide +kernel
theorem dX6_sampleOf_120 : decode cX6_sampleOf 120 = .ok (.iaload, 1) := by decide +kernel
theorem dX6_sampleOf_121 : decode cX6_sampleOf 121 = .ok (.sipush 10000, 3) := by decide +kernel
theorem dX6_sampleOf_124 : decode cX6_sampleOf 124 = .ok (.iadd, 1) := by decide +kernel
theorem dX6_sampleOf_125 : decode cX6_sampleOf 125 = .ok (.ireturn, 1) := by decide +kernel
theorem dX6_sampleOf_126 : decode cX6_sampleOf 126 = .ok (.aload_n 0, 1) := by decide +kernel
theorem dX6_sampleOf_127 : decode cX6_sampleOf 127 = .ok (.getfield 12, 3) := by decide +kernel
theorem dX6_sampleOf_130 : decode cX6_sampleOf 130 = .ok (.getfield 251, 3) := by decide +kernel
theorem dX6_sampleOf_133 : decode cX6_sampleOf 133 = .ok (.iload_n 1, 1) := by decide +kernel
theorem dX6_sampleOf_134 : decode cX6_sampleOf 134 = .ok (.iaload, 1) := by decide +kernel
theorem dX6_sampleOf_135 : decode cX6_sampleOf 135 = .ok (.sipush 10000, 3) := by decide +kernel
theorem dX6_sampleOf_138 : decode cX6_sampleOf 138 = .ok (.iadd, 1) := by decide +kernel
theorem dX6_sampleOf_139 : decode cX6_sampleOf 139 = .ok (.ireturn, 1) := by decide +kernel
theorem dX6_sampleOf_140 : decode cX6_sampleOf 140 = .ok (.aload_n 0, 1) := by decide +kernel
theorem dX6_sampleOf_141 : decode cX6_sampleOf 141 = .ok (.getfield 12, 3) := by decide +kernel
theorem dX6_sampleOf_144 : decode cX6_sampleOf 144 = .ok (.getfield 181, 3) := by decide +kernel
theorem dX6_sampleOf_147 : decode cX6_sampleOf 147 = .ok (.iload_n 1, 1) := by decide +kernel
theorem dX6_sampleOf_148 : decode cX6_sampleOf 148 = .ok (.iaload, 1) := by decide +kernel
theorem dX6_sampleOf_149 : decode cX6_sampleOf 149 = .ok (.ireturn, 1) := by decide +kernel
theorem dX6_sampleOf_150 : decode cX6_sampleOf 150 = .ok (.aload_n 0, 1) := by decide +kernel
theorem dX6_sampleOf_151 : decode cX6_sampleOf 151 = .ok (.getfield 48, 3) := by decide +kernel
theorem dX6_sampleOf_154 : decode cX6_sampleOf 154 = .ok (.getfield 254, 3) := by decide +kernel
theorem dX6_sampleOf_157 : decode cX6_sampleOf 157 = .ok (.iload_n 1, 1) := by decide +kernel
theorem dX6_sampleOf_158 : decode cX6_sampleOf 158 = .ok (.iaload, 1) := by decide +kernel
theorem dX6_sampleOf_159 : decode cX6_sampleOf 159 = .ok (.ireturn, 1) := by decide +kernel
theorem dX6_sampleOf_160 : decode cX6_sampleOf 160 = .ok (.aload_n 0, 1) := by decide +kernel
theorem dX6_sampleOf_161 : decode cX6_sampleOf 161 = .ok (.getfield 12, 3) := by decide +kernel
theorem dX6_sampleOf_164 : decode cX6_sampleOf 164 = .ok (.getfield 94, 3) := by decide +kernel
theorem dX6_sampleOf_167 : decode cX6_sampleOf 167 = .ok (.iload_n 1, 1) := by decide +kernel
theorem dX6_sampleOf_168 : decode cX6_sampleOf 168 = .ok (.iaload, 1) := by decide +kernel
theorem dX6_sampleOf_169 : decode cX6_sampleOf 169 = .ok (.aload_n 0, 1) := by decide +kernel
theorem dX6_sampleOf_170 : decode cX6_sampleOf 170 = .ok (.getfield 48, 3) := by decide +kernel
theorem dX6_sampleOf_173 : decode cX6_sampleOf 173 = .ok (.getfield 132, 3) := by decide +kernel
theorem dX6_sampleOf_176 : decode cX6_sampleOf 176 = .ok (.iload_n 1, 1) := by decide +kernel
theorem dX6_sampleOf_177 : decode cX6_sampleOf 177 = .ok (.iaload, 1) := by decide +kernel
theorem dX6_sampleOf_178 : decode cX6_sampleOf 178 = .ok (.isub, 1) := by decide +kernel
theorem dX6_sampleOf_179 : decode cX6_sampleOf 179 = .ok (.sipush 10000, 3) := by decide +kernel
theorem dX6_sampleOf_182 : decode cX6_sampleOf 182 = .ok (.iadd, 1) := by decide +kernel
theorem dX6_sampleOf_183 : decode cX6_sampleOf 183 = .ok (.ireturn, 1) := by decide +kernel
theorem dX6_blockOf_0 : decode cX6_blockOf 0 = .ok (.aload_n 0, 1) := by decide +kernel
theorem dX6_blockOf_1 : decode cX6_blockOf 1 = .ok (.iload_n 1, 1) := by decide +kernel
theorem dX6_blockOf_2 : decode cX6_blockOf 2 = .ok (.invokevirtual 161, 3) := by decide +kernel
theorem dX6_blockOf_5 : decode cX6_blockOf 5 = .ok (.iload_n 2, 1) := by decide +kernel
theorem dX6_blockOf_6 : decode cX6_blockOf 6 = .ok (.ifCond .lt 9, 3) := by decide +kernel
theorem dX6_blockOf_9 : decode cX6_blockOf 9 = .ok (.iload_n 2, 1) := by decide +kernel
theorem dX6_blockOf_10 : decode cX6_blockOf 10 = .ok (.bipush 6, 2) := by decide +kernel
theorem dX6_blockOf_12 : decode cX6_blockOf 12 = .ok (.if_icmp .lt 13, 3) := by decide +kernel
theorem dX6_blockOf_15 : decode cX6_blockOf 15 = .ok (.new 62, 3) := by decide +kernel
theorem dX6_blockOf_18 : decode cX6_blockOf 18 = .ok (.dup, 1) := by decide +kernel
theorem dX6_blockOf_19 : decode cX6_blockOf 19 = .ok (.ldc 249, 2) := by decide +kernel
theorem dX6_blockOf_21 : decode cX6_blockOf 21 = .ok (.invokespecial 66, 3) := by decide +kernel
theorem dX6_blockOf_24 : decode cX6_blockOf 24 = .ok (.athrow, 1) := by decide +kernel
theorem dX6_blockOf_25 : decode cX6_blockOf 25 = .ok (.iload_n 2, 1) := by decide +kernel
theorem dX6_blockOf_26 : decode cX6_blockOf 26 = .ok (.tableswitch 133 0 4 #[34, 52, 66, 76, 94], 34) := by decide +kernel
theorem dX6_blockOf_60 : decode cX6_blockOf 60 = .ok (.aload_n 0, 1) := by decide +kernel
theorem dX6_blockOf_61 : decode cX6_blockOf 61 = .ok (.getfield 12, 3) := by decide +kernel
theorem dX6_blockOf_64 : decode cX6_blockOf 64 = .ok (.iload_n 1, 1) := by decide +kernel
theorem dX6_blockOf_65 : decode cX6_blockOf 65 = .ok (.invokevirtual 257, 3) := by decide +kernel
theorem dX6_blockOf_68 : decode cX6_blockOf 68 = .ok (.aload_n 0, 1) := by decide +kernel
theorem dX6_blockOf_69 : decode cX6_blockOf 69 = .ok (.getfield 12, 3) := by decide +kernel
theorem dX6_blockOf_72 : decode cX6_blockOf 72 = .ok (.iload_n 1, 1) := by decide +kernel
theorem dX6_blockOf_73 : decode cX6_blockOf 73 = .ok (.invokevirtual 260, 3) := by decide +kernel
theorem dX6_blockOf_76 : decode cX6_blockOf 76 = .ok (.isub, 1) := by decide +kernel
theorem dX6_blockOf_77 : decode cX6_blockOf 77 = .ok (.ireturn, 1) := by decide +kernel
theorem dX6_blockOf_78 : decode cX6_blockOf 78 = .ok (.aload_n 0, 1) := by decide +kernel
theorem dX6_blockOf_79 : decode cX6_blockOf 79 = .ok (.getfield 12, 3) := by decide +kernel
theorem dX6_blockOf_82 : decode cX6_blockOf 82 = .ok (.getfield 263, 3) := by decide +kernel
theorem dX6_blockOf_85 : decode cX6_blockOf 85 = .ok (.iload_n 1, 1) := by decide +kernel
theorem dX6_blockOf_86 : decode cX6_blockOf 86 = .ok (.iaload, 1) := by decide +kernel
theorem dX6_blockOf_87 : decode cX6_blockOf 87 = .ok (.sipush 10000, 3) := by decide +kernel
theorem dX6_blockOf_90 : decode cX6_blockOf 90 = .ok (.iadd, 1) := by decide +kernel
theorem dX6_blockOf_91 : decode cX6_blockOf 91 = .ok (.ireturn, 1) := by decide +kernel
theorem dX6_blockOf_92 : decode cX6_blockOf 92 = .ok (.aload_n 0, 1) := by decide +kernel
theorem dX6_blockOf_93 : decode cX6_blockOf 93 = .ok (.getfield 12, 3) := by decide +kernel
theorem dX6_blockOf_96 : decode cX6_blockOf 96 = .ok (.getfield 266, 3) := by decide +kernel
theorem dX6_blockOf_99 : decode cX6_blockOf 99 = .ok (.iload_n 1, 1) := by decide +kernel
theorem dX6_blockOf_100 : decode cX6_blockOf 100 = .ok (.iaload, 1) := by decide +kernel
theorem dX6_blockOf_101 : decode cX6_blockOf 101 = .ok (.ireturn, 1) := by decide +kernel
theorem dX6_blockOf_102 : decode cX6_blockOf 102 = .ok (.aload_n 0, 1) := by decide +kernel
theorem dX6_blockOf_103 : decode cX6_blockOf 103 = .ok (.getfield 12, 3) := by decide +kernel
theorem dX6_blockOf_106 : decode cX6_blockOf 106 = .ok (.getfield 164, 3) := by decide +kernel
theorem dX6_blockOf_109 : decode cX6_blockOf 109 = .ok (.iload_n 1, 1) := by decide +kernel
theorem dX6_blockOf_110 : decode cX6_blockOf 110 = .ok (.baload, 1) := by decide +kernel
theorem dX6_blockOf_111 : decode cX6_blockOf 111 = .ok (.ifCond .eq 7, 3) := by decide +kernel
theorem dX6_blockOf_114 : decode cX6_blockOf 114 = .ok (.iconst 1, 1) := by decide +kernel
theorem dX6_blockOf_115 : decode cX6_blockOf 115 = .ok (.goto 4, 3) := by decide +kernel
theorem dX6_blockOf_118 : decode cX6_blockOf 118 = .ok (.iconst 0, 1) := by decide +kernel
theorem dX6_blockOf_119 : decode cX6_blockOf 119 = .ok (.ireturn, 1) := by decide +kernel
theorem dX6_blockOf_120 : decode cX6_blockOf 120 = .ok (.aload_n 0, 1) := by decide +kernel
theorem dX6_blockOf_121 : decode cX6_blockOf 121 = .ok (.getfield 48, 3) := by decide +kernel
theorem dX6_blockOf_124 : decode cX6_blockOf 124 = .ok (.aload_n 0, 1) := by decide +kernel
theorem dX6_blockOf_125 : decode cX6_blockOf 125 = .ok (.getfield 12, 3) := by decide +kernel
theorem dX6_blockOf_128 : decode cX6_blockOf 128 = .ok (.invokevirtual 124, 3) := by decide +kernel
theorem dX6_blockOf_131 : decode cX6_blockOf 131 = .ok (.aload_n 0, 1) := by decide +kernel
theorem dX6_blockOf_132 : decode cX6_blockOf 132 = .ok (.getfield 48, 3) := by decide +kernel
theorem dX6_blockOf_135 : decode cX6_blockOf 135 = .ok (.aload_n 0, 1) := by decide +kernel
theorem dX6_blockOf_136 : decode cX6_blockOf 136 = .ok (.getfield 12, 3) := by decide +kernel
theorem dX6_blockOf_139 : decode cX6_blockOf 139 = .ok (.aload_n 0, 1) := by decide +kernel
theorem dX6_blockOf_140 : decode cX6_blockOf 140 = .ok (.getfield 12, 3) := by decide +kernel
theorem dX6_blockOf_143 : decode cX6_blockOf 143 = .ok (.iload_n 1, 1) := by decide +kernel
theorem dX6_blockOf_144 : decode cX6_blockOf 144 = .ok (.invokevirtual 260, 3) := by decide +kernel
theorem dX6_blockOf_147 : decode cX6_blockOf 147 = .ok (.aload_n 0, 1) := by decide +kernel
theorem dX6_blockOf_148 : decode cX6_blockOf 148 = .ok (.getfield 12, 3) := by decide +kernel
theorem dX6_blockOf_151 : decode cX6_blockOf 151 = .ok (.iload_n 1, 1) := by decide +kernel
theorem dX6_blockOf_152 : decode cX6_blockOf 152 = .ok (.invokevirtual 257, 3) := by decide +kernel
theorem dX6_blockOf_155 : decode cX6_blockOf 155 = .ok (.invokevirtual 269, 3) := by decide +kernel
theorem dX6_blockOf_158 : decode cX6_blockOf 158 = .ok (.ireturn, 1) := by decide +kernel
theorem dX6_blockOf_159 : decode cX6_blockOf 159 = .ok (.aload_n 0, 1) := by decide +kernel
theorem dX6_blockOf_160 : decode cX6_blockOf 160 = .ok (.iload_n 1, 1) := by decide +kernel
theorem dX6_blockOf_161 : decode cX6_blockOf 161 = .ok (.invokevirtual 273, 3) := by decide +kernel
theorem dX6_blockOf_164 : decode cX6_blockOf 164 = .ok (.ireturn, 1) := by decide +kernel
theorem dX6_count_0 : decode cX6_count 0 = .ok (.iload_n 1, 1) := by decide +kernel
theorem dX6_count_1 : decode cX6_count 1 = .ok (.ifCond .lt 9, 3) := by decide +kernel
theorem dX6_count_4 : decode cX6_count 4 = .ok (.iload_n 1, 1) := by decide +kernel
theorem dX6_count_5 : decode cX6_count 5 = .ok (.bipush 12, 2) := by decide +kernel
theorem dX6_count_7 : decode cX6_count 7 = .ok (.if_icmp .lt 14, 3) := by decide +kernel
theorem dX6_count_10 : decode cX6_count 10 = .ok (.new 62, 3) := by decide +kernel
theorem dX6_count_13 : decode cX6_count 13 = .ok (.dup, 1) := by decide +kernel
theorem dX6_count_14 : decode cX6_count 14 = .ok (.ldc_w 276, 3) := by decide +kernel
theorem dX6_count_17 : decode cX6_count 17 = .ok (.invokespecial 66, 3) := by decide +kernel
theorem dX6_count_20 : decode cX6_count 20 = .ok (.athrow, 1) := by decide +kernel
theorem dX6_count_21 : decode cX6_count 21 = .ok (.iload_n 1, 1) := by decide +kernel
theorem dX6_count_22 : decode cX6_count 22 = .ok (.tableswitch 126 0 11 #[62, 70, 86, 94, 126, 126, 126, 126, 126, 102, 110, 118], 62) := by decide +kernel
theorem dX6_count_84 : decode cX6_count 84 = .ok (.aload_n 0, 1) := by decide +kernel
theorem dX6_count_85 : decode cX6_count 85 = .ok (.getfield 12, 3) := by decide +kernel
theorem dX6_count_88 : decode cX6_count 88 = .ok (.getfield 72, 3) := by decide +kernel
theorem dX6_count_91 : decode cX6_count 91 = .ok (.ireturn, 1) := by decide +kernel
theorem dX6_count_92 : decode cX6_count 92 = .ok (.aload_n 0, 1) := by decide +kernel
theorem dX6_count_93 : decode cX6_count 93 = .ok (.getfield 12, 3) := by decide +kernel
theorem dX6_count_96 : decode cX6_count 96 = .ok (.invokevirtual 115, 3) := by decide +kernel
theorem dX6_count_99 : decode cX6_count 99 = .ok (.ifCond .eq 7, 3) := by decide +kernel
theorem dX6_count_102 : decode cX6_count 102 = .ok (.iconst 1, 1) := by decide +kernel
theorem dX6_count_103 : decode cX6_count 103 = .ok (.goto 4, 3) := by decide +kernel
theorem dX6_count_106 : decode cX6_count 106 = .ok (.iconst 0, 1) := by decide +kernel
theorem dX6_count_107 : decode cX6_count 107 = .ok (.ireturn, 1) := by decide +kernel
theorem dX6_count_108 : decode cX6_count 108 = .ok (.aload_n 0, 1) := by decide +kernel
theorem dX6_count_109 : decode cX6_count 109 = .ok (.getfield 12, 3) := by decide +kernel
theorem dX6_count_112 : decode cX6_count 112 = .ok (.getfield 158, 3) := by decide +kernel
theorem dX6_count_115 : decode cX6_count 115 = .ok (.ireturn, 1) := by decide +kernel
theorem dX6_count_116 : decode cX6_count 116 = .ok (.aload_n 0, 1) := by decide +kernel
theorem dX6_count_117 : decode cX6_count 117 = .ok (.getfield 12, 3) := by decide +kernel
theorem dX6_count_120 : decode cX6_count 120 = .ok (.invokevirtual 167, 3) := by decide +kernel
theorem dX6_count_123 : decode cX6_count 123 = .ok (.ireturn, 1) := by decide +kernel
theorem dX6_count_124 : decode cX6_count 124 = .ok (.aload_n 0, 1) := by decide +kernel
theorem dX6_count_125 : decode cX6_count 125 = .ok (.getfield 12, 3) := by decide +kernel
theorem dX6_count_128 : decode cX6_count 128 = .ok (.getfield 278, 3) := by decide +kernel
theorem dX6_count_131 : decode cX6_count 131 = .ok (.ireturn, 1) := by decide +kernel
theorem dX6_count_132 : decode cX6_count 132 = .ok (.aload_n 0, 1) := by decide +kernel
theorem dX6_count_133 : decode cX6_count 133 = .ok (.getfield 12, 3) := by decide +kernel
theorem dX6_count_136 : decode cX6_count 136 = .ok (.getfield 178, 3) := by decide +kernel
theorem dX6_count_139 : decode cX6_count 139 = .ok (.ireturn, 1) := by decide +kernel
theorem dX6_count_140 : decode cX6_count 140 = .ok (.aload_n 0, 1) := by decide +kernel
theorem dX6_count_141 : decode cX6_count 141 = .ok (.getfield 19, 3) := by decide +kernel
theorem dX6_count_144 : decode cX6_count 144 = .ok (.getfield 235, 3) := by decide +kernel
theorem dX6_count_147 : decode cX6_count 147 = .ok (.ireturn, 1) := by decide +kernel
theorem dX6_count_148 : decode cX6_count 148 = .ok (.aload_n 0, 1) := by decide +kernel
theorem dX6_count_149 : decode cX6_count 149 = .ok (.getfield 12, 3) := by decide +kernel
theorem dX6_count_152 : decode cX6_count 152 = .ok (.invokevirtual 115, 3) := by decide +kernel
theorem dX6_count_155 : decode cX6_count 155 = .ok (.ifCond .eq 11, 3) := by decide +kernel
theorem dX6_count_158 : decode cX6_count 158 = .ok (.aload_n 0, 1) := by decide +kernel
theorem dX6_count_159 : decode cX6_count 159 = .ok (.iload_n 1, 1) := by decide +kernel
theorem dX6_count_160 : decode cX6_count 160 = .ok (.invokevirtual 281, 3) := by decide +kernel
theorem dX6_count_163 : decode cX6_count 163 = .ok (.goto 4, 3) := by decide +kernel
theorem dX6_count_166 : decode cX6_count 166 = .ok (.iconst 0, 1) := by decide +kernel
theorem dX6_count_167 : decode cX6_count 167 = .ok (.ireturn, 1) := by decide +kernel
theorem dX6_setting_0 : decode cX6_setting 0 = .ok (.iload_n 1, 1) := by decide +kernel
theorem dX6_setting_1 : decode cX6_setting 1 = .ok (.invokestatic 139, 3) := by decide +kernel
theorem dX6_setting_4 : decode cX6_setting 4 = .ok (.ifCond .ne 13, 3) := by decide +kernel
theorem dX6_setting_7 : decode cX6_setting 7 = .ok (.new 84, 3) := by decide +kernel
theorem dX6_setting_10 : decode cX6_setting 10 = .ok (.dup, 1) := by decide +kernel
theorem dX6_setting_11 : decode cX6_setting 11 = .ok (.ldc 142, 2) := by decide +kernel
theorem dX6_setting_13 : decode cX6_setting 13 = .ok (.invokespecial 88, 3) := by decide +kernel
theorem dX6_setting_16 : decode cX6_setting 16 = .ok (.athrow, 1) := by decide +kernel
theorem dX6_setting_17 : decode cX6_setting 17 = .ok (.aload_n 0, 1) := by decide +kernel
theorem dX6_setting_18 : decode cX6_setting 18 = .ok (.getfield 12, 3) := by decide +kernel
theorem dX6_setting_21 : decode cX6_setting 21 = .ok (.getfield 152, 3) := by decide +kernel
theorem dX6_setting_24 : decode cX6_setting 24 = .ok (.iload_n 1, 1) := by decide +kernel
theorem dX6_setting_25 : decode cX6_setting 25 = .ok (.iaload, 1) := by decide +kernel
theorem dX6_setting_26 : decode cX6_setting 26 = .ok (.ireturn, 1) := by decide +kernel
theorem dX6_ifBlock_0 : decode cX6_ifBlock 0 = .ok (.aload_n 0, 1) := by decide +kernel
theorem dX6_ifBlock_1 : decode cX6_ifBlock 1 = .ok (.iload_n 1, 1) := by decide +kernel
theorem dX6_ifBlock_2 : decode cX6_ifBlock 2 = .ok (.iload_n 2, 1) := by decide +kernel
theorem dX6_ifBlock_3 : decode cX6_ifBlock 3 = .ok (.invokevirtual 305, 3) := by decide +kernel
theorem dX6_ifBlock_6 : decode cX6_ifBlock 6 = .ok (.iload_n 3, 1) := by decide +kernel
theorem dX6_ifBlock_7 : decode cX6_ifBlock 7 = .ok (.invokestatic 241, 3) := by decide +kernel
theorem dX6_ifBlock_10 : decode cX6_ifBlock 10 = .ok (.ifCond .ne 14, 3) := by decide +kernel
theorem dX6_ifBlock_13 : decode cX6_ifBlock 13 = .ok (.new 62, 3) := by decide +kernel
theorem dX6_ifBlock_16 : decode cX6_ifBlock 16 = .ok (.dup, 1) := by decide +kernel
theorem dX6_ifBlock_17 : decode cX6_ifBlock 17 = .ok (.ldc_w 286, 3) := by decide +kernel
theorem dX6_ifBlock_20 : decode cX6_ifBlock 20 = .ok (.invokespecial 66, 3) := by decide +kernel
theorem dX6_ifBlock_23 : decode cX6_ifBlock 23 = .ok (.athrow, 1) := by decide +kernel
theorem dX6_ifBlock_24 : decode cX6_ifBlock 24 = .ok (.aload_n 0, 1) := by decide +kernel
theorem dX6_ifBlock_25 : decode cX6_ifBlock 25 = .ok (.getfield 41, 3) := by decide +kernel
theorem dX6_ifBlock_28 : decode cX6_ifBlock 28 = .ok (.aload_n 0, 1) := by decide +kernel
theorem dX6_ifBlock_29 : decode cX6_ifBlock 29 = .ok (.getfield 12, 3) := by decide +kernel
theorem dX6_ifBlock_32 : decode cX6_ifBlock 32 = .ok (.iload_n 1, 1) := by decide +kernel
theorem dX6_ifBlock_33 : decode cX6_ifBlock 33 = .ok (.iload_n 1, 1) := by decide +kernel
theorem dX6_ifBlock_34 : decode cX6_ifBlock 34 = .ok (.iload_n 2, 1) := by decide +kernel
theorem dX6_ifBlock_35 : decode cX6_ifBlock 35 = .ok (.iadd, 1) := by decide +kernel
theorem dX6_ifBlock_36 : decode cX6_ifBlock 36 = .ok (.iload_n 3, 1) := by decide +kernel
theorem dX6_ifBlock_37 : decode cX6_ifBlock 37 = .ok (.invokevirtual 308, 3) := by decide +kernel
theorem dX6_ifBlock_40 : decode cX6_ifBlock 40 = .ok (.ireturn, 1) := by decide +kernel
theorem dX6_bestStep_0 : decode cX6_bestStep 0 = .ok (.aload_n 0, 1) := by decide +kernel
theorem dX6_bestStep_1 : decode cX6_bestStep 1 = .ok (.iload_n 1, 1) := by decide +kernel
theorem dX6_bestStep_2 : decode cX6_bestStep 2 = .ok (.iload_n 2, 1) := by decide +kernel
theorem dX6_bestStep_3 : decode cX6_bestStep 3 = .ok (.invokevirtual 305, 3) := by decide +kernel
theorem dX6_bestStep_6 : decode cX6_bestStep 6 = .ok (.aload_n 0, 1) := by decide +kernel
theorem dX6_bestStep_7 : decode cX6_bestStep 7 = .ok (.getfield 41, 3) := by decide +kernel
theorem dX6_bestStep_10 : decode cX6_bestStep 10 = .ok (.aload_n 0, 1) := by decide +kernel
theorem dX6_bestStep_11 : decode cX6_bestStep 11 = .ok (.getfield 12, 3) := by decide +kernel
theorem dX6_bestStep_14 : decode cX6_bestStep 14 = .ok (.iload_n 1, 1) := by decide +kernel
theorem dX6_bestStep_15 : decode cX6_bestStep 15 = .ok (.iload_n 1, 1) := by decide +kernel
theorem dX6_bestStep_16 : decode cX6_bestStep 16 = .ok (.iload_n 2, 1) := by decide +kernel
theorem dX6_bestStep_17 : decode cX6_bestStep 17 = .ok (.iadd, 1) := by decide +kernel
theorem dX6_bestStep_18 : decode cX6_bestStep 18 = .ok (.invokevirtual 312, 3) := by decide +kernel
theorem dX6_bestStep_21 : decode cX6_bestStep 21 = .ok (.ireturn, 1) := by decide +kernel
theorem dX6_ifSpoiled_0 : decode cX6_ifSpoiled 0 = .ok (.aload_n 0, 1) := by decide +kernel
theorem dX6_ifSpoiled_1 : decode cX6_ifSpoiled 1 = .ok (.iload_n 1, 1) := by decide +kernel
theorem dX6_ifSpoiled_2 : decode cX6_ifSpoiled 2 = .ok (.iload_n 2, 1) := by decide +kernel
theorem dX6_ifSpoiled_3 : decode cX6_ifSpoiled 3 = .ok (.invokevirtual 171, 3) := by decide +kernel
theorem dX6_ifSpoiled_6 : decode cX6_ifSpoiled 6 = .ok (.aload_n 0, 1) := by decide +kernel
theorem dX6_ifSpoiled_7 : decode cX6_ifSpoiled 7 = .ok (.getfield 48, 3) := by decide +kernel
theorem dX6_ifSpoiled_10 : decode cX6_ifSpoiled 10 = .ok (.aload_n 0, 1) := by decide +kernel
theorem dX6_ifSpoiled_11 : decode cX6_ifSpoiled 11 = .ok (.getfield 12, 3) := by decide +kernel
theorem dX6_ifSpoiled_14 : decode cX6_ifSpoiled 14 = .ok (.invokevirtual 124, 3) := by decide +kernel
theorem dX6_ifSpoiled_17 : decode cX6_ifSpoiled 17 = .ok (.aload_n 0, 1) := by decide +kernel
theorem dX6_ifSpoiled_18 : decode cX6_ifSpoiled 18 = .ok (.getfield 12, 3) := by decide +kernel
theorem dX6_ifSpoiled_21 : decode cX6_ifSpoiled 21 = .ok (.iload_n 1, 1) := by decide +kernel
theorem dX6_ifSpoiled_22 : decode cX6_ifSpoiled 22 = .ok (.iload_n 2, 1) := by decide +kernel
theorem dX6_ifSpoiled_23 : decode cX6_ifSpoiled 23 = .ok (.invokevirtual 175, 3) := by decide +kernel
theorem dX6_ifSpoiled_26 : decode cX6_ifSpoiled 26 = .ok (.aload_n 0, 1) := by decide +kernel
theorem dX6_ifSpoiled_27 : decode cX6_ifSpoiled 27 = .ok (.getfield 52, 3) := by decide +kernel
theorem dX6_ifSpoiled_30 : decode cX6_ifSpoiled 30 = .ok (.iconst 0, 1) := by decide +kernel
theorem dX6_ifSpoiled_31 : decode cX6_ifSpoiled 31 = .ok (.putfield 215, 3) := by decide +kernel
theorem dX6_ifSpoiled_34 : decode cX6_ifSpoiled 34 = .ok (.aload_n 0, 1) := by decide +kernel
theorem dX6_ifSpoiled_35 : decode cX6_ifSpoiled 35 = .ok (.getfield 52, 3) := by decide +kernel
theorem dX6_ifSpoiled_38 : decode cX6_ifSpoiled 38 = .ok (.aload_n 0, 1) := by decide +kernel
theorem dX6_ifSpoiled_39 : decode cX6_ifSpoiled 39 = .ok (.getfield 12, 3) := by decide +kernel
theorem dX6_ifSpoiled_42 : decode cX6_ifSpoiled 42 = .ok (.invokevirtual 124, 3) := by decide +kernel
theorem dX6_ifSpoiled_45 : decode cX6_ifSpoiled 45 = .ok (.aload_n 0, 1) := by decide +kernel
theorem dX6_ifSpoiled_46 : decode cX6_ifSpoiled 46 = .ok (.getfield 12, 3) := by decide +kernel
theorem dX6_ifSpoiled_49 : decode cX6_ifSpoiled 49 = .ok (.iload_n 1, 1) := by decide +kernel
theorem dX6_ifSpoiled_50 : decode cX6_ifSpoiled 50 = .ok (.iload_n 2, 1) := by decide +kernel
theorem dX6_ifSpoiled_51 : decode cX6_ifSpoiled 51 = .ok (.invokevirtual 175, 3) := by decide +kernel
theorem dX6_ifSpoiled_54 : decode cX6_ifSpoiled 54 = .ok (.aload_n 0, 1) := by decide +kernel
theorem dX6_ifSpoiled_55 : decode cX6_ifSpoiled 55 = .ok (.getfield 52, 3) := by decide +kernel
theorem dX6_ifSpoiled_58 : decode cX6_ifSpoiled 58 = .ok (.aload_n 0, 1) := by decide +kernel
theorem dX6_ifSpoiled_59 : decode cX6_ifSpoiled 59 = .ok (.getfield 48, 3) := by decide +kernel
theorem dX6_ifSpoiled_62 : decode cX6_ifSpoiled 62 = .ok (.aload_n 0, 1) := by decide +kernel
theorem dX6_ifSpoiled_63 : decode cX6_ifSpoiled 63 = .ok (.getfield 12, 3) := by decide +kernel
theorem dX6_ifSpoiled_66 : decode cX6_ifSpoiled 66 = .ok (.getfield 72, 3) := by decide +kernel
theorem dX6_ifSpoiled_69 : decode cX6_ifSpoiled 69 = .ok (.invokevirtual 219, 3) := by decide +kernel
theorem dX6_ifSpoiled_72 : decode cX6_ifSpoiled 72 = .ok (.ireturn, 1) := by decide +kernel
theorem dX6_meanSquare_0 : decode cX6_meanSquare 0 = .ok (.aload_n 0, 1) := by decide +kernel
theorem dX6_meanSquare_1 : decode cX6_meanSquare 1 = .ok (.getfield 12, 3) := by decide +kernel
theorem dX6_meanSquare_4 : decode cX6_meanSquare 4 = .ok (.invokevirtual 115, 3) := by decide +kernel
theorem dX6_meanSquare_7 : decode cX6_meanSquare 7 = .ok (.ifCond .ne 5, 3) := by decide +kernel
theorem dX6_meanSquare_10 : decode cX6_meanSquare 10 = .ok (.dconst 0, 1) := by decide +kernel
theorem dX6_meanSquare_11 : decode cX6_meanSquare 11 = .ok (.dreturn, 1) := by decide +kernel
theorem dX6_meanSquare_12 : decode cX6_meanSquare 12 = .ok (.aload_n 0, 1) := by decide +kernel
theorem dX6_meanSquare_13 : decode cX6_meanSquare 13 = .ok (.invokevirtual 315, 3) := by decide +kernel
theorem dX6_meanSquare_16 : decode cX6_meanSquare 16 = .ok (.i2d, 1) := by decide +kernel
theorem dX6_meanSquare_17 : decode cX6_meanSquare 17 = .ok (.aload_n 0, 1) := by decide +kernel
theorem dX6_meanSquare_18 : decode cX6_meanSquare 18 = .ok (.getfield 12, 3) := by decide +kernel
theorem dX6_meanSquare_21 : decode cX6_meanSquare 21 = .ok (.getfield 72, 3) := by decide +kernel
theorem dX6_meanSquare_24 : decode cX6_meanSquare 24 = .ok (.i2d, 1) := by decide +kernel
theorem dX6_meanSquare_25 : decode cX6_meanSquare 25 = .ok (.ddiv, 1) := by decide +kernel
theorem dX6_meanSquare_26 : decode cX6_meanSquare 26 = .ok (.dreturn, 1) := by decide +kernel
theorem dX6_loudness_0 : decode cX6_loudness 0 = .ok (.aload_n 0, 1) := by decide +kernel
theorem dX6_loudness_1 : decode cX6_loudness 1 = .ok (.getfield 12, 3) := by decide +kernel
theorem dX6_loudness_4 : decode cX6_loudness 4 = .ok (.invokevirtual 115, 3) := by decide +kernel
theorem dX6_loudness_7 : decode cX6_loudness 7 = .ok (.ifCond .ne 5, 3) := by decide +kernel
theorem dX6_loudness_10 : decode cX6_loudness 10 = .ok (.fconst 0, 1) := by decide +kernel
theorem dX6_loudness_11 : decode cX6_loudness 11 = .ok (.freturn, 1) := by decide +kernel
theorem dX6_loudness_12 : decode cX6_loudness 12 = .ok (.aload_n 0, 1) := by decide +kernel
theorem dX6_loudness_13 : decode cX6_loudness 13 = .ok (.invokevirtual 315, 3) := by decide +kernel
theorem dX6_loudness_16 : decode cX6_loudness 16 = .ok (.istore_n 1, 1) := by decide +kernel
theorem dX6_loudness_17 : decode cX6_loudness 17 = .ok (.iload_n 1, 1) := by decide +kernel
theorem dX6_loudness_18 : decode cX6_loudness 18 = .ok (.ifCond .ne 7, 3) := by decide +kernel
theorem dX6_loudness_21 : decode cX6_loudness 21 = .ok (.ldc_w 318, 3) := by decide +kernel
theorem dX6_loudness_24 : decode cX6_loudness 24 = .ok (.freturn, 1) := by decide +kernel
theorem dX6_loudness_25 : decode cX6_loudness 25 = .ok (.iconst 0, 1) := by decide +kernel
theorem dX6_loudness_26 : decode cX6_loudness 26 = .ok (.istore_n 2, 1) := by decide +kernel
theorem dX6_loudness_27 : decode cX6_loudness 27 = .ok (.iconst 0, 1) := by decide +kernel
theorem dX6_loudness_28 : decode cX6_loudness 28 = .ok (.istore_n 3, 1) := by decide +kernel
theorem dX6_loudness_29 : decode cX6_loudness 29 = .ok (.iload_n 3, 1) := by decide +kernel
theorem dX6_loudness_30 : decode cX6_loudness 30 = .ok (.aload_n 0, 1) := by decide +kernel
theorem dX6_loudness_31 : decode cX6_loudness 31 = .ok (.getfield 12, 3) := by decide +kernel
theorem dX6_loudness_34 : decode cX6_loudness 34 = .ok (.getfield 72, 3) := by decide +kernel
theorem dX6_loudness_37 : decode cX6_loudness 37 = .ok (.if_icmp .ge 31, 3) := by decide +kernel
theorem dX6_loudness_40 : decode cX6_loudness 40 = .ok (.iload_n 2, 1) := by decide +kernel
theorem dX6_loudness_41 : decode cX6_loudness 41 = .ok (.aload_n 0, 1) := by decide +kernel
theorem dX6_loudness_42 : decode cX6_loudness 42 = .ok (.getfield 12, 3) := by decide +kernel
theorem dX6_loudness_45 : decode cX6_loudness 45 = .ok (.getfield 94, 3) := by decide +kernel
theorem dX6_loudness_48 : decode cX6_loudness 48 = .ok (.iload_n 3, 1) := by decide +kernel
theorem dX6_loudness_49 : decode cX6_loudness 49 = .ok (.iaload, 1) := by decide +kernel
theorem dX6_loudness_50 : decode cX6_loudness 50 = .ok (.aload_n 0, 1) := by decide +kernel
theorem dX6_loudness_51 : decode cX6_loudness 51 = .ok (.getfield 12, 3) := by decide +kernel
theorem dX6_loudness_54 : decode cX6_loudness 54 = .ok (.getfield 94, 3) := by decide +kernel
theorem dX6_loudness_57 : decode cX6_loudness 57 = .ok (.iload_n 3, 1) := by decide +kernel
theorem dX6_loudness_58 : decode cX6_loudness 58 = .ok (.iaload, 1) := by decide +kernel
theorem dX6_loudness_59 : decode cX6_loudness 59 = .ok (.imul, 1) := by decide +kernel
theorem dX6_loudness_60 : decode cX6_loudness 60 = .ok (.iadd, 1) := by decide +kernel
theorem dX6_loudness_61 : decode cX6_loudness 61 = .ok (.istore_n 2, 1) := by decide +kernel
theorem dX6_loudness_62 : decode cX6_loudness 62 = .ok (.iinc 3 1, 3) := by decide +kernel
theorem dX6_loudness_65 : decode cX6_loudness 65 = .ok (.goto (-36), 3) := by decide +kernel
theorem dX6_loudness_68 : decode cX6_loudness 68 = .ok (.iload_n 2, 1) := by decide +kernel
theorem dX6_loudness_69 : decode cX6_loudness 69 = .ok (.i2f, 1) := by decide +kernel
theorem dX6_loudness_70 : decode cX6_loudness 70 = .ok (.iload_n 1, 1) := by decide +kernel
theorem dX6_loudness_71 : decode cX6_loudness 71 = .ok (.i2f, 1) := by decide +kernel
theorem dX6_loudness_72 : decode cX6_loudness 72 = .ok (.fdiv, 1) := by decide +kernel
theorem dX6_loudness_73 : decode cX6_loudness 73 = .ok (.freturn, 1) := by decide +kernel
theorem dX6_beginChange_0 : decode cX6_beginChange 0 = .ok (.aload_n 0, 1) := by decide +kernel
theorem dX6_beginChange_1 : decode cX6_beginChange 1 = .ok (.getfield 19, 3) := by decide +kernel
theorem dX6_beginChange_4 : decode cX6_beginChange 4 = .ok (.aload_n 0, 1) := by decide +kernel
theorem dX6_beginChange_5 : decode cX6_beginChange 5 = .ok (.getfield 12, 3) := by decide +kernel
theorem dX6_beginChange_8 : decode cX6_beginChange 8 = .ok (.invokevirtual 354, 3) := by decide +kernel
theorem dX6_beginChange_11 : decode cX6_beginChange 11 = .ok (.aload_n 0, 1) := by decide +kernel
theorem dX6_beginChange_12 : decode cX6_beginChange 12 = .ok (.getfield 48, 3) := by decide +kernel
theorem dX6_beginChange_15 : decode cX6_beginChange 15 = .ok (.iconst 0, 1) := by decide +kernel
theorem dX6_beginChange_16 : decode cX6_beginChange 16 = .ok (.putfield 215, 3) := by decide +kernel
theorem dX6_beginChange_19 : decode cX6_beginChange 19 = .ok (.return_, 1) := by decide +kernel
theorem dX6_refuseUnlessBlock_0 : decode cX6_refuseUnlessBlock 0 = .ok (.aload_n 0, 1) := by decide +kernel
theorem dX6_refuseUnlessBlock_1 : decode cX6_refuseUnlessBlock 1 = .ok (.getfield 12, 3) := by decide +kernel
theorem dX6_refuseUnlessBlock_4 : decode cX6_refuseUnlessBlock 4 = .ok (.iload_n 1, 1) := by decide +kernel
theorem dX6_refuseUnlessBlock_5 : decode cX6_refuseUnlessBlock 5 = .ok (.invokevirtual 357, 3) := by decide +kernel
theorem dX6_refuseUnlessBlock_8 : decode cX6_refuseUnlessBlock 8 = .ok (.ifCond .ne 14, 3) := by decide +kernel
theorem dX6_refuseUnlessBlock_11 : decode cX6_refuseUnlessBlock 11 = .ok (.new 84, 3) := by decide +kernel
theorem dX6_refuseUnlessBlock_14 : decode cX6_refuseUnlessBlock 14 = .ok (.dup, 1) := by decide +kernel
theorem dX6_refuseUnlessBlock_15 : decode cX6_refuseUnlessBlock 15 = .ok (.ldc_w 360, 3) := by decide +kernel
theorem dX6_refuseUnlessBlock_18 : decode cX6_refuseUnlessBlock 18 = .ok (.invokespecial 88, 3) := by decide +kernel
theorem dX6_refuseUnlessBlock_21 : decode cX6_refuseUnlessBlock 21 = .ok (.athrow, 1) := by decide +kernel
theorem dX6_refuseUnlessBlock_22 : decode cX6_refuseUnlessBlock 22 = .ok (.return_, 1) := by decide +kernel
theorem dX6_refuseUnlessCodeBit_0 : decode cX6_refuseUnlessCodeBit 0 = .ok (.aload_n 0, 1) := by decide +kernel
theorem dX6_refuseUnlessCodeBit_1 : decode cX6_refuseUnlessCodeBit 1 = .ok (.getfield 12, 3) := by decide +kernel
theorem dX6_refuseUnlessCodeBit_4 : decode cX6_refuseUnlessCodeBit 4 = .ok (.iload_n 1, 1) := by decide +kernel
theorem dX6_refuseUnlessCodeBit_5 : decode cX6_refuseUnlessCodeBit 5 = .ok (.invokevirtual 362, 3) := by decide +kernel
theorem dX6_refuseUnlessCodeBit_8 : decode cX6_refuseUnlessCodeBit 8 = .ok (.ifCond .ne 14, 3) := by decide +kernel
theorem dX6_refuseUnlessCodeBit_11 : decode cX6_refuseUnlessCodeBit 11 = .ok (.new 84, 3) := by decide +kernel
theorem dX6_refuseUnlessCodeBit_14 : decode cX6_refuseUnlessCodeBit 14 = .ok (.dup, 1) := by decide +kernel
theorem dX6_refuseUnlessCodeBit_15 : decode cX6_refuseUnlessCodeBit 15 = .ok (.ldc_w 365, 3) := by decide +kernel
theorem dX6_refuseUnlessCodeBit_18 : decode cX6_refuseUnlessCodeBit 18 = .ok (.invokespecial 88, 3) := by decide +kernel
theorem dX6_refuseUnlessCodeBit_21 : decode cX6_refuseUnlessCodeBit 21 = .ok (.athrow, 1) := by decide +kernel
theorem dX6_refuseUnlessCodeBit_22 : decode cX6_refuseUnlessCodeBit 22 = .ok (.iload_n 2, 1) := by decide +kernel
theorem dX6_refuseUnlessCodeBit_23 : decode cX6_refuseUnlessCodeBit 23 = .ok (.ifCond .lt 8, 3) := by decide +kernel
theorem dX6_refuseUnlessCodeBit_26 : decode cX6_refuseUnlessCodeBit 26 = .ok (.iload_n 2, 1) := by decide +kernel
theorem dX6_refuseUnlessCodeBit_27 : decode cX6_refuseUnlessCodeBit 27 = .ok (.iconst 4, 1) := by decide +kernel
theorem dX6_refuseUnlessCodeBit_28 : decode cX6_refuseUnlessCodeBit 28 = .ok (.if_icmp .lt 14, 3) := by decide +kernel
theorem dX6_refuseUnlessCodeBit_31 : decode cX6_refuseUnlessCodeBit 31 = .ok (.new 62, 3) := by decide +kernel
theorem dX6_refuseUnlessCodeBit_34 : decode cX6_refuseUnlessCodeBit 34 = .ok (.dup, 1) := by decide +kernel
theorem dX6_refuseUnlessCodeBit_35 : decode cX6_refuseUnlessCodeBit 35 = .ok (.ldc_w 367, 3) := by decide +kernel
theorem dX6_refuseUnlessCodeBit_38 : decode cX6_refuseUnlessCodeBit 38 = .ok (.invokespecial 66, 3) := by decide +kernel
theorem dX6_refuseUnlessCodeBit_41 : decode cX6_refuseUnlessCodeBit 41 = .ok (.athrow, 1) := by decide +kernel
theorem dX6_refuseUnlessCodeBit_42 : decode cX6_refuseUnlessCodeBit 42 = .ok (.return_, 1) := by decide +kernel
theorem dX6_refuseUnlessSamples_0 : decode cX6_refuseUnlessSamples 0 = .ok (.aload_n 0, 1) := by decide +kernel
theorem dX6_refuseUnlessSamples_1 : decode cX6_refuseUnlessSamples 1 = .ok (.getfield 12, 3) := by decide +kernel
theorem dX6_refuseUnlessSamples_4 : decode cX6_refuseUnlessSamples 4 = .ok (.iload_n 1, 1) := by decide +kernel
theorem dX6_refuseUnlessSamples_5 : decode cX6_refuseUnlessSamples 5 = .ok (.invokevirtual 80, 3) := by decide +kernel
theorem dX6_refuseUnlessSamples_8 : decode cX6_refuseUnlessSamples 8 = .ok (.ifCond .eq 21, 3) := by decide +kernel
theorem dX6_refuseUnlessSamples_11 : decode cX6_refuseUnlessSamples 11 = .ok (.iload_n 2, 1) := by decide +kernel
theorem dX6_refuseUnlessSamples_12 : decode cX6_refuseUnlessSamples 12 = .ok (.iconst 1, 1) := by decide +kernel
theorem dX6_refuseUnlessSamples_13 : decode cX6_refuseUnlessSamples 13 = .ok (.if_icmp .lt 16, 3) := by decide +kernel
theorem dX6_refuseUnlessSamples_16 : decode cX6_refuseUnlessSamples 16 = .ok (.iload_n 2, 1) := by decide +kernel
theorem dX6_refuseUnlessSamples_17 : decode cX6_refuseUnlessSamples 17 = .ok (.aload_n 0, 1) := by decide +kernel
theorem dX6_refuseUnlessSamples_18 : decode cX6_refuseUnlessSamples 18 = .ok (.getfield 12, 3) := by decide +kernel
theorem dX6_refuseUnlessSamples_21 : decode cX6_refuseUnlessSamples 21 = .ok (.getfield 72, 3) := by decide +kernel
theorem dX6_refuseUnlessSamples_24 : decode cX6_refuseUnlessSamples 24 = .ok (.iload_n 1, 1) := by decide +kernel
theorem dX6_refuseUnlessSamples_25 : decode cX6_refuseUnlessSamples 25 = .ok (.isub, 1) := by decide +kernel
theorem dX6_refuseUnlessSamples_26 : decode cX6_refuseUnlessSamples 26 = .ok (.if_icmp .le 14, 3) := by decide +kernel
theorem dX6_refuseUnlessSamples_29 : decode cX6_refuseUnlessSamples 29 = .ok (.new 84, 3) := by decide +kernel
theorem dX6_refuseUnlessSamples_32 : decode cX6_refuseUnlessSamples 32 = .ok (.dup, 1) := by decide +kernel
theorem dX6_refuseUnlessSamples_33 : decode cX6_refuseUnlessSamples 33 = .ok (.ldc_w 369, 3) := by decide +kernel
theorem dX6_refuseUnlessSamples_36 : decode cX6_refuseUnlessSamples 36 = .ok (.invokespecial 88, 3) := by decide +kernel
theorem dX6_refuseUnlessSamples_39 : decode cX6_refuseUnlessSamples 39 = .ok (.athrow, 1) := by decide +kernel
theorem dX6_refuseUnlessSamples_40 : decode cX6_refuseUnlessSamples 40 = .ok (.return_, 1) := by decide +kernel
theorem dX6_refuseUnlessSlot_0 : decode cX6_refuseUnlessSlot 0 = .ok (.iload_n 1, 1) := by decide +kernel
theorem dX6_refuseUnlessSlot_1 : decode cX6_refuseUnlessSlot 1 = .ok (.ifCond .lt 8, 3) := by decide +kernel
theorem dX6_refuseUnlessSlot_4 : decode cX6_refuseUnlessSlot 4 = .ok (.iload_n 1, 1) := by decide +kernel
theorem dX6_refuseUnlessSlot_5 : decode cX6_refuseUnlessSlot 5 = .ok (.iconst 2, 1) := by decide +kernel
theorem dX6_refuseUnlessSlot_6 : decode cX6_refuseUnlessSlot 6 = .ok (.if_icmp .lt 14, 3) := by decide +kernel
theorem dX6_refuseUnlessSlot_9 : decode cX6_refuseUnlessSlot 9 = .ok (.new 62, 3) := by decide +kernel
theorem dX6_refuseUnlessSlot_12 : decode cX6_refuseUnlessSlot 12 = .ok (.dup, 1) := by decide +kernel
theorem dX6_refuseUnlessSlot_13 : decode cX6_refuseUnlessSlot 13 = .ok (.ldc_w 371, 3) := by decide +kernel
theorem dX6_refuseUnlessSlot_16 : decode cX6_refuseUnlessSlot 16 = .ok (.invokespecial 66, 3) := by decide +kernel
theorem dX6_refuseUnlessSlot_19 : decode cX6_refuseUnlessSlot 19 = .ok (.athrow, 1) := by decide +kernel
theorem dX6_refuseUnlessSlot_20 : decode cX6_refuseUnlessSlot 20 = .ok (.return_, 1) := by decide +kernel
theorem dX6_isValue_0 : decode cX6_isValue 0 = .ok (.iload_n 0, 1) := by decide +kernel
theorem dX6_isValue_1 : decode cX6_isValue 1 = .ok (.sipush (-2048), 3) := by decide +kernel
theorem dX6_isValue_4 : decode cX6_isValue 4 = .ok (.if_icmp .lt 14, 3) := by decide +kernel
theorem dX6_isValue_7 : decode cX6_isValue 7 = .ok (.iload_n 0, 1) := by decide +kernel
theorem dX6_isValue_8 : decode cX6_isValue 8 = .ok (.sipush 2047, 3) := by decide +kernel
theorem dX6_isValue_11 : decode cX6_isValue 11 = .ok (.if_icmp .gt 7, 3) := by decide +kernel
theorem dX6_isValue_14 : decode cX6_isValue 14 = .ok (.iconst 1, 1) := by decide +kernel
theorem dX6_isValue_15 : decode cX6_isValue 15 = .ok (.goto 4, 3) := by decide +kernel
theorem dX6_isValue_18 : decode cX6_isValue 18 = .ok (.iconst 0, 1) := by decide +kernel
theorem dX6_isValue_19 : decode cX6_isValue 19 = .ok (.ireturn, 1) := by decide +kernel
theorem dX6_isNumber_0 : decode cX6_isNumber 0 = .ok (.iload_n 0, 1) := by decide +kernel
theorem dX6_isNumber_1 : decode cX6_isNumber 1 = .ok (.ifCond .lt 13, 3) := by decide +kernel
theorem dX6_isNumber_4 : decode cX6_isNumber 4 = .ok (.iload_n 0, 1) := by decide +kernel
theorem dX6_isNumber_5 : decode cX6_isNumber 5 = .ok (.bipush 48, 2) := by decide +kernel
theorem dX6_isNumber_7 : decode cX6_isNumber 7 = .ok (.if_icmp .gt 7, 3) := by decide +kernel
theorem dX6_isNumber_10 : decode cX6_isNumber 10 = .ok (.iconst 1, 1) := by decide +kernel
theorem dX6_isNumber_11 : decode cX6_isNumber 11 = .ok (.goto 4, 3) := by decide +kernel
theorem dX6_isNumber_14 : decode cX6_isNumber 14 = .ok (.iconst 0, 1) := by decide +kernel
theorem dX6_isNumber_15 : decode cX6_isNumber 15 = .ok (.ireturn, 1) := by decide +kernel
theorem dX6_isSetting_0 : decode cX6_isSetting 0 = .ok (.iload_n 0, 1) := by decide +kernel
theorem dX6_isSetting_1 : decode cX6_isSetting 1 = .ok (.ifCond .lt 12, 3) := by decide +kernel
theorem dX6_isSetting_4 : decode cX6_isSetting 4 = .ok (.iload_n 0, 1) := by decide +kernel
theorem dX6_isSetting_5 : decode cX6_isSetting 5 = .ok (.iconst 3, 1) := by decide +kernel
theorem dX6_isSetting_6 : decode cX6_isSetting 6 = .ok (.if_icmp .ge 7, 3) := by decide +kernel
theorem dX6_isSetting_9 : decode cX6_isSetting 9 = .ok (.iconst 1, 1) := by decide +kernel
theorem dX6_isSetting_10 : decode cX6_isSetting 10 = .ok (.goto 4, 3) := by decide +kernel
theorem dX6_isSetting_13 : decode cX6_isSetting 13 = .ok (.iconst 0, 1) := by decide +kernel
theorem dX6_isSetting_14 : decode cX6_isSetting 14 = .ok (.ireturn, 1) := by decide +kernel
theorem dX6_leastOfSetting_0 : decode cX6_leastOfSetting 0 = .ok (.iload_n 0, 1) := by decide +kernel
theorem dX6_leastOfSetting_1 : decode cX6_leastOfSetting 1 = .ok (.ifCond .ne 7, 3) := by decide +kernel
theorem dX6_leastOfSetting_4 : decode cX6_leastOfSetting 4 = .ok (.iconst 2, 1) := by decide +kernel
theorem dX6_leastOfSetting_5 : decode cX6_leastOfSetting 5 = .ok (.goto 4, 3) := by decide +kernel
theorem dX6_leastOfSetting_8 : decode cX6_leastOfSetting 8 = .ok (.iconst 0, 1) := by decide +kernel
theorem dX6_leastOfSetting_9 : decode cX6_leastOfSetting 9 = .ok (.ireturn, 1) := by decide +kernel
theorem dX6_mostOfSetting_0 : decode cX6_mostOfSetting 0 = .ok (.iload_n 0, 1) := by decide +kernel
theorem dX6_mostOfSetting_1 : decode cX6_mostOfSetting 1 = .ok (.lookupswitch 32 #[(0, 27), (1, 30)], 27) := by decide +kernel
theorem dX6_mostOfSetting_28 : decode cX6_mostOfSetting 28 = .ok (.bipush 16, 2) := by decide +kernel
theorem dX6_mostOfSetting_30 : decode cX6_mostOfSetting 30 = .ok (.ireturn, 1) := by decide +kernel
theorem dX6_mostOfSetting_31 : decode cX6_mostOfSetting 31 = .ok (.iconst 1, 1) := by decide +kernel
theorem dX6_mostOfSetting_32 : decode cX6_mostOfSetting 32 = .ok (.ireturn, 1) := by decide +kernel
theorem dX6_mostOfSetting_33 : decode cX6_mostOfSetting 33 = .ok (.iconst 2, 1) := by decide +kernel
theorem dX6_mostOfSetting_34 : decode cX6_mostOfSetting 34 = .ok (.ireturn, 1) := by decide +kernel
theorem dX6_clip_0 : decode cX6_clip 0 = .ok (.sipush (-2048), 3) := by decide +kernel
theorem dX6_clip_3 : decode cX6_clip 3 = .ok (.sipush 2047, 3) := by decide +kernel
theorem dX6_clip_6 : decode cX6_clip 6 = .ok (.iload_n 0, 1) := by decide +kernel
theorem dX6_clip_7 : decode cX6_clip 7 = .ok (.invokestatic 373, 3) := by decide +kernel
theorem dX6_clip_10 : decode cX6_clip 10 = .ok (.invokestatic 379, 3) := by decide +kernel
theorem dX6_clip_13 : decode cX6_clip 13 = .ok (.ireturn, 1) := by decide +kernel
theorem dX6_shape_0 : decode cX6_shape 0 = .ok (.iload_n 0, 1) := by decide +kernel
theorem dX6_shape_1 : decode cX6_shape 1 = .ok (.lookupswitch 51 #[(0, 27), (1, 41)], 27) := by decide +kernel
theorem dX6_shape_28 : decode cX6_shape 28 = .ok (.iconst 2, 1) := by decide +kernel
theorem dX6_shape_29 : decode cX6_shape 29 = .ok (.iload_n 3, 1) := by decide +kernel
theorem dX6_shape_30 : decode cX6_shape 30 = .ok (.imul, 1) := by decide +kernel
theorem dX6_shape_31 : decode cX6_shape 31 = .ok (.iload_n 2, 1) := by decide +kernel
theorem dX6_shape_32 : decode cX6_shape 32 = .ok (.if_icmp .ge 7, 3) := by decide +kernel
theorem dX6_shape_35 : decode cX6_shape 35 = .ok (.iload_n 1, 1) := by decide +kernel
theorem dX6_shape_36 : decode cX6_shape 36 = .ok (.goto 5, 3) := by decide +kernel
theorem dX6_shape_39 : decode cX6_shape 39 = .ok (.iload_n 1, 1) := by decide +kernel
theorem dX6_shape_40 : decode cX6_shape 40 = .ok (.ineg, 1) := by decide +kernel
theorem dX6_shape_41 : decode cX6_shape 41 = .ok (.ireturn, 1) := by decide +kernel
theorem dX6_shape_42 : decode cX6_shape 42 = .ok (.iload_n 1, 1) := by decide +kernel
theorem dX6_shape_43 : decode cX6_shape 43 = .ok (.iconst 2, 1) := by decide +kernel
theorem dX6_shape_44 : decode cX6_shape 44 = .ok (.iload_n 3, 1) := by decide +kernel
theorem dX6_shape_45 : decode cX6_shape 45 = .ok (.imul, 1) := by decide +kernel
theorem dX6_shape_46 : decode cX6_shape 46 = .ok (.iload_n 2, 1) := by decide +kernel
theorem dX6_shape_47 : decode cX6_shape 47 = .ok (.isub, 1) := by decide +kernel
theorem dX6_shape_48 : decode cX6_shape 48 = .ok (.imul, 1) := by decide +kernel
theorem dX6_shape_49 : decode cX6_shape 49 = .ok (.iload_n 2, 1) := by decide +kernel
theorem dX6_shape_50 : decode cX6_shape 50 = .ok (.idiv, 1) := by decide +kernel
theorem dX6_shape_51 : decode cX6_shape 51 = .ok (.ireturn, 1) := by decide +kernel
theorem dX6_shape_52 : decode cX6_shape 52 = .ok (.iload_n 1, 1) := by decide +kernel
theorem dX6_shape_53 : decode cX6_shape 53 = .ok (.iconst 4, 1) := by decide +kernel
theorem dX6_shape_54 : decode cX6_shape 54 = .ok (.iload_n 3, 1) := by decide +kernel
theorem dX6_shape_55 : decode cX6_shape 55 = .ok (.iload_n 2, 1) := by decide +kernel
theorem dX6_shape_56 : decode cX6_shape 56 = .ok (.iconst 2, 1) := by decide +kernel
theorem dX6_shape_57 : decode cX6_shape 57 = .ok (.idiv, 1) := by decide +kernel
theorem dX6_shape_58 : decode cX6_shape 58 = .ok (.isub, 1) := by decide +kernel
theorem dX6_shape_59 : decode cX6_shape 59 = .ok (.invokestatic 382, 3) := by decide +kernel
theorem dX6_shape_62 : decode cX6_shape 62 = .ok (.imul, 1) := by decide +kernel
theorem dX6_shape_63 : decode cX6_shape 63 = .ok (.iload_n 2, 1) := by decide +kernel
theorem dX6_shape_64 : decode cX6_shape 64 = .ok (.isub, 1) := by decide +kernel
theorem dX6_shape_65 : decode cX6_shape 65 = .ok (.imul, 1) := by decide +kernel
theorem dX6_shape_66 : decode cX6_shape 66 = .ok (.iload_n 2, 1) := by decide +kernel
theorem dX6_shape_67 : decode cX6_shape 67 = .ok (.idiv, 1) := by decide +kernel
theorem dX6_shape_68 : decode cX6_shape 68 = .ok (.ireturn, 1) := by decide +kernel
theorem dX6_copyRow_0 : decode cX6_copyRow 0 = .ok (.aload_n 0, 1) := by decide +kernel
theorem dX6_copyRow_1 : decode cX6_copyRow 1 = .ok (.iconst 0, 1) := by decide +kernel
theorem dX6_copyRow_2 : decode cX6_copyRow 2 = .ok (.aload_n 1, 1) := by decide +kernel
theorem dX6_copyRow_3 : decode cX6_copyRow 3 = .ok (.iconst 0, 1) := by decide +kernel
theorem dX6_copyRow_4 : decode cX6_copyRow 4 = .ok (.aload_n 0, 1) := by decide +kernel
theorem dX6_copyRow_5 : decode cX6_copyRow 5 = .ok (.arraylength, 1) := by decide +kernel
theorem dX6_copyRow_6 : decode cX6_copyRow 6 = .ok (.aload_n 1, 1) := by decide +kernel
theorem dX6_copyRow_7 : decode cX6_copyRow 7 = .ok (.arraylength, 1) := by decide +kernel
theorem dX6_copyRow_8 : decode cX6_copyRow 8 = .ok (.invokestatic 373, 3) := by decide +kernel
theorem dX6_copyRow_11 : decode cX6_copyRow 11 = .ok (.invokestatic 385, 3) := by decide +kernel
theorem dX6_copyRow_14 : decode cX6_copyRow 14 = .ok (.return_, 1) := by decide +kernel
theorem dX6_codedCount_0 : decode cX6_codedCount 0 = .ok (.aload_n 0, 1) := by decide +kernel
theorem dX6_codedCount_1 : decode cX6_codedCount 1 = .ok (.getfield 48, 3) := by decide +kernel
theorem dX6_codedCount_4 : decode cX6_codedCount 4 = .ok (.aload_n 0, 1) := by decide +kernel
theorem dX6_codedCount_5 : decode cX6_codedCount 5 = .ok (.getfield 12, 3) := by decide +kernel
theorem dX6_codedCount_8 : decode cX6_codedCount 8 = .ok (.invokevirtual 124, 3) := by decide +kernel
theorem dX6_codedCount_11 : decode cX6_codedCount 11 = .ok (.iload_n 1, 1) := by decide +kernel
theorem dX6_codedCount_12 : decode cX6_codedCount 12 = .ok (.tableswitch 81 4 7 #[32, 52, 57, 69], 32) := by decide +kernel
theorem dX6_codedCount_44 : decode cX6_codedCount 44 = .ok (.aload_n 0, 1) := by decide +kernel
theorem dX6_codedCount_45 : decode cX6_codedCount 45 = .ok (.getfield 48, 3) := by decide +kernel
theorem dX6_codedCount_48 : decode cX6_codedCount 48 = .ok (.aload_n 0, 1) := by decide +kernel
theorem dX6_codedCount_49 : decode cX6_codedCount 49 = .ok (.getfield 12, 3) := by decide +kernel
theorem dX6_codedCount_52 : decode cX6_codedCount 52 = .ok (.iconst 0, 1) := by decide +kernel
theorem dX6_codedCount_53 : decode cX6_codedCount 53 = .ok (.aload_n 0, 1) := by decide +kernel
theorem dX6_codedCount_54 : decode cX6_codedCount 54 = .ok (.getfield 12, 3) := by decide +kernel
theorem dX6_codedCount_57 : decode cX6_codedCount 57 = .ok (.getfield 72, 3) := by decide +kernel
theorem dX6_codedCount_60 : decode cX6_codedCount 60 = .ok (.invokevirtual 269, 3) := by decide +kernel
theorem dX6_codedCount_63 : decode cX6_codedCount 63 = .ok (.ireturn, 1) := by decide +kernel
theorem dX6_codedCount_64 : decode cX6_codedCount 64 = .ok (.aload_n 0, 1) := by decide +kernel
theorem dX6_codedCount_65 : decode cX6_codedCount 65 = .ok (.invokevirtual 391, 3) := by decide +kernel
theorem dX6_codedCount_68 : decode cX6_codedCount 68 = .ok (.ireturn, 1) := by decide +kernel
theorem dX6_codedCount_69 : decode cX6_codedCount 69 = .ok (.aload_n 0, 1) := by decide +kernel
theorem dX6_codedCount_70 : decode cX6_codedCount 70 = .ok (.getfield 48, 3) := by decide +kernel
theorem dX6_codedCount_73 : decode cX6_codedCount 73 = .ok (.aload_n 0, 1) := by decide +kernel
theorem dX6_codedCount_74 : decode cX6_codedCount 74 = .ok (.getfield 12, 3) := by decide +kernel
theorem dX6_codedCount_77 : decode cX6_codedCount 77 = .ok (.invokevirtual 394, 3) := by decide +kernel
theorem dX6_codedCount_80 : decode cX6_codedCount 80 = .ok (.ireturn, 1) := by decide +kernel
theorem dX6_codedCount_81 : decode cX6_codedCount 81 = .ok (.aload_n 0, 1) := by decide +kernel
theorem dX6_codedCount_82 : decode cX6_codedCount 82 = .ok (.getfield 48, 3) := by decide +kernel
theorem dX6_codedCount_85 : decode cX6_codedCount 85 = .ok (.aload_n 0, 1) := by decide +kernel
theorem dX6_codedCount_86 : decode cX6_codedCount 86 = .ok (.getfield 12, 3) := by decide +kernel
theorem dX6_codedCount_89 : decode cX6_codedCount 89 = .ok (.invokevirtual 128, 3) := by decide +kernel
theorem dX6_codedCount_92 : decode cX6_codedCount 92 = .ok (.ireturn, 1) := by decide +kernel
theorem dX6_codedCount_93 : decode cX6_codedCount 93 = .ok (.bipush 18, 2) := by decide +kernel
theorem dX6_codedCount_95 : decode cX6_codedCount 95 = .ok (.aload_n 0, 1) := by decide +kernel
theorem dX6_codedCount_96 : decode cX6_codedCount 96 = .ok (.getfield 12, 3) := by decide +kernel
theorem dX6_codedCount_99 : decode cX6_codedCount 99 = .ok (.getfield 158, 3) := by decide +kernel
theorem dX6_codedCount_102 : decode cX6_codedCount 102 = .ok (.imul, 1) := by decide +kernel
theorem dX6_codedCount_103 : decode cX6_codedCount 103 = .ok (.iconst 4, 1) := by decide +kernel
theorem dX6_codedCount_104 : decode cX6_codedCount 104 = .ok (.aload_n 0, 1) := by decide +kernel
theorem dX6_codedCount_105 : decode cX6_codedCount 105 = .ok (.getfield 12, 3) := by decide +kernel
theorem dX6_codedCount_108 : decode cX6_codedCount 108 = .ok (.getfield 72, 3) := by decide +kernel
theorem dX6_codedCount_111 : decode cX6_codedCount 111 = .ok (.aload_n 0, 1) := by decide +kernel
theorem dX6_codedCount_112 : decode cX6_codedCount 112 = .ok (.getfield 12, 3) := by decide +kernel
theorem dX6_codedCount_115 : decode cX6_codedCount 115 = .ok (.getfield 158, 3) := by decide +kernel
theorem dX6_codedCount_118 : decode cX6_codedCount 118 = .ok (.isub, 1) := by decide +kernel
theorem dX6_codedCount_119 : decode cX6_codedCount 119 = .ok (.imul, 1) := by decide +kernel
theorem dX6_codedCount_120 : decode cX6_codedCount 120 = .ok (.iadd, 1) := by decide +kernel
theorem dX6_codedCount_121 : decode cX6_codedCount 121 = .ok (.ireturn, 1) := by decide +kernel
theorem dX6_wholeError_0 : decode cX6_wholeError 0 = .ok (.aload_n 0, 1) := by decide +kernel
theorem dX6_wholeError_1 : decode cX6_wholeError 1 = .ok (.getfield 48, 3) := by decide +kernel
theorem dX6_wholeError_4 : decode cX6_wholeError 4 = .ok (.aload_n 0, 1) := by decide +kernel
theorem dX6_wholeError_5 : decode cX6_wholeError 5 = .ok (.getfield 12, 3) := by decide +kernel
theorem dX6_wholeError_8 : decode cX6_wholeError 8 = .ok (.invokevirtual 124, 3) := by decide +kernel
theorem dX6_wholeError_11 : decode cX6_wholeError 11 = .ok (.aload_n 0, 1) := by decide +kernel
theorem dX6_wholeError_12 : decode cX6_wholeError 12 = .ok (.getfield 48, 3) := by decide +kernel
theorem dX6_wholeError_15 : decode cX6_wholeError 15 = .ok (.aload_n 0, 1) := by decide +kernel
theorem dX6_wholeError_16 : decode cX6_wholeError 16 = .ok (.getfield 12, 3) := by decide +kernel
theorem dX6_wholeError_19 : decode cX6_wholeError 19 = .ok (.iconst 0, 1) := by decide +kernel
theorem dX6_wholeError_20 : decode cX6_wholeError 20 = .ok (.aload_n 0, 1) := by decide +kernel
theorem dX6_wholeError_21 : decode cX6_wholeError 21 = .ok (.getfield 12, 3) := by decide +kernel
theorem dX6_wholeError_24 : decode cX6_wholeError 24 = .ok (.getfield 72, 3) := by decide +kernel
theorem dX6_wholeError_27 : decode cX6_wholeError 27 = .ok (.invokevirtual 269, 3) := by decide +kernel
theorem dX6_wholeError_30 : decode cX6_wholeError 30 = .ok (.ireturn, 1) := by decide +kernel
theorem dX6_errorByBlocks_0 : decode cX6_errorByBlocks 0 = .ok (.iconst 0, 1) := by decide +kernel
theorem dX6_errorByBlocks_1 : decode cX6_errorByBlocks 1 = .ok (.istore_n 1, 1) := by decide +kernel
theorem dX6_errorByBlocks_2 : decode cX6_errorByBlocks 2 = .ok (.iconst 0, 1) := by decide +kernel
theorem dX6_errorByBlocks_3 : decode cX6_errorByBlocks 3 = .ok (.istore_n 2, 1) := by decide +kernel
theorem dX6_errorByBlocks_4 : decode cX6_errorByBlocks 4 = .ok (.iload_n 2, 1) := by decide +kernel
theorem dX6_errorByBlocks_5 : decode cX6_errorByBlocks 5 = .ok (.aload_n 0, 1) := by decide +kernel
theorem dX6_errorByBlocks_6 : decode cX6_errorByBlocks 6 = .ok (.getfield 12, 3) := by decide +kernel
theorem dX6_errorByBlocks_9 : decode cX6_errorByBlocks 9 = .ok (.getfield 158, 3) := by decide +kernel
theorem dX6_errorByBlocks_12 : decode cX6_errorByBlocks 12 = .ok (.if_icmp .ge 39, 3) := by decide +kernel
theorem dX6_errorByBlocks_15 : decode cX6_errorByBlocks 15 = .ok (.iload_n 1, 1) := by decide +kernel
theorem dX6_errorByBlocks_16 : decode cX6_errorByBlocks 16 = .ok (.aload_n 0, 1) := by decide +kernel
theorem dX6_errorByBlocks_17 : decode cX6_errorByBlocks 17 = .ok (.getfield 48, 3) := by decide +kernel
theorem dX6_errorByBlocks_20 : decode cX6_errorByBlocks 20 = .ok (.aload_n 0, 1) := by decide +kernel
theorem dX6_errorByBlocks_21 : decode cX6_errorByBlocks 21 = .ok (.getfield 12, 3) := by decide +kernel
theorem dX6_errorByBlocks_24 : decode cX6_errorByBlocks 24 = .ok (.aload_n 0, 1) := by decide +kernel
theorem dX6_errorByBlocks_25 : decode cX6_errorByBlocks 25 = .ok (.getfield 12, 3) := by decide +kernel
theorem dX6_errorByBlocks_28 : decode cX6_errorByBlocks 28 = .ok (.iload_n 2, 1) := by decide +kernel
theorem dX6_errorByBlocks_29 : decode cX6_errorByBlocks 29 = .ok (.invokevirtual 260, 3) := by decide +kernel
theorem dX6_errorByBlocks_32 : decode cX6_errorByBlocks 32 = .ok (.aload_n 0, 1) := by decide +kernel
theorem dX6_errorByBlocks_33 : decode cX6_errorByBlocks 33 = .ok (.getfield 12, 3) := by decide +kernel
theorem dX6_errorByBlocks_36 : decode cX6_errorByBlocks 36 = .ok (.iload_n 2, 1) := by decide +kernel
theorem dX6_errorByBlocks_37 : decode cX6_errorByBlocks 37 = .ok (.invokevirtual 257, 3) := by decide +kernel
theorem dX6_errorByBlocks_40 : decode cX6_errorByBlocks 40 = .ok (.invokevirtual 269, 3) := by decide +kernel
theorem dX6_errorByBlocks_43 : decode cX6_errorByBlocks 43 = .ok (.iadd, 1) := by decide +kernel
theorem dX6_errorByBlocks_44 : decode cX6_errorByBlocks 44 = .ok (.istore_n 1, 1) := by decide +kernel
theorem dX6_errorByBlocks_45 : decode cX6_errorByBlocks 45 = .ok (.iinc 2 1, 3) := by decide +kernel
theorem dX6_errorByBlocks_48 : decode cX6_errorByBlocks 48 = .ok (.goto (-44), 3) := by decide +kernel
theorem dX6_errorByBlocks_51 : decode cX6_errorByBlocks 51 = .ok (.iload_n 1, 1) := by decide +kernel
theorem dX6_errorByBlocks_52 : decode cX6_errorByBlocks 52 = .ok (.ireturn, 1) := by decide +kernel
theorem dX6_leadOf_0 : decode cX6_leadOf 0 = .ok (.aload_n 0, 1) := by decide +kernel
theorem dX6_leadOf_1 : decode cX6_leadOf 1 = .ok (.getfield 58, 3) := by decide +kernel
theorem dX6_leadOf_4 : decode cX6_leadOf 4 = .ok (.aload_n 0, 1) := by decide +kernel
theorem dX6_leadOf_5 : decode cX6_leadOf 5 = .ok (.getfield 12, 3) := by decide +kernel
theorem dX6_leadOf_8 : decode cX6_leadOf 8 = .ok (.getfield 263, 3) := by decide +kernel
theorem dX6_leadOf_11 : decode cX6_leadOf 11 = .ok (.iload_n 1, 1) := by decide +kernel
theorem dX6_leadOf_12 : decode cX6_leadOf 12 = .ok (.iaload, 1) := by decide +kernel
theorem dX6_leadOf_13 : decode cX6_leadOf 13 = .ok (.aload_n 0, 1) := by decide +kernel
theorem dX6_leadOf_14 : decode cX6_leadOf 14 = .ok (.getfield 12, 3) := by decide +kernel
theorem dX6_leadOf_17 : decode cX6_leadOf 17 = .ok (.getfield 266, 3) := by decide +kernel
theorem dX6_leadOf_20 : decode cX6_leadOf 20 = .ok (.iload_n 1, 1) := by decide +kernel
theorem dX6_leadOf_21 : decode cX6_leadOf 21 = .ok (.iaload, 1) := by decide +kernel
theorem dX6_leadOf_22 : decode cX6_leadOf 22 = .ok (.invokevirtual 290, 3) := by decide +kernel
theorem dX6_leadOf_25 : decode cX6_leadOf 25 = .ok (.aload_n 0, 1) := by decide +kernel
theorem dX6_leadOf_26 : decode cX6_leadOf 26 = .ok (.getfield 12, 3) := by decide +kernel
theorem dX6_leadOf_29 : decode cX6_leadOf 29 = .ok (.iload_n 1, 1) := by decide +kernel
theorem dX6_leadOf_30 : decode cX6_leadOf 30 = .ok (.invokevirtual 260, 3) := by decide +kernel
theorem dX6_leadOf_33 : decode cX6_leadOf 33 = .ok (.iconst 1, 1) := by decide +kernel
theorem dX6_leadOf_34 : decode cX6_leadOf 34 = .ok (.iadd, 1) := by decide +kernel
theorem dX6_leadOf_35 : decode cX6_leadOf 35 = .ok (.istore_n 2, 1) := by decide +kernel
theorem dX6_leadOf_36 : decode cX6_leadOf 36 = .ok (.iload_n 2, 1) := by decide +kernel
theorem dX6_leadOf_37 : decode cX6_leadOf 37 = .ok (.aload_n 0, 1) := by decide +kernel
theorem dX6_leadOf_38 : decode cX6_leadOf 38 = .ok (.getfield 12, 3) := by decide +kernel
theorem dX6_leadOf_41 : decode cX6_leadOf 41 = .ok (.iload_n 1, 1) := by decide +kernel
theorem dX6_leadOf_42 : decode cX6_leadOf 42 = .ok (.invokevirtual 257, 3) := by decide +kernel
theorem dX6_leadOf_45 : decode cX6_leadOf 45 = .ok (.if_icmp .ge 25, 3) := by decide +kernel
theorem dX6_leadOf_48 : decode cX6_leadOf 48 = .ok (.aload_n 0, 1) := by decide +kernel
theorem dX6_leadOf_49 : decode cX6_leadOf 49 = .ok (.getfield 58, 3) := by decide +kernel
theorem dX6_leadOf_52 : decode cX6_leadOf 52 = .ok (.aload_n 0, 1) := by decide +kernel
theorem dX6_leadOf_53 : decode cX6_leadOf 53 = .ok (.getfield 12, 3) := by decide +kernel
theorem dX6_leadOf_56 : decode cX6_leadOf 56 = .ok (.getfield 181, 3) := by decide +kernel
theorem dX6_leadOf_59 : decode cX6_leadOf 59 = .ok (.iload_n 2, 1) := by decide +kernel
theorem dX6_leadOf_60 : decode cX6_leadOf 60 = .ok (.iaload, 1) := by decide +kernel
theorem dX6_leadOf_61 : decode cX6_leadOf 61 = .ok (.invokevirtual 296, 3) := by decide +kernel
theorem dX6_leadOf_64 : decode cX6_leadOf 64 = .ok (.iinc 2 1, 3) := by decide +kernel
theorem dX6_leadOf_67 : decode cX6_leadOf 67 = .ok (.goto (-31), 3) := by decide +kernel
theorem dX6_leadOf_70 : decode cX6_leadOf 70 = .ok (.aload_n 0, 1) := by decide +kernel
theorem dX6_leadOf_71 : decode cX6_leadOf 71 = .ok (.getfield 58, 3) := by decide +kernel
theorem dX6_leadOf_74 : decode cX6_leadOf 74 = .ok (.getfield 302, 3) := by decide +kernel
theorem dX6_leadOf_77 : decode cX6_leadOf 77 = .ok (.ireturn, 1) := by decide +kernel
theorem dJ9_abs_0f7a4_0 : decode cJ9_abs_0f7a4 0 = .ok (.iload_n 0, 1) := by decide +kernel
theorem dJ9_abs_0f7a4_1 : decode cJ9_abs_0f7a4 1 = .ok (.ifCond .ge 8, 3) := by decide +kernel
theorem dJ9_abs_0f7a4_4 : decode cJ9_abs_0f7a4 4 = .ok (.iload_n 0, 1) := by decide +kernel
theorem dJ9_abs_0f7a4_5 : decode cJ9_abs_0f7a4 5 = .ok (.ineg, 1) := by decide +kernel
theorem dJ9_abs_0f7a4_6 : decode cJ9_abs_0f7a4 6 = .ok (.goto 4, 3) := by decide +kernel
theorem dJ9_abs_0f7a4_9 : decode cJ9_abs_0f7a4 9 = .ok (.iload_n 0, 1) := by decide +kernel
theorem dJ9_abs_0f7a4_10 : decode cJ9_abs_0f7a4 10 = .ok (.ireturn, 1) := by decide +kernel
theorem dJ9_max_7cf53_0 : decode cJ9_max_7cf53 0 = .ok (.iload_n 0, 1) := by decide +kernel
theorem dJ9_max_7cf53_1 : decode cJ9_max_7cf53 1 = .ok (.iload_n 1, 1) := by decide +kernel
theorem dJ9_max_7cf53_2 : decode cJ9_max_7cf53 2 = .ok (.if_icmp .lt 7, 3) := by decide +kernel
theorem dJ9_max_7cf53_5 : decode cJ9_max_7cf53 5 = .ok (.iload_n 0, 1) := by decide +kernel
theorem dJ9_max_7cf53_6 : decode cJ9_max_7cf53 6 = .ok (.goto 4, 3) := by decide +kernel
theorem dJ9_max_7cf53_9 : decode cJ9_max_7cf53 9 = .ok (.iload_n 1, 1) := by decide +kernel
theorem dJ9_max_7cf53_10 : decode cJ9_max_7cf53 10 = .ok (.ireturn, 1) := by decide +kernel
theorem dJ9_min_7cf53_0 : decode cJ9_min_7cf53 0 = .ok (.iload_n 0, 1) := by decide +kernel
theorem dJ9_min_7cf53_1 : decode cJ9_min_7cf53 1 = .ok (.iload_n 1, 1) := by decide +kernel
theorem dJ9_min_7cf53_2 : decode cJ9_min_7cf53 2 = .ok (.if_icmp .gt 7, 3) := by decide +kernel
theorem dJ9_min_7cf53_5 : decode cJ9_min_7cf53 5 = .ok (.iload_n 0, 1) := by decide +kernel
theorem dJ9_min_7cf53_6 : decode cJ9_min_7cf53 6 = .ok (.goto 4, 3) := by decide +kernel
theorem dJ9_min_7cf53_9 : decode cJ9_min_7cf53 9 = .ok (.iload_n 1, 1) := by decide +kernel
theorem dJ9_min_7cf53_10 : decode cJ9_min_7cf53 10 = .ok (.ireturn, 1) := by decide +kernel
