theorem dX0_init_0 : decode cX0_init 0 = .ok (.aload_n 0, 1) := by decide +kernel
theorem dX0_init_1 : decode cX0_init 1 = .ok (.invokespecial 3, 3) := by decide +kernel
theorem dX0_init_4 : decode cX0_init 4 = .ok (.aload_n 0, 1) := by decide +kernel
theorem dX0_init_5 : decode cX0_init 5 = .ok (.bipush 6, 2) := by decide +kernel
theorem dX0_init_7 : decode cX0_init 7 = .ok (.sipush 720, 3) := by decide +kernel
theorem dX0_init_10 : decode cX0_init 10 = .ok (.multianewarray 11 2, 4) := by decide +kernel
theorem dX0_init_14 : decode cX0_init 14 = .ok (.putfield 13, 3) := by decide +kernel
theorem dX0_init_17 : decode cX0_init 17 = .ok (.aload_n 0, 1) := by decide +kernel
theorem dX0_init_18 : decode cX0_init 18 = .ok (.iconst 0, 1) := by decide +kernel
theorem dX0_init_19 : decode cX0_init 19 = .ok (.putfield 16, 3) := by decide +kernel
theorem dX0_init_22 : decode cX0_init 22 = .ok (.aload_n 0, 1) := by decide +kernel
theorem dX0_init_23 : decode cX0_init 23 = .ok (.bipush 16, 2) := by decide +kernel
theorem dX0_init_25 : decode cX0_init 25 = .ok (.putfield 20, 3) := by decide +kernel
theorem dX0_init_28 : decode cX0_init 28 = .ok (.aload_n 0, 1) := by decide +kernel
theorem dX0_init_29 : decode cX0_init 29 = .ok (.iconst 0, 1) := by decide +kernel
theorem dX0_init_30 : decode cX0_init 30 = .ok (.putfield 23, 3) := by decide +kernel
theorem dX0_init_33 : decode cX0_init 33 = .ok (.aload_n 0, 1) := by decide +kernel
theorem dX0_init_34 : decode cX0_init 34 = .ok (.sipush 736, 3) := by decide +kernel
theorem dX0_init_37 : decode cX0_init 37 = .ok (.newarray .boolean, 2) := by decide +kernel
theorem dX0_init_39 : decode cX0_init 39 = .ok (.putfield 26, 3) := by decide +kernel
theorem dX0_init_42 : decode cX0_init 42 = .ok (.aload_n 0, 1) := by decide +kernel
theorem dX0_init_43 : decode cX0_init 43 = .ok (.sipush 720, 3) := by decide +kernel
theorem dX0_init_46 : decode cX0_init 46 = .ok (.newarray .boolean, 2) := by decide +kernel
theorem dX0_init_48 : decode cX0_init 48 = .ok (.putfield 30, 3) := by decide +kernel
theorem dX0_init_51 : decode cX0_init 51 = .ok (.aload_n 0, 1) := by decide +kernel
theorem dX0_init_52 : decode cX0_init 52 = .ok (.sipush 721, 3) := by decide +kernel
theorem dX0_init_55 : decode cX0_init 55 = .ok (.newarray .int, 2) := by decide +kernel
theorem dX0_init_57 : decode cX0_init 57 = .ok (.putfield 33, 3) := by decide +kernel
theorem dX0_init_60 : decode cX0_init 60 = .ok (.return_, 1) := by decide +kernel
theorem dX0_clear_0 : decode cX0_clear 0 = .ok (.aload_n 0, 1) := by decide +kernel
theorem dX0_clear_1 : decode cX0_clear 1 = .ok (.iconst 0, 1) := by decide +kernel
theorem dX0_clear_2 : decode cX0_clear 2 = .ok (.putfield 16, 3) := by decide +kernel
theorem dX0_clear_5 : decode cX0_clear 5 = .ok (.aload_n 0, 1) := by decide +kernel
theorem dX0_clear_6 : decode cX0_clear 6 = .ok (.bipush 16, 2) := by decide +kernel
theorem dX0_clear_8 : decode cX0_clear 8 = .ok (.putfield 20, 3) := by decide +kernel
theorem dX0_clear_11 : decode cX0_clear 11 = .ok (.return_, 1) := by decide +kernel
theorem dX0_add_0 : decode cX0_add 0 = .ok (.aload_n 0, 1) := by decide +kernel
theorem dX0_add_1 : decode cX0_add 1 = .ok (.getfield 16, 3) := by decide +kernel
theorem dX0_add_4 : decode cX0_add 4 = .ok (.sipush 720, 3) := by decide +kernel
theorem dX0_add_7 : decode cX0_add 7 = .ok (.if_icmp .lt 5, 3) := by decide +kernel
theorem dX0_add_10 : decode cX0_add 10 = .ok (.iconst 0, 1) := by decide +kernel
theorem dX0_add_11 : decode cX0_add 11 = .ok (.ireturn, 1) := by decide +kernel
theorem dX0_add_12 : decode cX0_add 12 = .ok (.iload_n 2, 1) := by decide +kernel
theorem dX0_add_13 : decode cX0_add 13 = .ok (.istore 6, 2) := by decide +kernel
theorem dX0_add_15 : decode cX0_add 15 = .ok (.iload_n 2, 1) := by decide +kernel
theorem dX0_add_16 : decode cX0_add 16 = .ok (.iconst (-1), 1) := by decide +kernel
theorem dX0_add_17 : decode cX0_add 17 = .ok (.if_icmp .ne 19, 3) := by decide +kernel
theorem dX0_add_20 : decode cX0_add 20 = .ok (.aload_n 0, 1) := by decide +kernel
theorem dX0_add_21 : decode cX0_add 21 = .ok (.getfield 20, 3) := by decide +kernel
theorem dX0_add_24 : decode cX0_add 24 = .ok (.istore 6, 2) := by decide +kernel
theorem dX0_add_26 : decode cX0_add 26 = .ok (.aload_n 0, 1) := by decide +kernel
theorem dX0_add_27 : decode cX0_add 27 = .ok (.dup, 1) := by decide +kernel
theorem dX0_add_28 : decode cX0_add 28 = .ok (.getfield 20, 3) := by decide +kernel
theorem dX0_add_31 : decode cX0_add 31 = .ok (.iconst 1, 1) := by decide +kernel
theorem dX0_add_32 : decode cX0_add 32 = .ok (.iadd, 1) := by decide +kernel
theorem dX0_add_33 : decode cX0_add 33 = .ok (.putfield 20, 3) := by decide +kernel
theorem dX0_add_36 : decode cX0_add 36 = .ok (.aload_n 0, 1) := by decide +kernel
theorem dX0_add_37 : decode cX0_add 37 = .ok (.getfield 13, 3) := by decide +kernel
theorem dX0_add_40 : decode cX0_add 40 = .ok (.iconst 0, 1) := by decide +kernel
theorem dX0_add_41 : decode cX0_add 41 = .ok (.aaload, 1) := by decide +kernel
theorem dX0_add_42 : decode cX0_add 42 = .ok (.aload_n 0, 1) := by decide +kernel
theorem dX0_add_43 : decode cX0_add 43 = .ok (.getfield 16, 3) := by decide +kernel
theorem dX0_add_46 : decode cX0_add 46 = .ok (.iload_n 1, 1) := by decide +kernel
theorem dX0_add_47 : decode cX0_add 47 = .ok (.iastore, 1) := by decide +kernel
theorem dX0_add_48 : decode cX0_add 48 = .ok (.aload_n 0, 1) := by decide +kernel
theorem dX0_add_49 : decode cX0_add 49 = .ok (.getfield 13, 3) := by decide +kernel
theorem dX0_add_52 : decode cX0_add 52 = .ok (.iconst 1, 1) := by decide +kernel
theorem dX0_add_53 : decode cX0_add 53 = .ok (.aaload, 1) := by decide +kernel
theorem dX0_add_54 : decode cX0_add 54 = .ok (.aload_n 0, 1) := by decide +kernel
theorem dX0_add_55 : decode cX0_add 55 = .ok (.getfield 16, 3) := by decide +kernel
theorem dX0_add_58 : decode cX0_add 58 = .ok (.iload 6, 2) := by decide +kernel
theorem dX0_add_60 : decode cX0_add 60 = .ok (.iastore, 1) := by decide +kernel
theorem dX0_add_61 : decode cX0_add 61 = .ok (.aload_n 0, 1) := by decide +kernel
theorem dX0_add_62 : decode cX0_add 62 = .ok (.getfield 13, 3) := by decide +kernel
theorem dX0_add_65 : decode cX0_add 65 = .ok (.iconst 2, 1) := by decide +kernel
theorem dX0_add_66 : decode cX0_add 66 = .ok (.aaload, 1) := by decide +kernel
theorem dX0_add_67 : decode cX0_add 67 = .ok (.aload_n 0, 1) := by decide +kernel
theorem dX0_add_68 : decode cX0_add 68 = .ok (.getfield 16, 3) := by decide +kernel
theorem dX0_add_71 : decode cX0_add 71 = .ok (.iload_n 3, 1) := by decide +kernel
theorem dX0_add_72 : decode cX0_add 72 = .ok (.iastore, 1) := by decide +kernel
theorem dX0_add_73 : decode cX0_add 73 = .ok (.aload_n 0, 1) := by decide +kernel
theorem dX0_add_74 : decode cX0_add 74 = .ok (.getfield 13, 3) := by decide +kernel
theorem dX0_add_77 : decode cX0_add 77 = .ok (.iconst 3, 1) := by decide +kernel
theorem dX0_add_78 : decode cX0_add 78 = .ok (.aaload, 1) := by decide +kernel
theorem dX0_add_79 : decode cX0_add 79 = .ok (.aload_n 0, 1) := by decide +kernel
theorem dX0_add_80 : decode cX0_add 80 = .ok (.getfield 16, 3) := by decide +kernel
theorem dX0_add_83 : decode cX0_add 83 = .ok (.iload 4, 2) := by decide +kernel
theorem dX0_add_85 : decode cX0_add 85 = .ok (.iastore, 1) := by decide +kernel
theorem dX0_add_86 : decode cX0_add 86 = .ok (.aload_n 0, 1) := by decide +kernel
theorem dX0_add_87 : decode cX0_add 87 = .ok (.getfield 13, 3) := by decide +kernel
theorem dX0_add_90 : decode cX0_add 90 = .ok (.iconst 4, 1) := by decide +kernel
theorem dX0_add_91 : decode cX0_add 91 = .ok (.aaload, 1) := by decide +kernel
theorem dX0_add_92 : decode cX0_add 92 = .ok (.aload_n 0, 1) := by decide +kernel
theorem dX0_add_93 : decode cX0_add 93 = .ok (.getfield 16, 3) := by decide +kernel
theorem dX0_add_96 : decode cX0_add 96 = .ok (.iload 5, 2) := by decide +kernel
theorem dX0_add_98 : decode cX0_add 98 = .ok (.iastore, 1) := by decide +kernel
theorem dX0_add_99 : decode cX0_add 99 = .ok (.aload_n 0, 1) := by decide +kernel
theorem dX0_add_100 : decode cX0_add 100 = .ok (.getfield 13, 3) := by decide +kernel
theorem dX0_add_103 : decode cX0_add 103 = .ok (.iconst 5, 1) := by decide +kernel
theorem dX0_add_104 : decode cX0_add 104 = .ok (.aaload, 1) := by decide +kernel
theorem dX0_add_105 : decode cX0_add 105 = .ok (.aload_n 0, 1) := by decide +kernel
theorem dX0_add_106 : decode cX0_add 106 = .ok (.getfield 16, 3) := by decide +kernel
theorem dX0_add_109 : decode cX0_add 109 = .ok (.aload_n 0, 1) := by decide +kernel
theorem dX0_add_110 : decode cX0_add 110 = .ok (.getfield 23, 3) := by decide +kernel
theorem dX0_add_113 : decode cX0_add 113 = .ok (.iastore, 1) := by decide +kernel
theorem dX0_add_114 : decode cX0_add 114 = .ok (.aload_n 0, 1) := by decide +kernel
theorem dX0_add_115 : decode cX0_add 115 = .ok (.dup, 1) := by decide +kernel
theorem dX0_add_116 : decode cX0_add 116 = .ok (.getfield 16, 3) := by decide +kernel
theorem dX0_add_119 : decode cX0_add 119 = .ok (.iconst 1, 1) := by decide +kernel
theorem dX0_add_120 : decode cX0_add 120 = .ok (.iadd, 1) := by decide +kernel
theorem dX0_add_121 : decode cX0_add 121 = .ok (.putfield 16, 3) := by decide +kernel
theorem dX0_add_124 : decode cX0_add 124 = .ok (.iload 6, 2) := by decide +kernel
theorem dX0_add_126 : decode cX0_add 126 = .ok (.ireturn, 1) := by decide +kernel
theorem dX0_leadHere_0 : decode cX0_leadHere 0 = .ok (.iload_n 1, 1) := by decide +kernel
theorem dX0_leadHere_1 : decode cX0_leadHere 1 = .ok (.ifCond .lt 27, 3) := by decide +kernel
theorem dX0_leadHere_4 : decode cX0_leadHere 4 = .ok (.iload_n 1, 1) := by decide +kernel
theorem dX0_leadHere_5 : decode cX0_leadHere 5 = .ok (.aload_n 0, 1) := by decide +kernel
theorem dX0_leadHere_6 : decode cX0_leadHere 6 = .ok (.getfield 16, 3) := by decide +kernel
theorem dX0_leadHere_9 : decode cX0_leadHere 9 = .ok (.if_icmp .ge 19, 3) := by decide +kernel
theorem dX0_leadHere_12 : decode cX0_leadHere 12 = .ok (.aload_n 0, 1) := by decide +kernel
theorem dX0_leadHere_13 : decode cX0_leadHere 13 = .ok (.getfield 13, 3) := by decide +kernel
theorem dX0_leadHere_16 : decode cX0_leadHere 16 = .ok (.aload_n 0, 1) := by decide +kernel
theorem dX0_leadHere_17 : decode cX0_leadHere 17 = .ok (.iload_n 1, 1) := by decide +kernel
theorem dX0_leadHere_18 : decode cX0_leadHere 18 = .ok (.invokevirtual 37, 3) := by decide +kernel
theorem dX0_leadHere_21 : decode cX0_leadHere 21 = .ok (.aaload, 1) := by decide +kernel
theorem dX0_leadHere_22 : decode cX0_leadHere 22 = .ok (.iload_n 1, 1) := by decide +kernel
theorem dX0_leadHere_23 : decode cX0_leadHere 23 = .ok (.aload_n 0, 1) := by decide +kernel
theorem dX0_leadHere_24 : decode cX0_leadHere 24 = .ok (.getfield 16, 3) := by decide +kernel
theorem dX0_leadHere_27 : decode cX0_leadHere 27 = .ok (.iastore, 1) := by decide +kernel
theorem dX0_leadHere_28 : decode cX0_leadHere 28 = .ok (.return_, 1) := by decide +kernel
theorem dX0_leadRow_0 : decode cX0_leadRow 0 = .ok (.aload_n 0, 1) := by decide +kernel
theorem dX0_leadRow_1 : decode cX0_leadRow 1 = .ok (.getfield 13, 3) := by decide +kernel
theorem dX0_leadRow_4 : decode cX0_leadRow 4 = .ok (.iconst 0, 1) := by decide +kernel
theorem dX0_leadRow_5 : decode cX0_leadRow 5 = .ok (.aaload, 1) := by decide +kernel
theorem dX0_leadRow_6 : decode cX0_leadRow 6 = .ok (.iload_n 1, 1) := by decide +kernel
theorem dX0_leadRow_7 : decode cX0_leadRow 7 = .ok (.iaload, 1) := by decide +kernel
theorem dX0_leadRow_8 : decode cX0_leadRow 8 = .ok (.bipush 16, 2) := by decide +kernel
theorem dX0_leadRow_10 : decode cX0_leadRow 10 = .ok (.if_icmp .ne 7, 3) := by decide +kernel
theorem dX0_leadRow_13 : decode cX0_leadRow 13 = .ok (.iconst 1, 1) := by decide +kernel
theorem dX0_leadRow_14 : decode cX0_leadRow 14 = .ok (.goto 4, 3) := by decide +kernel
theorem dX0_leadRow_17 : decode cX0_leadRow 17 = .ok (.iconst 2, 1) := by decide +kernel
theorem dX0_leadRow_18 : decode cX0_leadRow 18 = .ok (.ireturn, 1) := by decide +kernel
theorem dX0_isJump_0 : decode cX0_isJump 0 = .ok (.aload_n 0, 1) := by decide +kernel
theorem dX0_isJump_1 : decode cX0_isJump 1 = .ok (.getfield 13, 3) := by decide +kernel
theorem dX0_isJump_4 : decode cX0_isJump 4 = .ok (.iconst 0, 1) := by decide +kernel
theorem dX0_isJump_5 : decode cX0_isJump 5 = .ok (.aaload, 1) := by decide +kernel
theorem dX0_isJump_6 : decode cX0_isJump 6 = .ok (.iload_n 1, 1) := by decide +kernel
theorem dX0_isJump_7 : decode cX0_isJump 7 = .ok (.iaload, 1) := by decide +kernel
theorem dX0_isJump_8 : decode cX0_isJump 8 = .ok (.bipush 16, 2) := by decide +kernel
theorem dX0_isJump_10 : decode cX0_isJump 10 = .ok (.if_icmp .eq 16, 3) := by decide +kernel
theorem dX0_isJump_13 : decode cX0_isJump 13 = .ok (.aload_n 0, 1) := by decide +kernel
theorem dX0_isJump_14 : decode cX0_isJump 14 = .ok (.getfield 13, 3) := by decide +kernel
theorem dX0_isJump_17 : decode cX0_isJump 17 = .ok (.iconst 0, 1) := by decide +kernel
theorem dX0_isJump_18 : decode cX0_isJump 18 = .ok (.aaload, 1) := by decide +kernel
theorem dX0_isJump_19 : decode cX0_isJump 19 = .ok (.iload_n 1, 1) := by decide +kernel
theorem dX0_isJump_20 : decode cX0_isJump 20 = .ok (.iaload, 1) := by decide +kernel
theorem dX0_isJump_21 : decode cX0_isJump 21 = .ok (.bipush 17, 2) := by decide +kernel
theorem dX0_isJump_23 : decode cX0_isJump 23 = .ok (.if_icmp .ne 7, 3) := by decide +kernel
theorem dX0_isJump_26 : decode cX0_isJump 26 = .ok (.iconst 1, 1) := by decide +kernel
theorem dX0_isJump_27 : decode cX0_isJump 27 = .ok (.goto 4, 3) := by decide +kernel
theorem dX0_isJump_30 : decode cX0_isJump 30 = .ok (.iconst 0, 1) := by decide +kernel
theorem dX0_isJump_31 : decode cX0_isJump 31 = .ok (.ireturn, 1) := by decide +kernel
theorem dX0_jumps_0 : decode cX0_jumps 0 = .ok (.iconst 0, 1) := by decide +kernel
theorem dX0_jumps_1 : decode cX0_jumps 1 = .ok (.istore_n 1, 1) := by decide +kernel
theorem dX0_jumps_2 : decode cX0_jumps 2 = .ok (.iconst 0, 1) := by decide +kernel
theorem dX0_jumps_3 : decode cX0_jumps 3 = .ok (.istore_n 2, 1) := by decide +kernel
theorem dX0_jumps_4 : decode cX0_jumps 4 = .ok (.iload_n 2, 1) := by decide +kernel
theorem dX0_jumps_5 : decode cX0_jumps 5 = .ok (.aload_n 0, 1) := by decide +kernel
theorem dX0_jumps_6 : decode cX0_jumps 6 = .ok (.getfield 16, 3) := by decide +kernel
theorem dX0_jumps_9 : decode cX0_jumps 9 = .ok (.if_icmp .ge 25, 3) := by decide +kernel
theorem dX0_jumps_12 : decode cX0_jumps 12 = .ok (.iload_n 1, 1) := by decide +kernel
theorem dX0_jumps_13 : decode cX0_jumps 13 = .ok (.aload_n 0, 1) := by decide +kernel
theorem dX0_jumps_14 : decode cX0_jumps 14 = .ok (.iload_n 2, 1) := by decide +kernel
theorem dX0_jumps_15 : decode cX0_jumps 15 = .ok (.invokevirtual 41, 3) := by decide +kernel
theorem dX0_jumps_18 : decode cX0_jumps 18 = .ok (.ifCond .eq 7, 3) := by decide +kernel
theorem dX0_jumps_21 : decode cX0_jumps 21 = .ok (.iconst 1, 1) := by decide +kernel
theorem dX0_jumps_22 : decode cX0_jumps 22 = .ok (.goto 4, 3) := by decide +kernel
theorem dX0_jumps_25 : decode cX0_jumps 25 = .ok (.iconst 0, 1) := by decide +kernel
theorem dX0_jumps_26 : decode cX0_jumps 26 = .ok (.iadd, 1) := by decide +kernel
theorem dX0_jumps_27 : decode cX0_jumps 27 = .ok (.istore_n 1, 1) := by decide +kernel
theorem dX0_jumps_28 : decode cX0_jumps 28 = .ok (.iinc 2 1, 3) := by decide +kernel
theorem dX0_jumps_31 : decode cX0_jumps 31 = .ok (.goto (-27), 3) := by decide +kernel
theorem dX0_jumps_34 : decode cX0_jumps 34 = .ok (.iload_n 1, 1) := by decide +kernel
theorem dX0_jumps_35 : decode cX0_jumps 35 = .ok (.ireturn, 1) := by decide +kernel
theorem dX0_stepsOf_0 : decode cX0_stepsOf 0 = .ok (.iconst 0, 1) := by decide +kernel
theorem dX0_stepsOf_1 : decode cX0_stepsOf 1 = .ok (.istore_n 2, 1) := by decide +kernel
theorem dX0_stepsOf_2 : decode cX0_stepsOf 2 = .ok (.iconst 0, 1) := by decide +kernel
theorem dX0_stepsOf_3 : decode cX0_stepsOf 3 = .ok (.istore_n 3, 1) := by decide +kernel
theorem dX0_stepsOf_4 : decode cX0_stepsOf 4 = .ok (.iload_n 3, 1) := by decide +kernel
theorem dX0_stepsOf_5 : decode cX0_stepsOf 5 = .ok (.aload_n 0, 1) := by decide +kernel
theorem dX0_stepsOf_6 : decode cX0_stepsOf 6 = .ok (.getfield 16, 3) := by decide +kernel
theorem dX0_stepsOf_9 : decode cX0_stepsOf 9 = .ok (.if_icmp .ge 29, 3) := by decide +kernel
theorem dX0_stepsOf_12 : decode cX0_stepsOf 12 = .ok (.iload_n 2, 1) := by decide +kernel
theorem dX0_stepsOf_13 : decode cX0_stepsOf 13 = .ok (.aload_n 0, 1) := by decide +kernel
theorem dX0_stepsOf_14 : decode cX0_stepsOf 14 = .ok (.getfield 13, 3) := by decide +kernel
theorem dX0_stepsOf_17 : decode cX0_stepsOf 17 = .ok (.iconst 5, 1) := by decide +kernel
theorem dX0_stepsOf_18 : decode cX0_stepsOf 18 = .ok (.aaload, 1) := by decide +kernel
theorem dX0_stepsOf_19 : decode cX0_stepsOf 19 = .ok (.iload_n 3, 1) := by decide +kernel
theorem dX0_stepsOf_20 : decode cX0_stepsOf 20 = .ok (.iaload, 1) := by decide +kernel
theorem dX0_stepsOf_21 : decode cX0_stepsOf 21 = .ok (.iload_n 1, 1) := by decide +kernel
theorem dX0_stepsOf_22 : decode cX0_stepsOf 22 = .ok (.if_icmp .ne 7, 3) := by decide +kernel
theorem dX0_stepsOf_25 : decode cX0_stepsOf 25 = .ok (.iconst 1, 1) := by decide +kernel
theorem dX0_stepsOf_26 : decode cX0_stepsOf 26 = .ok (.goto 4, 3) := by decide +kernel
theorem dX0_stepsOf_29 : decode cX0_stepsOf 29 = .ok (.iconst 0, 1) := by decide +kernel
theorem dX0_stepsOf_30 : decode cX0_stepsOf 30 = .ok (.iadd, 1) := by decide +kernel
theorem dX0_stepsOf_31 : decode cX0_stepsOf 31 = .ok (.istore_n 2, 1) := by decide +kernel
theorem dX0_stepsOf_32 : decode cX0_stepsOf 32 = .ok (.iinc 3 1, 3) := by decide +kernel
theorem dX0_stepsOf_35 : decode cX0_stepsOf 35 = .ok (.goto (-31), 3) := by decide +kernel
theorem dX0_stepsOf_38 : decode cX0_stepsOf 38 = .ok (.iload_n 2, 1) := by decide +kernel
theorem dX0_stepsOf_39 : decode cX0_stepsOf 39 = .ok (.ireturn, 1) := by decide +kernel
theorem dX0_dropUseless_0 : decode cX0_dropUseless 0 = .ok (.aload_n 0, 1) := by decide +kernel
theorem dX0_dropUseless_1 : decode cX0_dropUseless 1 = .ok (.invokevirtual 45, 3) := by decide +kernel
theorem dX0_dropUseless_4 : decode cX0_dropUseless 4 = .ok (.aload_n 0, 1) := by decide +kernel
theorem dX0_dropUseless_5 : decode cX0_dropUseless 5 = .ok (.getfield 16, 3) := by decide +kernel
theorem dX0_dropUseless_8 : decode cX0_dropUseless 8 = .ok (.istore_n 1, 1) := by decide +kernel
theorem dX0_dropUseless_9 : decode cX0_dropUseless 9 = .ok (.aload_n 0, 1) := by decide +kernel
theorem dX0_dropUseless_10 : decode cX0_dropUseless 10 = .ok (.getfield 33, 3) := by decide +kernel
theorem dX0_dropUseless_13 : decode cX0_dropUseless 13 = .ok (.iconst 0, 1) := by decide +kernel
theorem dX0_dropUseless_14 : decode cX0_dropUseless 14 = .ok (.iconst 0, 1) := by decide +kernel
theorem dX0_dropUseless_15 : decode cX0_dropUseless 15 = .ok (.iastore, 1) := by decide +kernel
theorem dX0_dropUseless_16 : decode cX0_dropUseless 16 = .ok (.iconst 0, 1) := by decide +kernel
theorem dX0_dropUseless_17 : decode cX0_dropUseless 17 = .ok (.istore_n 2, 1) := by decide +kernel
theorem dX0_dropUseless_18 : decode cX0_dropUseless 18 = .ok (.iload_n 2, 1) := by decide +kernel
theorem dX0_dropUseless_19 : decode cX0_dropUseless 19 = .ok (.iload_n 1, 1) := by decide +kernel
theorem dX0_dropUseless_20 : decode cX0_dropUseless 20 = .ok (.if_icmp .ge 38, 3) := by decide +kernel
theorem dX0_dropUseless_23 : decode cX0_dropUseless 23 = .ok (.aload_n 0, 1) := by decide +kernel
theorem dX0_dropUseless_24 : decode cX0_dropUseless 24 = .ok (.getfield 33, 3) := by decide +kernel
theorem dX0_dropUseless_27 : decode cX0_dropUseless 27 = .ok (.iload_n 2, 1) := by decide +kernel
theorem dX0_dropUseless_28 : decode cX0_dropUseless 28 = .ok (.iconst 1, 1) := by decide +kernel
theorem dX0_dropUseless_29 : decode cX0_dropUseless 29 = .ok (.iadd, 1) := by decide +kernel
theorem dX0_dropUseless_30 : decode cX0_dropUseless 30 = .ok (.aload_n 0, 1) := by decide +kernel
theorem dX0_dropUseless_31 : decode cX0_dropUseless 31 = .ok (.getfield 33, 3) := by decide +kernel
theorem dX0_dropUseless_34 : decode cX0_dropUseless 34 = .ok (.iload_n 2, 1) := by decide +kernel
theorem dX0_dropUseless_35 : decode cX0_dropUseless 35 = .ok (.iaload, 1) := by decide +kernel
theorem dX0_dropUseless_36 : decode cX0_dropUseless 36 = .ok (.aload_n 0, 1) := by decide +kernel
theorem dX0_dropUseless_37 : decode cX0_dropUseless 37 = .ok (.getfield 30, 3) := by decide +kernel
theorem dX0_dropUseless_40 : decode cX0_dropUseless 40 = .ok (.iload_n 2, 1) := by decide +kernel
theorem dX0_dropUseless_41 : decode cX0_dropUseless 41 = .ok (.baload, 1) := by decide +kernel
theorem dX0_dropUseless_42 : decode cX0_dropUseless 42 = .ok (.ifCond .eq 7, 3) := by decide +kernel
theorem dX0_dropUseless_45 : decode cX0_dropUseless 45 = .ok (.iconst 1, 1) := by decide +kernel
theorem dX0_dropUseless_46 : decode cX0_dropUseless 46 = .ok (.goto 4, 3) := by decide +kernel
theorem dX0_dropUseless_49 : decode cX0_dropUseless 49 = .ok (.iconst 0, 1) := by decide +kernel
theorem dX0_dropUseless_50 : decode cX0_dropUseless 50 = .ok (.iadd, 1) := by decide +kernel
theorem dX0_dropUseless_51 : decode cX0_dropUseless 51 = .ok (.iastore, 1) := by decide +kernel
theorem dX0_dropUseless_52 : decode cX0_dropUseless 52 = .ok (.iinc 2 1, 3) := by decide +kernel
theorem dX0_dropUseless_55 : decode cX0_dropUseless 55 = .ok (.goto (-37), 3) := by decide +kernel
theorem dX0_dropUseless_58 : decode cX0_dropUseless 58 = .ok (.iconst 0, 1) := by decide +kernel
theorem dX0_dropUseless_59 : decode cX0_dropUseless 59 = .ok (.istore_n 2, 1) := by decide +kernel
theorem dX0_dropUseless_60 : decode cX0_dropUseless 60 = .ok (.iload_n 2, 1) := by decide +kernel
theorem dX0_dropUseless_61 : decode cX0_dropUseless 61 = .ok (.iload_n 1, 1) := by decide +kernel
theorem dX0_dropUseless_62 : decode cX0_dropUseless 62 = .ok (.if_icmp .ge 29, 3) := by decide +kernel
theorem dX0_dropUseless_65 : decode cX0_dropUseless 65 = .ok (.aload_n 0, 1) := by decide +kernel
theorem dX0_dropUseless_66 : decode cX0_dropUseless 66 = .ok (.getfield 30, 3) := by decide +kernel
theorem dX0_dropUseless_69 : decode cX0_dropUseless 69 = .ok (.iload_n 2, 1) := by decide +kernel
theorem dX0_dropUseless_70 : decode cX0_dropUseless 70 = .ok (.baload, 1) := by decide +kernel
theorem dX0_dropUseless_71 : decode cX0_dropUseless 71 = .ok (.ifCond .eq 14, 3) := by decide +kernel
theorem dX0_dropUseless_74 : decode cX0_dropUseless 74 = .ok (.aload_n 0, 1) := by decide +kernel
theorem dX0_dropUseless_75 : decode cX0_dropUseless 75 = .ok (.iload_n 2, 1) := by decide +kernel
theorem dX0_dropUseless_76 : decode cX0_dropUseless 76 = .ok (.aload_n 0, 1) := by decide +kernel
theorem dX0_dropUseless_77 : decode cX0_dropUseless 77 = .ok (.getfield 33, 3) := by decide +kernel
theorem dX0_dropUseless_80 : decode cX0_dropUseless 80 = .ok (.iload_n 2, 1) := by decide +kernel
theorem dX0_dropUseless_81 : decode cX0_dropUseless 81 = .ok (.iaload, 1) := by decide +kernel
theorem dX0_dropUseless_82 : decode cX0_dropUseless 82 = .ok (.invokevirtual 48, 3) := by decide +kernel
theorem dX0_dropUseless_85 : decode cX0_dropUseless 85 = .ok (.iinc 2 1, 3) := by decide +kernel
theorem dX0_dropUseless_88 : decode cX0_dropUseless 88 = .ok (.goto (-28), 3) := by decide +kernel
theorem dX0_dropUseless_91 : decode cX0_dropUseless 91 = .ok (.aload_n 0, 1) := by decide +kernel
theorem dX0_dropUseless_92 : decode cX0_dropUseless 92 = .ok (.aload_n 0, 1) := by decide +kernel
theorem dX0_dropUseless_93 : decode cX0_dropUseless 93 = .ok (.getfield 33, 3) := by decide +kernel
theorem dX0_dropUseless_96 : decode cX0_dropUseless 96 = .ok (.iload_n 1, 1) := by decide +kernel
theorem dX0_dropUseless_97 : decode cX0_dropUseless 97 = .ok (.iaload, 1) := by decide +kernel
theorem dX0_dropUseless_98 : decode cX0_dropUseless 98 = .ok (.putfield 16, 3) := by decide +kernel
theorem dX0_dropUseless_101 : decode cX0_dropUseless 101 = .ok (.iload_n 1, 1) := by decide +kernel
theorem dX0_dropUseless_102 : decode cX0_dropUseless 102 = .ok (.aload_n 0, 1) := by decide +kernel
theorem dX0_dropUseless_103 : decode cX0_dropUseless 103 = .ok (.getfield 16, 3) := by decide +kernel
theorem dX0_dropUseless_106 : decode cX0_dropUseless 106 = .ok (.isub, 1) := by decide +kernel
theorem dX0_dropUseless_107 : decode cX0_dropUseless 107 = .ok (.ireturn, 1) := by decide +kernel
theorem dX0_findUseless_0 : decode cX0_findUseless 0 = .ok (.iconst 0, 1) := by decide +kernel
theorem dX0_findUseless_1 : decode cX0_findUseless 1 = .ok (.istore_n 1, 1) := by decide +kernel
theorem dX0_findUseless_2 : decode cX0_findUseless 2 = .ok (.iload_n 1, 1) := by decide +kernel
theorem dX0_findUseless_3 : decode cX0_findUseless 3 = .ok (.aload_n 0, 1) := by decide +kernel
theorem dX0_findUseless_4 : decode cX0_findUseless 4 = .ok (.getfield 26, 3) := by decide +kernel
theorem dX0_findUseless_7 : decode cX0_findUseless 7 = .ok (.arraylength, 1) := by decide +kernel
theorem dX0_findUseless_8 : decode cX0_findUseless 8 = .ok (.if_icmp .ge 16, 3) := by decide +kernel
theorem dX0_findUseless_11 : decode cX0_findUseless 11 = .ok (.aload_n 0, 1) := by decide +kernel
theorem dX0_findUseless_12 : decode cX0_findUseless 12 = .ok (.getfield 26, 3) := by decide +kernel
theorem dX0_findUseless_15 : decode cX0_findUseless 15 = .ok (.iload_n 1, 1) := by decide +kernel
theorem dX0_findUseless_16 : decode cX0_findUseless 16 = .ok (.iconst 0, 1) := by decide +kernel
theorem dX0_findUseless_17 : decode cX0_findUseless 17 = .ok (.bastore, 1) := by decide +kernel
theorem dX0_findUseless_18 : decode cX0_findUseless 18 = .ok (.iinc 1 1, 3) := by decide +kernel
theorem dX0_findUseless_21 : decode cX0_findUseless 21 = .ok (.goto (-19), 3) := by decide +kernel
theorem dX0_findUseless_24 : decode cX0_findUseless 24 = .ok (.aload_n 0, 1) := by decide +kernel
theorem dX0_findUseless_25 : decode cX0_findUseless 25 = .ok (.getfield 16, 3) := by decide +kernel
theorem dX0_findUseless_28 : decode cX0_findUseless 28 = .ok (.iconst 1, 1) := by decide +kernel
theorem dX0_findUseless_29 : decode cX0_findUseless 29 = .ok (.isub, 1) := by decide +kernel
theorem dX0_findUseless_30 : decode cX0_findUseless 30 = .ok (.istore_n 1, 1) := by decide +kernel
theorem dX0_findUseless_31 : decode cX0_findUseless 31 = .ok (.iload_n 1, 1) := by decide +kernel
theorem dX0_findUseless_32 : decode cX0_findUseless 32 = .ok (.ifCond .lt 58, 3) := by decide +kernel
theorem dX0_findUseless_35 : decode cX0_findUseless 35 = .ok (.aload_n 0, 1) := by decide +kernel
theorem dX0_findUseless_36 : decode cX0_findUseless 36 = .ok (.getfield 30, 3) := by decide +kernel
theorem dX0_findUseless_39 : decode cX0_findUseless 39 = .ok (.iload_n 1, 1) := by decide +kernel
theorem dX0_findUseless_40 : decode cX0_findUseless 40 = .ok (.aload_n 0, 1) := by decide +kernel
theorem dX0_findUseless_41 : decode cX0_findUseless 41 = .ok (.iload_n 1, 1) := by decide +kernel
theorem dX0_findUseless_42 : decode cX0_findUseless 42 = .ok (.invokevirtual 52, 3) := by decide +kernel
theorem dX0_findUseless_45 : decode cX0_findUseless 45 = .ok (.ifCond .eq 19, 3) := by decide +kernel
theorem dX0_findUseless_48 : decode cX0_findUseless 48 = .ok (.aload_n 0, 1) := by decide +kernel
theorem dX0_findUseless_49 : decode cX0_findUseless 49 = .ok (.getfield 26, 3) := by decide +kernel
theorem dX0_findUseless_52 : decode cX0_findUseless 52 = .ok (.aload_n 0, 1) := by decide +kernel
theorem dX0_findUseless_53 : decode cX0_findUseless 53 = .ok (.getfield 13, 3) := by decide +kernel
theorem dX0_findUseless_56 : decode cX0_findUseless 56 = .ok (.iconst 1, 1) := by decide +kernel
theorem dX0_findUseless_57 : decode cX0_findUseless 57 = .ok (.aaload, 1) := by decide +kernel
theorem dX0_findUseless_58 : decode cX0_findUseless 58 = .ok (.iload_n 1, 1) := by decide +kernel
theorem dX0_findUseless_59 : decode cX0_findUseless 59 = .ok (.iaload, 1) := by decide +kernel
theorem dX0_findUseless_60 : decode cX0_findUseless 60 = .ok (.baload, 1) := by decide +kernel
theorem dX0_findUseless_61 : decode cX0_findUseless 61 = .ok (.ifCond .eq 7, 3) := by decide +kernel
theorem dX0_findUseless_64 : decode cX0_findUseless 64 = .ok (.iconst 1, 1) := by decide +kernel
theorem dX0_findUseless_65 : decode cX0_findUseless 65 = .ok (.goto 4, 3) := by decide +kernel
theorem dX0_findUseless_68 : decode cX0_findUseless 68 = .ok (.iconst 0, 1) := by decide +kernel
theorem dX0_findUseless_69 : decode cX0_findUseless 69 = .ok (.bastore, 1) := by decide +kernel
theorem dX0_findUseless_70 : decode cX0_findUseless 70 = .ok (.aload_n 0, 1) := by decide +kernel
theorem dX0_findUseless_71 : decode cX0_findUseless 71 = .ok (.getfield 30, 3) := by decide +kernel
theorem dX0_findUseless_74 : decode cX0_findUseless 74 = .ok (.iload_n 1, 1) := by decide +kernel
theorem dX0_findUseless_75 : decode cX0_findUseless 75 = .ok (.baload, 1) := by decide +kernel
theorem dX0_findUseless_76 : decode cX0_findUseless 76 = .ok (.ifCond .eq 8, 3) := by decide +kernel
theorem dX0_findUseless_79 : decode cX0_findUseless 79 = .ok (.aload_n 0, 1) := by decide +kernel
theorem dX0_findUseless_80 : decode cX0_findUseless 80 = .ok (.iload_n 1, 1) := by decide +kernel
theorem dX0_findUseless_81 : decode cX0_findUseless 81 = .ok (.invokevirtual 55, 3) := by decide +kernel
theorem dX0_findUseless_84 : decode cX0_findUseless 84 = .ok (.iinc 1 (-1), 3) := by decide +kernel
theorem dX0_findUseless_87 : decode cX0_findUseless 87 = .ok (.goto (-56), 3) := by decide +kernel
theorem dX0_findUseless_90 : decode cX0_findUseless 90 = .ok (.return_, 1) := by decide +kernel
theorem dX0_mayGo_0 : decode cX0_mayGo 0 = .ok (.aload_n 0, 1) := by decide +kernel
theorem dX0_mayGo_1 : decode cX0_mayGo 1 = .ok (.getfield 13, 3) := by decide +kernel
theorem dX0_mayGo_4 : decode cX0_mayGo 4 = .ok (.iconst 0, 1) := by decide +kernel
theorem dX0_mayGo_5 : decode cX0_mayGo 5 = .ok (.aaload, 1) := by decide +kernel
theorem dX0_mayGo_6 : decode cX0_mayGo 6 = .ok (.iload_n 1, 1) := by decide +kernel
theorem dX0_mayGo_7 : decode cX0_mayGo 7 = .ok (.iaload, 1) := by decide +kernel
theorem dX0_mayGo_8 : decode cX0_mayGo 8 = .ok (.istore_n 2, 1) := by decide +kernel
theorem dX0_mayGo_9 : decode cX0_mayGo 9 = .ok (.iload_n 2, 1) := by decide +kernel
theorem dX0_mayGo_10 : decode cX0_mayGo 10 = .ok (.bipush 13, 2) := by decide +kernel
theorem dX0_mayGo_12 : decode cX0_mayGo 12 = .ok (.if_icmp .gt 27, 3) := by decide +kernel
theorem dX0_mayGo_15 : decode cX0_mayGo 15 = .ok (.iload_n 2, 1) := by decide +kernel
theorem dX0_mayGo_16 : decode cX0_mayGo 16 = .ok (.invokestatic 59, 3) := by decide +kernel
theorem dX0_mayGo_19 : decode cX0_mayGo 19 = .ok (.ifCond .ne 20, 3) := by decide +kernel
theorem dX0_mayGo_22 : decode cX0_mayGo 22 = .ok (.aload_n 0, 1) := by decide +kernel
theorem dX0_mayGo_23 : decode cX0_mayGo 23 = .ok (.getfield 13, 3) := by decide +kernel
theorem dX0_mayGo_26 : decode cX0_mayGo 26 = .ok (.iconst 1, 1) := by decide +kernel
theorem dX0_mayGo_27 : decode cX0_mayGo 27 = .ok (.aaload, 1) := by decide +kernel
theorem dX0_mayGo_28 : decode cX0_mayGo 28 = .ok (.iload_n 1, 1) := by decide +kernel
theorem dX0_mayGo_29 : decode cX0_mayGo 29 = .ok (.iaload, 1) := by decide +kernel
theorem dX0_mayGo_30 : decode cX0_mayGo 30 = .ok (.bipush 16, 2) := by decide +kernel
theorem dX0_mayGo_32 : decode cX0_mayGo 32 = .ok (.if_icmp .lt 7, 3) := by decide +kernel
theorem dX0_mayGo_35 : decode cX0_mayGo 35 = .ok (.iconst 1, 1) := by decide +kernel
theorem dX0_mayGo_36 : decode cX0_mayGo 36 = .ok (.goto 4, 3) := by decide +kernel
theorem dX0_mayGo_39 : decode cX0_mayGo 39 = .ok (.iconst 0, 1) := by decide +kernel
theorem dX0_mayGo_40 : decode cX0_mayGo 40 = .ok (.ireturn, 1) := by decide +kernel
theorem dX0_markTaken_0 : decode cX0_markTaken 0 = .ok (.aload_n 0, 1) := by decide +kernel
theorem dX0_markTaken_1 : decode cX0_markTaken 1 = .ok (.getfield 13, 3) := by decide +kernel
theorem dX0_markTaken_4 : decode cX0_markTaken 4 = .ok (.iconst 0, 1) := by decide +kernel
theorem dX0_markTaken_5 : decode cX0_markTaken 5 = .ok (.aaload, 1) := by decide +kernel
theorem dX0_markTaken_6 : decode cX0_markTaken 6 = .ok (.iload_n 1, 1) := by decide +kernel
theorem dX0_markTaken_7 : decode cX0_markTaken 7 = .ok (.iaload, 1) := by decide +kernel
theorem dX0_markTaken_8 : decode cX0_markTaken 8 = .ok (.istore_n 2, 1) := by decide +kernel
theorem dX0_markTaken_9 : decode cX0_markTaken 9 = .ok (.getstatic 62, 3) := by decide +kernel
theorem dX0_markTaken_12 : decode cX0_markTaken 12 = .ok (.iload_n 2, 1) := by decide +kernel
theorem dX0_markTaken_13 : decode cX0_markTaken 13 = .ok (.iaload, 1) := by decide +kernel
theorem dX0_markTaken_14 : decode cX0_markTaken 14 = .ok (.istore_n 3, 1) := by decide +kernel
theorem dX0_markTaken_15 : decode cX0_markTaken 15 = .ok (.iload_n 3, 1) := by decide +kernel
theorem dX0_markTaken_16 : decode cX0_markTaken 16 = .ok (.getstatic 65, 3) := by decide +kernel
theorem dX0_markTaken_19 : decode cX0_markTaken 19 = .ok (.iload_n 2, 1) := by decide +kernel
theorem dX0_markTaken_20 : decode cX0_markTaken 20 = .ok (.iaload, 1) := by decide +kernel
theorem dX0_markTaken_21 : decode cX0_markTaken 21 = .ok (.if_icmp .gt 23, 3) := by decide +kernel
theorem dX0_markTaken_24 : decode cX0_markTaken 24 = .ok (.aload_n 0, 1) := by decide +kernel
theorem dX0_markTaken_25 : decode cX0_markTaken 25 = .ok (.getfield 26, 3) := by decide +kernel
theorem dX0_markTaken_28 : decode cX0_markTaken 28 = .ok (.aload_n 0, 1) := by decide +kernel
theorem dX0_markTaken_29 : decode cX0_markTaken 29 = .ok (.getfield 13, 3) := by decide +kernel
theorem dX0_markTaken_32 : decode cX0_markTaken 32 = .ok (.iload_n 3, 1) := by decide +kernel
theorem dX0_markTaken_33 : decode cX0_markTaken 33 = .ok (.aaload, 1) := by decide +kernel
theorem dX0_markTaken_34 : decode cX0_markTaken 34 = .ok (.iload_n 1, 1) := by decide +kernel
theorem dX0_markTaken_35 : decode cX0_markTaken 35 = .ok (.iaload, 1) := by decide +kernel
theorem dX0_markTaken_36 : decode cX0_markTaken 36 = .ok (.iconst 1, 1) := by decide +kernel
theorem dX0_markTaken_37 : decode cX0_markTaken 37 = .ok (.bastore, 1) := by decide +kernel
theorem dX0_markTaken_38 : decode cX0_markTaken 38 = .ok (.iinc 3 1, 3) := by decide +kernel
theorem dX0_markTaken_41 : decode cX0_markTaken 41 = .ok (.goto (-26), 3) := by decide +kernel
theorem dX0_markTaken_44 : decode cX0_markTaken 44 = .ok (.return_, 1) := by decide +kernel
theorem dX0_shift_0 : decode cX0_shift 0 = .ok (.aload_n 0, 1) := by decide +kernel
theorem dX0_shift_1 : decode cX0_shift 1 = .ok (.iload_n 1, 1) := by decide +kernel
theorem dX0_shift_2 : decode cX0_shift 2 = .ok (.invokevirtual 41, 3) := by decide +kernel
theorem dX0_shift_5 : decode cX0_shift 5 = .ok (.ifCond .eq 30, 3) := by decide +kernel
theorem dX0_shift_8 : decode cX0_shift 8 = .ok (.aload_n 0, 1) := by decide +kernel
theorem dX0_shift_9 : decode cX0_shift 9 = .ok (.iload_n 1, 1) := by decide +kernel
theorem dX0_shift_10 : decode cX0_shift 10 = .ok (.invokevirtual 37, 3) := by decide +kernel
theorem dX0_shift_13 : decode cX0_shift 13 = .ok (.istore_n 3, 1) := by decide +kernel
theorem dX0_shift_14 : decode cX0_shift 14 = .ok (.aload_n 0, 1) := by decide +kernel
theorem dX0_shift_15 : decode cX0_shift 15 = .ok (.getfield 13, 3) := by decide +kernel
theorem dX0_shift_18 : decode cX0_shift 18 = .ok (.iload_n 3, 1) := by decide +kernel
theorem dX0_shift_19 : decode cX0_shift 19 = .ok (.aaload, 1) := by decide +kernel
theorem dX0_shift_20 : decode cX0_shift 20 = .ok (.iload_n 1, 1) := by decide +kernel
theorem dX0_shift_21 : decode cX0_shift 21 = .ok (.aload_n 0, 1) := by decide +kernel
theorem dX0_shift_22 : decode cX0_shift 22 = .ok (.getfield 33, 3) := by decide +kernel
theorem dX0_shift_25 : decode cX0_shift 25 = .ok (.aload_n 0, 1) := by decide +kernel
theorem dX0_shift_26 : decode cX0_shift 26 = .ok (.getfield 13, 3) := by decide +kernel
theorem dX0_shift_29 : decode cX0_shift 29 = .ok (.iload_n 3, 1) := by decide +kernel
theorem dX0_shift_30 : decode cX0_shift 30 = .ok (.aaload, 1) := by decide +kernel
theorem dX0_shift_31 : decode cX0_shift 31 = .ok (.iload_n 1, 1) := by decide +kernel
theorem dX0_shift_32 : decode cX0_shift 32 = .ok (.iaload, 1) := by decide +kernel
theorem dX0_shift_33 : decode cX0_shift 33 = .ok (.iaload, 1) := by decide +kernel
theorem dX0_shift_34 : decode cX0_shift 34 = .ok (.iastore, 1) := by decide +kernel
theorem dX0_shift_35 : decode cX0_shift 35 = .ok (.iconst 0, 1) := by decide +kernel
theorem dX0_shift_36 : decode cX0_shift 36 = .ok (.istore_n 3, 1) := by decide +kernel
theorem dX0_shift_37 : decode cX0_shift 37 = .ok (.iload_n 3, 1) := by decide +kernel
theorem dX0_shift_38 : decode cX0_shift 38 = .ok (.bipush 6, 2) := by decide +kernel
theorem dX0_shift_40 : decode cX0_shift 40 = .ok (.if_icmp .ge 25, 3) := by decide +kernel
theorem dX0_shift_43 : decode cX0_shift 43 = .ok (.aload_n 0, 1) := by decide +kernel
theorem dX0_shift_44 : decode cX0_shift 44 = .ok (.getfield 13, 3) := by decide +kernel
theorem dX0_shift_47 : decode cX0_shift 47 = .ok (.iload_n 3, 1) := by decide +kernel
theorem dX0_shift_48 : decode cX0_shift 48 = .ok (.aaload, 1) := by decide +kernel
theorem dX0_shift_49 : decode cX0_shift 49 = .ok (.iload_n 2, 1) := by decide +kernel
theorem dX0_shift_50 : decode cX0_shift 50 = .ok (.aload_n 0, 1) := by decide +kernel
theorem dX0_shift_51 : decode cX0_shift 51 = .ok (.getfield 13, 3) := by decide +kernel
theorem dX0_shift_54 : decode cX0_shift 54 = .ok (.iload_n 3, 1) := by decide +kernel
theorem dX0_shift_55 : decode cX0_shift 55 = .ok (.aaload, 1) := by decide +kernel
theorem dX0_shift_56 : decode cX0_shift 56 = .ok (.iload_n 1, 1) := by decide +kernel
theorem dX0_shift_57 : decode cX0_shift 57 = .ok (.iaload, 1) := by decide +kernel
theorem dX0_shift_58 : decode cX0_shift 58 = .ok (.iastore, 1) := by decide +kernel
theorem dX0_shift_59 : decode cX0_shift 59 = .ok (.iinc 3 1, 3) := by decide +kernel
theorem dX0_shift_62 : decode cX0_shift 62 = .ok (.goto (-25), 3) := by decide +kernel
theorem dX0_shift_65 : decode cX0_shift 65 = .ok (.return_, 1) := by decide +kernel
theorem dX1_init_0 : decode cX1_init 0 = .ok (.aload_n 0, 1) := by decide +kernel
theorem dX1_init_1 : decode cX1_init 1 = .ok (.invokespecial 3, 3) := by decide +kernel
theorem dX1_init_4 : decode cX1_init 4 = .ok (.aload_n 0, 1) := by decide +kernel
theorem dX1_init_5 : decode cX1_init 5 = .ok (.sipush 736, 3) := by decide +kernel
theorem dX1_init_8 : decode cX1_init 8 = .ok (.newarray .int, 2) := by decide +kernel
theorem dX1_init_10 : decode cX1_init 10 = .ok (.putfield 9, 3) := by decide +kernel
theorem dX1_init_13 : decode cX1_init 13 = .ok (.aload_n 0, 1) := by decide +kernel
theorem dX1_init_14 : decode cX1_init 14 = .ok (.bipush 32, 2) := by decide +kernel
theorem dX1_init_16 : decode cX1_init 16 = .ok (.newarray .int, 2) := by decide +kernel
theorem dX1_init_18 : decode cX1_init 18 = .ok (.putfield 15, 3) := by decide +kernel
theorem dX1_init_21 : decode cX1_init 21 = .ok (.aload_n 0, 1) := by decide +kernel
theorem dX1_init_22 : decode cX1_init 22 = .ok (.bipush 60, 2) := by decide +kernel
theorem dX1_init_24 : decode cX1_init 24 = .ok (.newarray .int, 2) := by decide +kernel
theorem dX1_init_26 : decode cX1_init 26 = .ok (.putfield 18, 3) := by decide +kernel
theorem dX1_init_29 : decode cX1_init 29 = .ok (.aload_n 0, 1) := by decide +kernel
theorem dX1_init_30 : decode cX1_init 30 = .ok (.iconst 0, 1) := by decide +kernel
theorem dX1_init_31 : decode cX1_init 31 = .ok (.putfield 21, 3) := by decide +kernel
theorem dX1_init_34 : decode cX1_init 34 = .ok (.aload_n 0, 1) := by decide +kernel
theorem dX1_init_35 : decode cX1_init 35 = .ok (.iconst 0, 1) := by decide +kernel
theorem dX1_init_36 : decode cX1_init 36 = .ok (.putfield 25, 3) := by decide +kernel
theorem dX1_init_39 : decode cX1_init 39 = .ok (.aload_n 0, 1) := by decide +kernel
theorem dX1_init_40 : decode cX1_init 40 = .ok (.iconst (-1), 1) := by decide +kernel
theorem dX1_init_41 : decode cX1_init 41 = .ok (.putfield 28, 3) := by decide +kernel
theorem dX1_init_44 : decode cX1_init 44 = .ok (.aload_n 0, 1) := by decide +kernel
theorem dX1_init_45 : decode cX1_init 45 = .ok (.iconst 0, 1) := by decide +kernel
theorem dX1_init_46 : decode cX1_init 46 = .ok (.putfield 31, 3) := by decide +kernel
theorem dX1_init_49 : decode cX1_init 49 = .ok (.return_, 1) := by decide +kernel
theorem dX1_begin_0 : decode cX1_begin 0 = .ok (.aload_n 0, 1) := by decide +kernel
theorem dX1_begin_1 : decode cX1_begin 1 = .ok (.getfield 9, 3) := by decide +kernel
theorem dX1_begin_4 : decode cX1_begin 4 = .ok (.iconst 0, 1) := by decide +kernel
theorem dX1_begin_5 : decode cX1_begin 5 = .ok (.invokestatic 34, 3) := by decide +kernel
theorem dX1_begin_8 : decode cX1_begin 8 = .ok (.aload_n 1, 1) := by decide +kernel
theorem dX1_begin_9 : decode cX1_begin 9 = .ok (.iconst 0, 1) := by decide +kernel
theorem dX1_begin_10 : decode cX1_begin 10 = .ok (.aload_n 0, 1) := by decide +kernel
theorem dX1_begin_11 : decode cX1_begin 11 = .ok (.getfield 9, 3) := by decide +kernel
theorem dX1_begin_14 : decode cX1_begin 14 = .ok (.iconst 0, 1) := by decide +kernel
theorem dX1_begin_15 : decode cX1_begin 15 = .ok (.bipush 16, 2) := by decide +kernel
theorem dX1_begin_17 : decode cX1_begin 17 = .ok (.invokestatic 40, 3) := by decide +kernel
theorem dX1_begin_20 : decode cX1_begin 20 = .ok (.aload_n 2, 1) := by decide +kernel
theorem dX1_begin_21 : decode cX1_begin 21 = .ok (.iconst 0, 1) := by decide +kernel
theorem dX1_begin_22 : decode cX1_begin 22 = .ok (.aload_n 0, 1) := by decide +kernel
theorem dX1_begin_23 : decode cX1_begin 23 = .ok (.getfield 15, 3) := by decide +kernel
theorem dX1_begin_26 : decode cX1_begin 26 = .ok (.iconst 0, 1) := by decide +kernel
theorem dX1_begin_27 : decode cX1_begin 27 = .ok (.bipush 32, 2) := by decide +kernel
theorem dX1_begin_29 : decode cX1_begin 29 = .ok (.invokestatic 40, 3) := by decide +kernel
theorem dX1_begin_32 : decode cX1_begin 32 = .ok (.aload_n 0, 1) := by decide +kernel
theorem dX1_begin_33 : decode cX1_begin 33 = .ok (.iconst 0, 1) := by decide +kernel
theorem dX1_begin_34 : decode cX1_begin 34 = .ok (.putfield 21, 3) := by decide +kernel
theorem dX1_begin_37 : decode cX1_begin 37 = .ok (.aload_n 0, 1) := by decide +kernel
theorem dX1_begin_38 : decode cX1_begin 38 = .ok (.iconst 0, 1) := by decide +kernel
theorem dX1_begin_39 : decode cX1_begin 39 = .ok (.putfield 25, 3) := by decide +kernel
theorem dX1_begin_42 : decode cX1_begin 42 = .ok (.aload_n 0, 1) := by decide +kernel
theorem dX1_begin_43 : decode cX1_begin 43 = .ok (.iconst (-1), 1) := by decide +kernel
theorem dX1_begin_44 : decode cX1_begin 44 = .ok (.putfield 28, 3) := by decide +kernel
theorem dX1_begin_47 : decode cX1_begin 47 = .ok (.aload_n 0, 1) := by decide +kernel
theorem dX1_begin_48 : decode cX1_begin 48 = .ok (.iconst 0, 1) := by decide +kernel
theorem dX1_begin_49 : decode cX1_begin 49 = .ok (.putfield 31, 3) := by decide +kernel
theorem dX1_begin_52 : decode cX1_begin 52 = .ok (.return_, 1) := by decide +kernel
theorem dX1_doText_0 : decode cX1_doText 0 = .ok (.aload_n 0, 1) := by decide +kernel
theorem dX1_doText_1 : decode cX1_doText 1 = .ok (.aload_n 1, 1) := by decide +kernel
theorem dX1_doText_2 : decode cX1_doText 2 = .ok (.iconst 0, 1) := by decide +kernel
theorem dX1_doText_3 : decode cX1_doText 3 = .ok (.aload_n 1, 1) := by decide +kernel
theorem dX1_doText_4 : decode cX1_doText 4 = .ok (.getfield 46, 3) := by decide +kernel
theorem dX1_doText_7 : decode cX1_doText 7 = .ok (.iconst 0, 1) := by decide +kernel
theorem dX1_doText_8 : decode cX1_doText 8 = .ok (.invokevirtual 51, 3) := by decide +kernel
theorem dX1_doText_11 : decode cX1_doText 11 = .ok (.return_, 1) := by decide +kernel
theorem dX1_doRange_0 : decode cX1_doRange 0 = .ok (.iload_n 2, 1) := by decide +kernel
theorem dX1_doRange_1 : decode cX1_doRange 1 = .ok (.istore 5, 2) := by decide +kernel
theorem dX1_doRange_3 : decode cX1_doRange 3 = .ok (.iload 5, 2) := by decide +kernel
theorem dX1_doRange_5 : decode cX1_doRange 5 = .ok (.iload_n 3, 1) := by decide +kernel
theorem dX1_doRange_6 : decode cX1_doRange 6 = .ok (.if_icmp .ge 69, 3) := by decide +kernel
theorem dX1_doRange_9 : decode cX1_doRange 9 = .ok (.aload_n 0, 1) := by decide +kernel
theorem dX1_doRange_10 : decode cX1_doRange 10 = .ok (.getfield 25, 3) := by decide +kernel
theorem dX1_doRange_13 : decode cX1_doRange 13 = .ok (.ifCond .ne 62, 3) := by decide +kernel
theorem dX1_doRange_16 : decode cX1_doRange 16 = .ok (.aload_n 0, 1) := by decide +kernel
theorem dX1_doRange_17 : decode cX1_doRange 17 = .ok (.dup, 1) := by decide +kernel
theorem dX1_doRange_18 : decode cX1_doRange 18 = .ok (.getfield 31, 3) := by decide +kernel
theorem dX1_doRange_21 : decode cX1_doRange 21 = .ok (.iconst 1, 1) := by decide +kernel
theorem dX1_doRange_22 : decode cX1_doRange 22 = .ok (.iadd, 1) := by decide +kernel
theorem dX1_doRange_23 : decode cX1_doRange 23 = .ok (.putfield 31, 3) := by decide +kernel
theorem dX1_doRange_26 : decode cX1_doRange 26 = .ok (.aload_n 1, 1) := by decide +kernel
theorem dX1_doRange_27 : decode cX1_doRange 27 = .ok (.getfield 55, 3) := by decide +kernel
theorem dX1_doRange_30 : decode cX1_doRange 30 = .ok (.iload 5, 2) := by decide +kernel
theorem dX1_doRange_32 : decode cX1_doRange 32 = .ok (.iaload, 1) := by decide +kernel
theorem dX1_doRange_33 : decode cX1_doRange 33 = .ok (.iconst 5, 1) := by decide +kernel
theorem dX1_doRange_34 : decode cX1_doRange 34 = .ok (.if_icmp .ne 15, 3) := by decide +kernel
theorem dX1_doRange_37 : decode cX1_doRange 37 = .ok (.aload_n 0, 1) := by decide +kernel
theorem dX1_doRange_38 : decode cX1_doRange 38 = .ok (.aload_n 1, 1) := by decide +kernel
theorem dX1_doRange_39 : decode cX1_doRange 39 = .ok (.iload 5, 2) := by decide +kernel
theorem dX1_doRange_41 : decode cX1_doRange 41 = .ok (.iload 4, 2) := by decide +kernel
theorem dX1_doRange_43 : decode cX1_doRange 43 = .ok (.invokevirtual 58, 3) := by decide +kernel
theorem dX1_doRange_46 : decode cX1_doRange 46 = .ok (.goto 10, 3) := by decide +kernel
theorem dX1_doRange_49 : decode cX1_doRange 49 = .ok (.aload_n 0, 1) := by decide +kernel
theorem dX1_doRange_50 : decode cX1_doRange 50 = .ok (.aload_n 1, 1) := by decide +kernel
theorem dX1_doRange_51 : decode cX1_doRange 51 = .ok (.iload 5, 2) := by decide +kernel
theorem dX1_doRange_53 : decode cX1_doRange 53 = .ok (.invokevirtual 62, 3) := by decide +kernel
theorem dX1_doRange_56 : decode cX1_doRange 56 = .ok (.iload 5, 2) := by decide +kernel
theorem dX1_doRange_58 : decode cX1_doRange 58 = .ok (.iconst 1, 1) := by decide +kernel
theorem dX1_doRange_59 : decode cX1_doRange 59 = .ok (.iadd, 1) := by decide +kernel
theorem dX1_doRange_60 : decode cX1_doRange 60 = .ok (.aload_n 1, 1) := by decide +kernel
theorem dX1_doRange_61 : decode cX1_doRange 61 = .ok (.getfield 66, 3) := by decide +kernel
theorem dX1_doRange_64 : decode cX1_doRange 64 = .ok (.iload 5, 2) := by decide +kernel
theorem dX1_doRange_66 : decode cX1_doRange 66 = .ok (.iaload, 1) := by decide +kernel
theorem dX1_doRange_67 : decode cX1_doRange 67 = .ok (.invokestatic 69, 3) := by decide +kernel
theorem dX1_doRange_70 : decode cX1_doRange 70 = .ok (.istore 5, 2) := by decide +kernel
theorem dX1_doRange_72 : decode cX1_doRange 72 = .ok (.goto (-69), 3) := by decide +kernel
theorem dX1_doRange_75 : decode cX1_doRange 75 = .ok (.return_, 1) := by decide +kernel
theorem dX1_doBranch_0 : decode cX1_doBranch 0 = .ok (.iload_n 3, 1) := by decide +kernel
theorem dX1_doBranch_1 : decode cX1_doBranch 1 = .ok (.bipush 6, 2) := by decide +kernel
theorem dX1_doBranch_3 : decode cX1_doBranch 3 = .ok (.if_icmp .lt 4, 3) := by decide +kernel
theorem dX1_doBranch_6 : decode cX1_doBranch 6 = .ok (.return_, 1) := by decide +kernel
theorem dX1_doBranch_7 : decode cX1_doBranch 7 = .ok (.aload_n 1, 1) := by decide +kernel
theorem dX1_doBranch_8 : decode cX1_doBranch 8 = .ok (.getfield 75, 3) := by decide +kernel
theorem dX1_doBranch_11 : decode cX1_doBranch 11 = .ok (.iload_n 2, 1) := by decide +kernel
theorem dX1_doBranch_12 : decode cX1_doBranch 12 = .ok (.iaload, 1) := by decide +kernel
theorem dX1_doBranch_13 : decode cX1_doBranch 13 = .ok (.aload_n 0, 1) := by decide +kernel
theorem dX1_doBranch_14 : decode cX1_doBranch 14 = .ok (.aload_n 1, 1) := by decide +kernel
theorem dX1_doBranch_15 : decode cX1_doBranch 15 = .ok (.iconst 2, 1) := by decide +kernel
theorem dX1_doBranch_16 : decode cX1_doBranch 16 = .ok (.iload_n 2, 1) := by decide +kernel
theorem dX1_doBranch_17 : decode cX1_doBranch 17 = .ok (.imul, 1) := by decide +kernel
theorem dX1_doBranch_18 : decode cX1_doBranch 18 = .ok (.invokevirtual 78, 3) := by decide +kernel
theorem dX1_doBranch_21 : decode cX1_doBranch 21 = .ok (.aload_n 0, 1) := by decide +kernel
theorem dX1_doBranch_22 : decode cX1_doBranch 22 = .ok (.aload_n 1, 1) := by decide +kernel
theorem dX1_doBranch_23 : decode cX1_doBranch 23 = .ok (.iconst 2, 1) := by decide +kernel
theorem dX1_doBranch_24 : decode cX1_doBranch 24 = .ok (.iload_n 2, 1) := by decide +kernel
theorem dX1_doBranch_25 : decode cX1_doBranch 25 = .ok (.imul, 1) := by decide +kernel
theorem dX1_doBranch_26 : decode cX1_doBranch 26 = .ok (.iconst 1, 1) := by decide +kernel
theorem dX1_doBranch_27 : decode cX1_doBranch 27 = .ok (.iadd, 1) := by decide +kernel
theorem dX1_doBranch_28 : decode cX1_doBranch 28 = .ok (.invokevirtual 78, 3) := by decide +kernel
theorem dX1_doBranch_31 : decode cX1_doBranch 31 = .ok (.invokestatic 82, 3) := by decide +kernel
theorem dX1_doBranch_34 : decode cX1_doBranch 34 = .ok (.ifCond .eq 23, 3) := by decide +kernel
theorem dX1_doBranch_37 : decode cX1_doBranch 37 = .ok (.aload_n 0, 1) := by decide +kernel
theorem dX1_doBranch_38 : decode cX1_doBranch 38 = .ok (.aload_n 1, 1) := by decide +kernel
theorem dX1_doBranch_39 : decode cX1_doBranch 39 = .ok (.iload_n 2, 1) := by decide +kernel
theorem dX1_doBranch_40 : decode cX1_doBranch 40 = .ok (.iconst 1, 1) := by decide +kernel
theorem dX1_doBranch_41 : decode cX1_doBranch 41 = .ok (.iadd, 1) := by decide +kernel
theorem dX1_doBranch_42 : decode cX1_doBranch 42 = .ok (.aload_n 1, 1) := by decide +kernel
theorem dX1_doBranch_43 : decode cX1_doBranch 43 = .ok (.getfield 86, 3) := by decide +kernel
theorem dX1_doBranch_46 : decode cX1_doBranch 46 = .ok (.iload_n 2, 1) := by decide +kernel
theorem dX1_doBranch_47 : decode cX1_doBranch 47 = .ok (.iaload, 1) := by decide +kernel
theorem dX1_doBranch_48 : decode cX1_doBranch 48 = .ok (.iload_n 3, 1) := by decide +kernel
theorem dX1_doBranch_49 : decode cX1_doBranch 49 = .ok (.iconst 1, 1) := by decide +kernel
theorem dX1_doBranch_50 : decode cX1_doBranch 50 = .ok (.iadd, 1) := by decide +kernel
theorem dX1_doBranch_51 : decode cX1_doBranch 51 = .ok (.invokevirtual 51, 3) := by decide +kernel
theorem dX1_doBranch_54 : decode cX1_doBranch 54 = .ok (.goto 23, 3) := by decide +kernel
theorem dX1_doBranch_57 : decode cX1_doBranch 57 = .ok (.aload_n 0, 1) := by decide +kernel
theorem dX1_doBranch_58 : decode cX1_doBranch 58 = .ok (.aload_n 1, 1) := by decide +kernel
theorem dX1_doBranch_59 : decode cX1_doBranch 59 = .ok (.aload_n 1, 1) := by decide +kernel
theorem dX1_doBranch_60 : decode cX1_doBranch 60 = .ok (.getfield 86, 3) := by decide +kernel
theorem dX1_doBranch_63 : decode cX1_doBranch 63 = .ok (.iload_n 2, 1) := by decide +kernel
theorem dX1_doBranch_64 : decode cX1_doBranch 64 = .ok (.iaload, 1) := by decide +kernel
theorem dX1_doBranch_65 : decode cX1_doBranch 65 = .ok (.aload_n 1, 1) := by decide +kernel
theorem dX1_doBranch_66 : decode cX1_doBranch 66 = .ok (.getfield 66, 3) := by decide +kernel
theorem dX1_doBranch_69 : decode cX1_doBranch 69 = .ok (.iload_n 2, 1) := by decide +kernel
theorem dX1_doBranch_70 : decode cX1_doBranch 70 = .ok (.iaload, 1) := by decide +kernel
theorem dX1_doBranch_71 : decode cX1_doBranch 71 = .ok (.iload_n 3, 1) := by decide +kernel
theorem dX1_doBranch_72 : decode cX1_doBranch 72 = .ok (.iconst 1, 1) := by decide +kernel
theorem dX1_doBranch_73 : decode cX1_doBranch 73 = .ok (.iadd, 1) := by decide +kernel
theorem dX1_doBranch_74 : decode cX1_doBranch 74 = .ok (.invokevirtual 51, 3) := by decide +kernel
theorem dX1_doBranch_77 : decode cX1_doBranch 77 = .ok (.return_, 1) := by decide +kernel
theorem dX1_valueOf_0 : decode cX1_valueOf 0 = .ok (.aload_n 1, 1) := by decide +kernel
theorem dX1_valueOf_1 : decode cX1_valueOf 1 = .ok (.getfield 89, 3) := by decide +kernel
theorem dX1_valueOf_4 : decode cX1_valueOf 4 = .ok (.iload_n 2, 1) := by decide +kernel
theorem dX1_valueOf_5 : decode cX1_valueOf 5 = .ok (.baload, 1) := by decide +kernel
theorem dX1_valueOf_6 : decode cX1_valueOf 6 = .ok (.ifCond .eq 17, 3) := by decide +kernel
theorem dX1_valueOf_9 : decode cX1_valueOf 9 = .ok (.aload_n 0, 1) := by decide +kernel
theorem dX1_valueOf_10 : decode cX1_valueOf 10 = .ok (.getfield 9, 3) := by decide +kernel
theorem dX1_valueOf_13 : decode cX1_valueOf 13 = .ok (.aload_n 1, 1) := by decide +kernel
theorem dX1_valueOf_14 : decode cX1_valueOf 14 = .ok (.getfield 93, 3) := by decide +kernel
theorem dX1_valueOf_17 : decode cX1_valueOf 17 = .ok (.iload_n 2, 1) := by decide +kernel
theorem dX1_valueOf_18 : decode cX1_valueOf 18 = .ok (.iaload, 1) := by decide +kernel
theorem dX1_valueOf_19 : decode cX1_valueOf 19 = .ok (.iaload, 1) := by decide +kernel
theorem dX1_valueOf_20 : decode cX1_valueOf 20 = .ok (.goto 9, 3) := by decide +kernel
theorem dX1_valueOf_23 : decode cX1_valueOf 23 = .ok (.aload_n 1, 1) := by decide +kernel
theorem dX1_valueOf_24 : decode cX1_valueOf 24 = .ok (.getfield 93, 3) := by decide +kernel
theorem dX1_valueOf_27 : decode cX1_valueOf 27 = .ok (.iload_n 2, 1) := by decide +kernel
theorem dX1_valueOf_28 : decode cX1_valueOf 28 = .ok (.iaload, 1) := by decide +kernel
theorem dX1_valueOf_29 : decode cX1_valueOf 29 = .ok (.ireturn, 1) := by decide +kernel
theorem dX1_doSimple_0 : decode cX1_doSimple 0 = .ok (.aload_n 0, 1) := by decide +kernel
theorem dX1_doSimple_1 : decode cX1_doSimple 1 = .ok (.aload_n 1, 1) := by decide +kernel
theorem dX1_doSimple_2 : decode cX1_doSimple 2 = .ok (.iconst 2, 1) := by decide +kernel
theorem dX1_doSimple_3 : decode cX1_doSimple 3 = .ok (.iload_n 2, 1) := by decide +kernel
theorem dX1_doSimple_4 : decode cX1_doSimple 4 = .ok (.imul, 1) := by decide +kernel
theorem dX1_doSimple_5 : decode cX1_doSimple 5 = .ok (.invokevirtual 78, 3) := by decide +kernel
theorem dX1_doSimple_8 : decode cX1_doSimple 8 = .ok (.istore_n 3, 1) := by decide +kernel
theorem dX1_doSimple_9 : decode cX1_doSimple 9 = .ok (.aload_n 1, 1) := by decide +kernel
theorem dX1_doSimple_10 : decode cX1_doSimple 10 = .ok (.getfield 55, 3) := by decide +kernel
theorem dX1_doSimple_13 : decode cX1_doSimple 13 = .ok (.iload_n 2, 1) := by decide +kernel
theorem dX1_doSimple_14 : decode cX1_doSimple 14 = .ok (.iaload, 1) := by decide +kernel
theorem dX1_doSimple_15 : decode cX1_doSimple 15 = .ok (.tableswitch 109 0 3 #[29, 44, 75, 90], 29) := by decide +kernel
theorem dX1_doSimple_44 : decode cX1_doSimple 44 = .ok (.aload_n 0, 1) := by decide +kernel
theorem dX1_doSimple_45 : decode cX1_doSimple 45 = .ok (.getfield 9, 3) := by decide +kernel
theorem dX1_doSimple_48 : decode cX1_doSimple 48 = .ok (.aload_n 1, 1) := by decide +kernel
theorem dX1_doSimple_49 : decode cX1_doSimple 49 = .ok (.getfield 96, 3) := by decide +kernel
theorem dX1_doSimple_52 : decode cX1_doSimple 52 = .ok (.iload_n 2, 1) := by decide +kernel
theorem dX1_doSimple_53 : decode cX1_doSimple 53 = .ok (.iaload, 1) := by decide +kernel
theorem dX1_doSimple_54 : decode cX1_doSimple 54 = .ok (.iload_n 3, 1) := by decide +kernel
theorem dX1_doSimple_55 : decode cX1_doSimple 55 = .ok (.iastore, 1) := by decide +kernel
theorem dX1_doSimple_56 : decode cX1_doSimple 56 = .ok (.goto 73, 3) := by decide +kernel
theorem dX1_doSimple_59 : decode cX1_doSimple 59 = .ok (.aload_n 0, 1) := by decide +kernel
theorem dX1_doSimple_60 : decode cX1_doSimple 60 = .ok (.aload_n 1, 1) := by decide +kernel
theorem dX1_doSimple_61 : decode cX1_doSimple 61 = .ok (.getfield 75, 3) := by decide +kernel
theorem dX1_doSimple_64 : decode cX1_doSimple 64 = .ok (.iload_n 2, 1) := by decide +kernel
theorem dX1_doSimple_65 : decode cX1_doSimple 65 = .ok (.iaload, 1) := by decide +kernel
theorem dX1_doSimple_66 : decode cX1_doSimple 66 = .ok (.aload_n 1, 1) := by decide +kernel
theorem dX1_doSimple_67 : decode cX1_doSimple 67 = .ok (.getfield 96, 3) := by decide +kernel
theorem dX1_doSimple_70 : decode cX1_doSimple 70 = .ok (.iload_n 2, 1) := by decide +kernel
theorem dX1_doSimple_71 : decode cX1_doSimple 71 = .ok (.iaload, 1) := by decide +kernel
theorem dX1_doSimple_72 : decode cX1_doSimple 72 = .ok (.iload_n 3, 1) := by decide +kernel
theorem dX1_doSimple_73 : decode cX1_doSimple 73 = .ok (.aload_n 0, 1) := by decide +kernel
theorem dX1_doSimple_74 : decode cX1_doSimple 74 = .ok (.aload_n 1, 1) := by decide +kernel
theorem dX1_doSimple_75 : decode cX1_doSimple 75 = .ok (.iconst 2, 1) := by decide +kernel
theorem dX1_doSimple_76 : decode cX1_doSimple 76 = .ok (.iload_n 2, 1) := by decide +kernel
theorem dX1_doSimple_77 : decode cX1_doSimple 77 = .ok (.imul, 1) := by decide +kernel
theorem dX1_doSimple_78 : decode cX1_doSimple 78 = .ok (.iconst 1, 1) := by decide +kernel
theorem dX1_doSimple_79 : decode cX1_doSimple 79 = .ok (.iadd, 1) := by decide +kernel
theorem dX1_doSimple_80 : decode cX1_doSimple 80 = .ok (.invokevirtual 78, 3) := by decide +kernel
theorem dX1_doSimple_83 : decode cX1_doSimple 83 = .ok (.iload_n 2, 1) := by decide +kernel
theorem dX1_doSimple_84 : decode cX1_doSimple 84 = .ok (.invokevirtual 99, 3) := by decide +kernel
theorem dX1_doSimple_87 : decode cX1_doSimple 87 = .ok (.goto 42, 3) := by decide +kernel
theorem dX1_doSimple_90 : decode cX1_doSimple 90 = .ok (.aload_n 0, 1) := by decide +kernel
theorem dX1_doSimple_91 : decode cX1_doSimple 91 = .ok (.aload_n 1, 1) := by decide +kernel
theorem dX1_doSimple_92 : decode cX1_doSimple 92 = .ok (.getfield 96, 3) := by decide +kernel
theorem dX1_doSimple_95 : decode cX1_doSimple 95 = .ok (.iload_n 2, 1) := by decide +kernel
theorem dX1_doSimple_96 : decode cX1_doSimple 96 = .ok (.iaload, 1) := by decide +kernel
theorem dX1_doSimple_97 : decode cX1_doSimple 97 = .ok (.iload_n 3, 1) := by decide +kernel
theorem dX1_doSimple_98 : decode cX1_doSimple 98 = .ok (.iload_n 2, 1) := by decide +kernel
theorem dX1_doSimple_99 : decode cX1_doSimple 99 = .ok (.invokevirtual 103, 3) := by decide +kernel
theorem dX1_doSimple_102 : decode cX1_doSimple 102 = .ok (.goto 27, 3) := by decide +kernel
theorem dX1_doSimple_105 : decode cX1_doSimple 105 = .ok (.aload_n 0, 1) := by decide +kernel
theorem dX1_doSimple_106 : decode cX1_doSimple 106 = .ok (.iload_n 3, 1) := by decide +kernel
theorem dX1_doSimple_107 : decode cX1_doSimple 107 = .ok (.aload_n 0, 1) := by decide +kernel
theorem dX1_doSimple_108 : decode cX1_doSimple 108 = .ok (.aload_n 1, 1) := by decide +kernel
theorem dX1_doSimple_109 : decode cX1_doSimple 109 = .ok (.iconst 2, 1) := by decide +kernel
theorem dX1_doSimple_110 : decode cX1_doSimple 110 = .ok (.iload_n 2, 1) := by decide +kernel
theorem dX1_doSimple_111 : decode cX1_doSimple 111 = .ok (.imul, 1) := by decide +kernel
theorem dX1_doSimple_112 : decode cX1_doSimple 112 = .ok (.iconst 1, 1) := by decide +kernel
theorem dX1_doSimple_113 : decode cX1_doSimple 113 = .ok (.iadd, 1) := by decide +kernel
theorem dX1_doSimple_114 : decode cX1_doSimple 114 = .ok (.invokevirtual 78, 3) := by decide +kernel
theorem dX1_doSimple_117 : decode cX1_doSimple 117 = .ok (.iload_n 2, 1) := by decide +kernel
theorem dX1_doSimple_118 : decode cX1_doSimple 118 = .ok (.invokevirtual 107, 3) := by decide +kernel
theorem dX1_doSimple_121 : decode cX1_doSimple 121 = .ok (.goto 8, 3) := by decide +kernel
theorem dX1_doSimple_124 : decode cX1_doSimple 124 = .ok (.aload_n 0, 1) := by decide +kernel
theorem dX1_doSimple_125 : decode cX1_doSimple 125 = .ok (.iload_n 3, 1) := by decide +kernel
theorem dX1_doSimple_126 : decode cX1_doSimple 126 = .ok (.invokevirtual 110, 3) := by decide +kernel
theorem dX1_doSimple_129 : decode cX1_doSimple 129 = .ok (.return_, 1) := by decide +kernel
theorem dX1_doCode_0 : decode cX1_doCode 0 = .ok (.iconst 0, 1) := by decide +kernel
theorem dX1_doCode_1 : decode cX1_doCode 1 = .ok (.istore_n 2, 1) := by decide +kernel
theorem dX1_doCode_2 : decode cX1_doCode 2 = .ok (.iconst 0, 1) := by decide +kernel
theorem dX1_doCode_3 : decode cX1_doCode 3 = .ok (.istore_n 3, 1) := by decide +kernel
theorem dX1_doCode_4 : decode cX1_doCode 4 = .ok (.iload_n 3, 1) := by decide +kernel
theorem dX1_doCode_5 : decode cX1_doCode 5 = .ok (.aload_n 1, 1) := by decide +kernel
theorem dX1_doCode_6 : decode cX1_doCode 6 = .ok (.getfield 114, 3) := by decide +kernel
theorem dX1_doCode_9 : decode cX1_doCode 9 = .ok (.if_icmp .ge 44, 3) := by decide +kernel
theorem dX1_doCode_12 : decode cX1_doCode 12 = .ok (.aload_n 0, 1) := by decide +kernel
theorem dX1_doCode_13 : decode cX1_doCode 13 = .ok (.getfield 25, 3) := by decide +kernel
theorem dX1_doCode_16 : decode cX1_doCode 16 = .ok (.ifCond .ne 37, 3) := by decide +kernel
theorem dX1_doCode_19 : decode cX1_doCode 19 = .ok (.aload_n 0, 1) := by decide +kernel
theorem dX1_doCode_20 : decode cX1_doCode 20 = .ok (.dup, 1) := by decide +kernel
theorem dX1_doCode_21 : decode cX1_doCode 21 = .ok (.getfield 31, 3) := by decide +kernel
theorem dX1_doCode_24 : decode cX1_doCode 24 = .ok (.iconst 1, 1) := by decide +kernel
theorem dX1_doCode_25 : decode cX1_doCode 25 = .ok (.iadd, 1) := by decide +kernel
theorem dX1_doCode_26 : decode cX1_doCode 26 = .ok (.putfield 31, 3) := by decide +kernel
theorem dX1_doCode_29 : decode cX1_doCode 29 = .ok (.aload_n 0, 1) := by decide +kernel
theorem dX1_doCode_30 : decode cX1_doCode 30 = .ok (.aload_n 1, 1) := by decide +kernel
theorem dX1_doCode_31 : decode cX1_doCode 31 = .ok (.iload_n 3, 1) := by decide +kernel
theorem dX1_doCode_32 : decode cX1_doCode 32 = .ok (.invokevirtual 119, 3) := by decide +kernel
theorem dX1_doCode_35 : decode cX1_doCode 35 = .ok (.istore_n 2, 1) := by decide +kernel
theorem dX1_doCode_36 : decode cX1_doCode 36 = .ok (.aload_n 0, 1) := by decide +kernel
theorem dX1_doCode_37 : decode cX1_doCode 37 = .ok (.aload_n 1, 1) := by decide +kernel
theorem dX1_doCode_38 : decode cX1_doCode 38 = .ok (.iload_n 3, 1) := by decide +kernel
theorem dX1_doCode_39 : decode cX1_doCode 39 = .ok (.invokevirtual 123, 3) := by decide +kernel
theorem dX1_doCode_42 : decode cX1_doCode 42 = .ok (.iload_n 3, 1) := by decide +kernel
theorem dX1_doCode_43 : decode cX1_doCode 43 = .ok (.iconst 1, 1) := by decide +kernel
theorem dX1_doCode_44 : decode cX1_doCode 44 = .ok (.iadd, 1) := by decide +kernel
theorem dX1_doCode_45 : decode cX1_doCode 45 = .ok (.iload_n 2, 1) := by decide +kernel
theorem dX1_doCode_46 : decode cX1_doCode 46 = .ok (.invokestatic 69, 3) := by decide +kernel
theorem dX1_doCode_49 : decode cX1_doCode 49 = .ok (.istore_n 3, 1) := by decide +kernel
theorem dX1_doCode_50 : decode cX1_doCode 50 = .ok (.goto (-46), 3) := by decide +kernel
theorem dX1_doCode_53 : decode cX1_doCode 53 = .ok (.return_, 1) := by decide +kernel
theorem dX1_nextBehind_0 : decode cX1_nextBehind 0 = .ok (.aload_n 1, 1) := by decide +kernel
theorem dX1_nextBehind_1 : decode cX1_nextBehind 1 = .ok (.getfield 127, 3) := by decide +kernel
theorem dX1_nextBehind_4 : decode cX1_nextBehind 4 = .ok (.iconst 0, 1) := by decide +kernel
theorem dX1_nextBehind_5 : decode cX1_nextBehind 5 = .ok (.aaload, 1) := by decide +kernel
theorem dX1_nextBehind_6 : decode cX1_nextBehind 6 = .ok (.iload_n 2, 1) := by decide +kernel
theorem dX1_nextBehind_7 : decode cX1_nextBehind 7 = .ok (.iaload, 1) := by decide +kernel
theorem dX1_nextBehind_8 : decode cX1_nextBehind 8 = .ok (.bipush 16, 2) := by decide +kernel
theorem dX1_nextBehind_10 : decode cX1_nextBehind 10 = .ok (.if_icmp .ne 12, 3) := by decide +kernel
theorem dX1_nextBehind_13 : decode cX1_nextBehind 13 = .ok (.aload_n 1, 1) := by decide +kernel
theorem dX1_nextBehind_14 : decode cX1_nextBehind 14 = .ok (.getfield 127, 3) := by decide +kernel
theorem dX1_nextBehind_17 : decode cX1_nextBehind 17 = .ok (.iconst 1, 1) := by decide +kernel
theorem dX1_nextBehind_18 : decode cX1_nextBehind 18 = .ok (.aaload, 1) := by decide +kernel
theorem dX1_nextBehind_19 : decode cX1_nextBehind 19 = .ok (.iload_n 2, 1) := by decide +kernel
theorem dX1_nextBehind_20 : decode cX1_nextBehind 20 = .ok (.iaload, 1) := by decide +kernel
theorem dX1_nextBehind_21 : decode cX1_nextBehind 21 = .ok (.ireturn, 1) := by decide +kernel
theorem dX1_nextBehind_22 : decode cX1_nextBehind 22 = .ok (.aload_n 1, 1) := by decide +kernel
theorem dX1_nextBehind_23 : decode cX1_nextBehind 23 = .ok (.getfield 127, 3) := by decide +kernel
theorem dX1_nextBehind_26 : decode cX1_nextBehind 26 = .ok (.iconst 0, 1) := by decide +kernel
theorem dX1_nextBehind_27 : decode cX1_nextBehind 27 = .ok (.aaload, 1) := by decide +kernel
theorem dX1_nextBehind_28 : decode cX1_nextBehind 28 = .ok (.iload_n 2, 1) := by decide +kernel
theorem dX1_nextBehind_29 : decode cX1_nextBehind 29 = .ok (.iaload, 1) := by decide +kernel
theorem dX1_nextBehind_30 : decode cX1_nextBehind 30 = .ok (.bipush 17, 2) := by decide +kernel
theorem dX1_nextBehind_32 : decode cX1_nextBehind 32 = .ok (.if_icmp .ne 23, 3) := by decide +kernel
theorem dX1_nextBehind_35 : decode cX1_nextBehind 35 = .ok (.aload_n 0, 1) := by decide +kernel
theorem dX1_nextBehind_36 : decode cX1_nextBehind 36 = .ok (.getfield 9, 3) := by decide +kernel
theorem dX1_nextBehind_39 : decode cX1_nextBehind 39 = .ok (.aload_n 1, 1) := by decide +kernel
theorem dX1_nextBehind_40 : decode cX1_nextBehind 40 = .ok (.getfield 127, 3) := by decide +kernel
theorem dX1_nextBehind_43 : decode cX1_nextBehind 43 = .ok (.iconst 1, 1) := by decide +kernel
theorem dX1_nextBehind_44 : decode cX1_nextBehind 44 = .ok (.aaload, 1) := by decide +kernel
theorem dX1_nextBehind_45 : decode cX1_nextBehind 45 = .ok (.iload_n 2, 1) := by decide +kernel
theorem dX1_nextBehind_46 : decode cX1_nextBehind 46 = .ok (.iaload, 1) := by decide +kernel
theorem dX1_nextBehind_47 : decode cX1_nextBehind 47 = .ok (.iaload, 1) := by decide +kernel
theorem dX1_nextBehind_48 : decode cX1_nextBehind 48 = .ok (.ifCond .ne 7, 3) := by decide +kernel
theorem dX1_nextBehind_51 : decode cX1_nextBehind 51 = .ok (.iconst 1, 1) := by decide +kernel
theorem dX1_nextBehind_52 : decode cX1_nextBehind 52 = .ok (.goto 4, 3) := by decide +kernel
theorem dX1_nextBehind_55 : decode cX1_nextBehind 55 = .ok (.iconst 0, 1) := by decide +kernel
theorem dX1_nextBehind_56 : decode cX1_nextBehind 56 = .ok (.istore_n 3, 1) := by decide +kernel
theorem dX1_nextBehind_57 : decode cX1_nextBehind 57 = .ok (.iload_n 3, 1) := by decide +kernel
theorem dX1_nextBehind_58 : decode cX1_nextBehind 58 = .ok (.ifCond .eq 14, 3) := by decide +kernel
theorem dX1_nextBehind_61 : decode cX1_nextBehind 61 = .ok (.aload_n 1, 1) := by decide +kernel
theorem dX1_nextBehind_62 : decode cX1_nextBehind 62 = .ok (.getfield 127, 3) := by decide +kernel
theorem dX1_nextBehind_65 : decode cX1_nextBehind 65 = .ok (.iconst 2, 1) := by decide +kernel
theorem dX1_nextBehind_66 : decode cX1_nextBehind 66 = .ok (.aaload, 1) := by decide +kernel
theorem dX1_nextBehind_67 : decode cX1_nextBehind 67 = .ok (.iload_n 2, 1) := by decide +kernel
theorem dX1_nextBehind_68 : decode cX1_nextBehind 68 = .ok (.iaload, 1) := by decide +kernel
theorem dX1_nextBehind_69 : decode cX1_nextBehind 69 = .ok (.goto 6, 3) := by decide +kernel
theorem dX1_nextBehind_72 : decode cX1_nextBehind 72 = .ok (.iload_n 2, 1) := by decide +kernel
theorem dX1_nextBehind_73 : decode cX1_nextBehind 73 = .ok (.iconst 1, 1) := by decide +kernel
theorem dX1_nextBehind_74 : decode cX1_nextBehind 74 = .ok (.iadd, 1) := by decide +kernel
theorem dX1_nextBehind_75 : decode cX1_nextBehind 75 = .ok (.ireturn, 1) := by decide +kernel
theorem dX1_doStep_0 : decode cX1_doStep 0 = .ok (.aload_n 1, 1) := by decide +kernel
theorem dX1_doStep_1 : decode cX1_doStep 1 = .ok (.getfield 127, 3) := by decide +kernel
theorem dX1_doStep_4 : decode cX1_doStep 4 = .ok (.iconst 0, 1) := by decide +kernel
theorem dX1_doStep_5 : decode cX1_doStep 5 = .ok (.aaload, 1) := by decide +kernel
theorem dX1_doStep_6 : decode cX1_doStep 6 = .ok (.iload_n 2, 1) := by decide +kernel
theorem dX1_doStep_7 : decode cX1_doStep 7 = .ok (.iaload, 1) := by decide +kernel
theorem dX1_doStep_8 : decode cX1_doStep 8 = .ok (.istore_n 3, 1) := by decide +kernel
theorem dX1_doStep_9 : decode cX1_doStep 9 = .ok (.aload_n 1, 1) := by decide +kernel
theorem dX1_doStep_10 : decode cX1_doStep 10 = .ok (.getfield 127, 3) := by decide +kernel
theorem dX1_doStep_13 : decode cX1_doStep 13 = .ok (.iconst 1, 1) := by decide +kernel
theorem dX1_doStep_14 : decode cX1_doStep 14 = .ok (.aaload, 1) := by decide +kernel
theorem dX1_doStep_15 : decode cX1_doStep 15 = .ok (.iload_n 2, 1) := by decide +kernel
theorem dX1_doStep_16 : decode cX1_doStep 16 = .ok (.iaload, 1) := by decide +kernel
theorem dX1_doStep_17 : decode cX1_doStep 17 = .ok (.istore 4, 2) := by decide +kernel
theorem dX1_doStep_19 : decode cX1_doStep 19 = .ok (.aload_n 1, 1) := by decide +kernel
theorem dX1_doStep_20 : decode cX1_doStep 20 = .ok (.getfield 127, 3) := by decide +kernel
theorem dX1_doStep_23 : decode cX1_doStep 23 = .ok (.iconst 2, 1) := by decide +kernel
theorem dX1_doStep_24 : decode cX1_doStep 24 = .ok (.aaload, 1) := by decide +kernel
theorem dX1_doStep_25 : decode cX1_doStep 25 = .ok (.iload_n 2, 1) := by decide +kernel
theorem dX1_doStep_26 : decode cX1_doStep 26 = .ok (.iaload, 1) := by decide +kernel
theorem dX1_doStep_27 : decode cX1_doStep 27 = .ok (.istore 5, 2) := by decide +kernel
theorem dX1_doStep_29 : decode cX1_doStep 29 = .ok (.aload_n 1, 1) := by decide +kernel
theorem dX1_doStep_30 : decode cX1_doStep 30 = .ok (.getfield 127, 3) := by decide +kernel
theorem dX1_doStep_33 : decode cX1_doStep 33 = .ok (.iconst 5, 1) := by decide +kernel
theorem dX1_doStep_34 : decode cX1_doStep 34 = .ok (.aaload, 1) := by decide +kernel
theorem dX1_doStep_35 : decode cX1_doStep 35 = .ok (.iload_n 2, 1) := by decide +kernel
theorem dX1_doStep_36 : decode cX1_doStep 36 = .ok (.iaload, 1) := by decide +kernel
theorem dX1_doStep_37 : decode cX1_doStep 37 = .ok (.istore 6, 2) := by decide +kernel
theorem dX1_doStep_39 : decode cX1_doStep 39 = .ok (.iload_n 3, 1) := by decide +kernel
theorem dX1_doStep_40 : decode cX1_doStep 40 = .ok (.tableswitch 223 0 18 #[92, 104, 223, 223, 223, 223, 223, 223, 223, 223, 223, 223, 223, 121, 165, 183, 206, 206, 209], 92) := by decide +kernel
theorem dX1_doStep_132 : decode cX1_doStep 132 = .ok (.aload_n 0, 1) := by decide +kernel
theorem dX1_doStep_133 : decode cX1_doStep 133 = .ok (.getfield 9, 3) := by decide +kernel
theorem dX1_doStep_136 : decode cX1_doStep 136 = .ok (.iload 4, 2) := by decide +kernel
theorem dX1_doStep_138 : decode cX1_doStep 138 = .ok (.iload 5, 2) := by decide +kernel
theorem dX1_doStep_140 : decode cX1_doStep 140 = .ok (.iastore, 1) := by decide +kernel
theorem dX1_doStep_141 : decode cX1_doStep 141 = .ok (.goto 151, 3) := by decide +kernel
theorem dX1_doStep_144 : decode cX1_doStep 144 = .ok (.aload_n 0, 1) := by decide +kernel
theorem dX1_doStep_145 : decode cX1_doStep 145 = .ok (.getfield 9, 3) := by decide +kernel
theorem dX1_doStep_148 : decode cX1_doStep 148 = .ok (.iload 4, 2) := by decide +kernel
theorem dX1_doStep_150 : decode cX1_doStep 150 = .ok (.aload_n 0, 1) := by decide +kernel
theorem dX1_doStep_151 : decode cX1_doStep 151 = .ok (.getfield 9, 3) := by decide +kernel
theorem dX1_doStep_154 : decode cX1_doStep 154 = .ok (.iload 5, 2) := by decide +kernel
theorem dX1_doStep_156 : decode cX1_doStep 156 = .ok (.iaload, 1) := by decide +kernel
theorem dX1_doStep_157 : decode cX1_doStep 157 = .ok (.iastore, 1) := by decide +kernel
theorem dX1_doStep_158 : decode cX1_doStep 158 = .ok (.goto 134, 3) := by decide +kernel
theorem dX1_doStep_161 : decode cX1_doStep 161 = .ok (.aload_n 0, 1) := by decide +kernel
theorem dX1_doStep_162 : decode cX1_doStep 162 = .ok (.getfield 9, 3) := by decide +kernel
theorem dX1_doStep_165 : decode cX1_doStep 165 = .ok (.iload 4, 2) := by decide +kernel
theorem dX1_doStep_167 : decode cX1_doStep 167 = .ok (.aload_n 0, 1) := by decide +kernel
theorem dX1_doStep_168 : decode cX1_doStep 168 = .ok (.getfield 9, 3) := by decide +kernel
theorem dX1_doStep_171 : decode cX1_doStep 171 = .ok (.aload_n 0, 1) := by decide +kernel
theorem dX1_doStep_172 : decode cX1_doStep 172 = .ok (.getfield 9, 3) := by decide +kernel
theorem dX1_doStep_175 : decode cX1_doStep 175 = .ok (.iload 5, 2) := by decide +kernel
theorem dX1_doStep_177 : decode cX1_doStep 177 = .ok (.iaload, 1) := by decide +kernel
theorem dX1_doStep_178 : decode cX1_doStep 178 = .ok (.ifCond .eq 14, 3) := by decide +kernel
theorem dX1_doStep_181 : decode cX1_doStep 181 = .ok (.aload_n 1, 1) := by decide +kernel
theorem dX1_doStep_182 : decode cX1_doStep 182 = .ok (.getfield 127, 3) := by decide +kernel
theorem dX1_doStep_185 : decode cX1_doStep 185 = .ok (.iconst 3, 1) := by decide +kernel
theorem dX1_doStep_186 : decode cX1_doStep 186 = .ok (.aaload, 1) := by decide +kernel
theorem dX1_doStep_187 : decode cX1_doStep 187 = .ok (.iload_n 2, 1) := by decide +kernel
theorem dX1_doStep_188 : decode cX1_doStep 188 = .ok (.iaload, 1) := by decide +kernel
theorem dX1_doStep_189 : decode cX1_doStep 189 = .ok (.goto 11, 3) := by decide +kernel
theorem dX1_doStep_192 : decode cX1_doStep 192 = .ok (.aload_n 1, 1) := by decide +kernel
theorem dX1_doStep_193 : decode cX1_doStep 193 = .ok (.getfield 127, 3) := by decide +kernel
theorem dX1_doStep_196 : decode cX1_doStep 196 = .ok (.iconst 4, 1) := by decide +kernel
theorem dX1_doStep_197 : decode cX1_doStep 197 = .ok (.aaload, 1) := by decide +kernel
theorem dX1_doStep_198 : decode cX1_doStep 198 = .ok (.iload_n 2, 1) := by decide +kernel
theorem dX1_doStep_199 : decode cX1_doStep 199 = .ok (.iaload, 1) := by decide +kernel
theorem dX1_doStep_200 : decode cX1_doStep 200 = .ok (.iaload, 1) := by decide +kernel
theorem dX1_doStep_201 : decode cX1_doStep 201 = .ok (.iastore, 1) := by decide +kernel
theorem dX1_doStep_202 : decode cX1_doStep 202 = .ok (.goto 90, 3) := by decide +kernel
theorem dX1_doStep_205 : decode cX1_doStep 205 = .ok (.aload_n 0, 1) := by decide +kernel
theorem dX1_doStep_206 : decode cX1_doStep 206 = .ok (.iload 4, 2) := by decide +kernel
theorem dX1_doStep_208 : decode cX1_doStep 208 = .ok (.aload_n 0, 1) := by decide +kernel
theorem dX1_doStep_209 : decode cX1_doStep 209 = .ok (.getfield 9, 3) := by decide +kernel
theorem dX1_doStep_212 : decode cX1_doStep 212 = .ok (.iload 5, 2) := by decide +kernel
theorem dX1_doStep_214 : decode cX1_doStep 214 = .ok (.iaload, 1) := by decide +kernel
theorem dX1_doStep_215 : decode cX1_doStep 215 = .ok (.iload 6, 2) := by decide +kernel
theorem dX1_doStep_217 : decode cX1_doStep 217 = .ok (.invokevirtual 103, 3) := by decide +kernel
theorem dX1_doStep_220 : decode cX1_doStep 220 = .ok (.goto 72, 3) := by decide +kernel
theorem dX1_doStep_223 : decode cX1_doStep 223 = .ok (.aload_n 0, 1) := by decide +kernel
theorem dX1_doStep_224 : decode cX1_doStep 224 = .ok (.aload_n 0, 1) := by decide +kernel
theorem dX1_doStep_225 : decode cX1_doStep 225 = .ok (.getfield 9, 3) := by decide +kernel
theorem dX1_doStep_228 : decode cX1_doStep 228 = .ok (.iload 4, 2) := by decide +kernel
theorem dX1_doStep_230 : decode cX1_doStep 230 = .ok (.iaload, 1) := by decide +kernel
theorem dX1_doStep_231 : decode cX1_doStep 231 = .ok (.aload_n 0, 1) := by decide +kernel
theorem dX1_doStep_232 : decode cX1_doStep 232 = .ok (.getfield 9, 3) := by decide +kernel
theorem dX1_doStep_235 : decode cX1_doStep 235 = .ok (.iload 5, 2) := by decide +kernel
theorem dX1_doStep_237 : decode cX1_doStep 237 = .ok (.iaload, 1) := by decide +kernel
theorem dX1_doStep_238 : decode cX1_doStep 238 = .ok (.iload 6, 2) := by decide +kernel
theorem dX1_doStep_240 : decode cX1_doStep 240 = .ok (.invokevirtual 107, 3) := by decide +kernel
theorem dX1_doStep_243 : decode cX1_doStep 243 = .ok (.goto 49, 3) := by decide +kernel
theorem dX1_doStep_246 : decode cX1_doStep 246 = .ok (.goto 46, 3) := by decide +kernel
theorem dX1_doStep_249 : decode cX1_doStep 249 = .ok (.aload_n 0, 1) := by decide +kernel
theorem dX1_doStep_250 : decode cX1_doStep 250 = .ok (.aload_n 0, 1) := by decide +kernel
theorem dX1_doStep_251 : decode cX1_doStep 251 = .ok (.getfield 9, 3) := by decide +kernel
theorem dX1_doStep_254 : decode cX1_doStep 254 = .ok (.iload 4, 2) := by decide +kernel
theorem dX1_doStep_256 : decode cX1_doStep 256 = .ok (.iaload, 1) := by decide +kernel
theorem dX1_doStep_257 : decode cX1_doStep 257 = .ok (.invokevirtual 110, 3) := by decide +kernel
theorem dX1_doStep_260 : decode cX1_doStep 260 = .ok (.goto 32, 3) := by decide +kernel
theorem dX1_doStep_263 : decode cX1_doStep 263 = .ok (.aload_n 0, 1) := by decide +kernel
theorem dX1_doStep_264 : decode cX1_doStep 264 = .ok (.iload_n 3, 1) := by decide +kernel
theorem dX1_doStep_265 : decode cX1_doStep 265 = .ok (.iload 4, 2) := by decide +kernel
theorem dX1_doStep_267 : decode cX1_doStep 267 = .ok (.aload_n 0, 1) := by decide +kernel
theorem dX1_doStep_268 : decode cX1_doStep 268 = .ok (.getfield 9, 3) := by decide +kernel
theorem dX1_doStep_271 : decode cX1_doStep 271 = .ok (.iload 5, 2) := by decide +kernel
theorem dX1_doStep_273 : decode cX1_doStep 273 = .ok (.iaload, 1) := by decide +kernel
theorem dX1_doStep_274 : decode cX1_doStep 274 = .ok (.aload_n 0, 1) := by decide +kernel
theorem dX1_doStep_275 : decode cX1_doStep 275 = .ok (.getfield 9, 3) := by decide +kernel
theorem dX1_doStep_278 : decode cX1_doStep 278 = .ok (.aload_n 1, 1) := by decide +kernel
theorem dX1_doStep_279 : decode cX1_doStep 279 = .ok (.getfield 127, 3) := by decide +kernel
theorem dX1_doStep_282 : decode cX1_doStep 282 = .ok (.iconst 3, 1) := by decide +kernel
theorem dX1_doStep_283 : decode cX1_doStep 283 = .ok (.aaload, 1) := by decide +kernel
theorem dX1_doStep_284 : decode cX1_doStep 284 = .ok (.iload_n 2, 1) := by decide +kernel
theorem dX1_doStep_285 : decode cX1_doStep 285 = .ok (.iaload, 1) := by decide +kernel
theorem dX1_doStep_286 : decode cX1_doStep 286 = .ok (.iaload, 1) := by decide +kernel
theorem dX1_doStep_287 : decode cX1_doStep 287 = .ok (.iload 6, 2) := by decide +kernel
theorem dX1_doStep_289 : decode cX1_doStep 289 = .ok (.invokevirtual 99, 3) := by decide +kernel
theorem dX1_doStep_292 : decode cX1_doStep 292 = .ok (.return_, 1) := by decide +kernel
theorem dX1_reach_0 : decode cX1_reach 0 = .ok (.iload_n 1, 1) := by decide +kernel
theorem dX1_reach_1 : decode cX1_reach 1 = .ok (.invokestatic 131, 3) := by decide +kernel
theorem dX1_reach_4 : decode cX1_reach 4 = .ok (.ifCond .eq 18, 3) := by decide +kernel
theorem dX1_reach_7 : decode cX1_reach 7 = .ok (.iload 4, 2) := by decide +kernel
theorem dX1_reach_9 : decode cX1_reach 9 = .ok (.ifCond .ne 13, 3) := by decide +kernel
theorem dX1_reach_12 : decode cX1_reach 12 = .ok (.aload_n 0, 1) := by decide +kernel
theorem dX1_reach_13 : decode cX1_reach 13 = .ok (.iconst 1, 1) := by decide +kernel
theorem dX1_reach_14 : decode cX1_reach 14 = .ok (.iload 5, 2) := by decide +kernel
theorem dX1_reach_16 : decode cX1_reach 16 = .ok (.invokevirtual 135, 3) := by decide +kernel
theorem dX1_reach_19 : decode cX1_reach 19 = .ok (.goto 16, 3) := by decide +kernel
theorem dX1_reach_22 : decode cX1_reach 22 = .ok (.aload_n 0, 1) := by decide +kernel
theorem dX1_reach_23 : decode cX1_reach 23 = .ok (.getfield 9, 3) := by decide +kernel
theorem dX1_reach_26 : decode cX1_reach 26 = .ok (.iload_n 2, 1) := by decide +kernel
theorem dX1_reach_27 : decode cX1_reach 27 = .ok (.iload_n 1, 1) := by decide +kernel
theorem dX1_reach_28 : decode cX1_reach 28 = .ok (.iload_n 3, 1) := by decide +kernel
theorem dX1_reach_29 : decode cX1_reach 29 = .ok (.iload 4, 2) := by decide +kernel
theorem dX1_reach_31 : decode cX1_reach 31 = .ok (.invokestatic 82, 3) := by decide +kernel
theorem dX1_reach_34 : decode cX1_reach 34 = .ok (.iastore, 1) := by decide +kernel
theorem dX1_reach_35 : decode cX1_reach 35 = .ok (.return_, 1) := by decide +kernel
theorem dX1_load_0 : decode cX1_load 0 = .ok (.iload_n 2, 1) := by decide +kernel
theorem dX1_load_1 : decode cX1_load 1 = .ok (.invokestatic 138, 3) := by decide +kernel
theorem dX1_load_4 : decode cX1_load 4 = .ok (.ifCond .eq 18, 3) := by decide +kernel
theorem dX1_load_7 : decode cX1_load 7 = .ok (.aload_n 0, 1) := by decide +kernel
theorem dX1_load_8 : decode cX1_load 8 = .ok (.getfield 9, 3) := by decide +kernel
theorem dX1_load_11 : decode cX1_load 11 = .ok (.iload_n 1, 1) := by decide +kernel
theorem dX1_load_12 : decode cX1_load 12 = .ok (.aload_n 0, 1) := by decide +kernel
theorem dX1_load_13 : decode cX1_load 13 = .ok (.getfield 15, 3) := by decide +kernel
theorem dX1_load_16 : decode cX1_load 16 = .ok (.iload_n 2, 1) := by decide +kernel
theorem dX1_load_17 : decode cX1_load 17 = .ok (.iaload, 1) := by decide +kernel
theorem dX1_load_18 : decode cX1_load 18 = .ok (.iastore, 1) := by decide +kernel
theorem dX1_load_19 : decode cX1_load 19 = .ok (.goto 9, 3) := by decide +kernel
theorem dX1_load_22 : decode cX1_load 22 = .ok (.aload_n 0, 1) := by decide +kernel
theorem dX1_load_23 : decode cX1_load 23 = .ok (.iconst 2, 1) := by decide +kernel
theorem dX1_load_24 : decode cX1_load 24 = .ok (.iload_n 3, 1) := by decide +kernel
theorem dX1_load_25 : decode cX1_load 25 = .ok (.invokevirtual 135, 3) := by decide +kernel
theorem dX1_load_28 : decode cX1_load 28 = .ok (.return_, 1) := by decide +kernel
theorem dX1_store_0 : decode cX1_store 0 = .ok (.iload_n 1, 1) := by decide +kernel
theorem dX1_store_1 : decode cX1_store 1 = .ok (.invokestatic 138, 3) := by decide +kernel
theorem dX1_store_4 : decode cX1_store 4 = .ok (.ifCond .eq 13, 3) := by decide +kernel
theorem dX1_store_7 : decode cX1_store 7 = .ok (.aload_n 0, 1) := by decide +kernel
theorem dX1_store_8 : decode cX1_store 8 = .ok (.getfield 15, 3) := by decide +kernel
theorem dX1_store_11 : decode cX1_store 11 = .ok (.iload_n 1, 1) := by decide +kernel
theorem dX1_store_12 : decode cX1_store 12 = .ok (.iload_n 2, 1) := by decide +kernel
theorem dX1_store_13 : decode cX1_store 13 = .ok (.iastore, 1) := by decide +kernel
theorem dX1_store_14 : decode cX1_store 14 = .ok (.goto 9, 3) := by decide +kernel
theorem dX1_store_17 : decode cX1_store 17 = .ok (.aload_n 0, 1) := by decide +kernel
theorem dX1_store_18 : decode cX1_store 18 = .ok (.iconst 2, 1) := by decide +kernel
theorem dX1_store_19 : decode cX1_store 19 = .ok (.iload_n 3, 1) := by decide +kernel
theorem dX1_store_20 : decode cX1_store 20 = .ok (.invokevirtual 135, 3) := by decide +kernel
theorem dX1_store_23 : decode cX1_store 23 = .ok (.return_, 1) := by decide +kernel
theorem dX1_say_0 : decode cX1_say 0 = .ok (.aload_n 0, 1) := by decide +kernel
theorem dX1_say_1 : decode cX1_say 1 = .ok (.getfield 21, 3) := by decide +kernel
theorem dX1_say_4 : decode cX1_say 4 = .ok (.bipush 60, 2) := by decide +kernel
theorem dX1_say_6 : decode cX1_say 6 = .ok (.if_icmp .ge 23, 3) := by decide +kernel
theorem dX1_say_9 : decode cX1_say 9 = .ok (.aload_n 0, 1) := by decide +kernel
theorem dX1_say_10 : decode cX1_say 10 = .ok (.getfield 18, 3) := by decide +kernel
theorem dX1_say_13 : decode cX1_say 13 = .ok (.aload_n 0, 1) := by decide +kernel
theorem dX1_say_14 : decode cX1_say 14 = .ok (.getfield 21, 3) := by decide +kernel
theorem dX1_say_17 : decode cX1_say 17 = .ok (.iload_n 1, 1) := by decide +kernel
theorem dX1_say_18 : decode cX1_say 18 = .ok (.iastore, 1) := by decide +kernel
theorem dX1_say_19 : decode cX1_say 19 = .ok (.aload_n 0, 1) := by decide +kernel
theorem dX1_say_20 : decode cX1_say 20 = .ok (.dup, 1) := by decide +kernel
theorem dX1_say_21 : decode cX1_say 21 = .ok (.getfield 21, 3) := by decide +kernel
theorem dX1_say_24 : decode cX1_say 24 = .ok (.iconst 1, 1) := by decide +kernel
theorem dX1_say_25 : decode cX1_say 25 = .ok (.iadd, 1) := by decide +kernel
theorem dX1_say_26 : decode cX1_say 26 = .ok (.putfield 21, 3) := by decide +kernel
theorem dX1_say_29 : decode cX1_say 29 = .ok (.return_, 1) := by decide +kernel
theorem dX1_end_0 : decode cX1_end 0 = .ok (.aload_n 0, 1) := by decide +kernel
theorem dX1_end_1 : decode cX1_end 1 = .ok (.iload_n 1, 1) := by decide +kernel
theorem dX1_end_2 : decode cX1_end 2 = .ok (.putfield 25, 3) := by decide +kernel
theorem dX1_end_5 : decode cX1_end 5 = .ok (.aload_n 0, 1) := by decide +kernel
theorem dX1_end_6 : decode cX1_end 6 = .ok (.iload_n 2, 1) := by decide +kernel
theorem dX1_end_7 : decode cX1_end 7 = .ok (.putfield 28, 3) := by decide +kernel
theorem dX1_end_10 : decode cX1_end 10 = .ok (.return_, 1) := by decide +kernel
theorem dX2_init_0 : decode cX2_init 0 = .ok (.aload_n 0, 1) := by decide +kernel
theorem dX2_init_1 : decode cX2_init 1 = .ok (.invokespecial 3, 3) := by decide +kernel
theorem dX2_init_4 : decode cX2_init 4 = .ok (.aload_n 0, 1) := by decide +kernel
theorem dX2_init_5 : decode cX2_init 5 = .ok (.new 9, 3) := by decide +kernel
theorem dX2_init_8 : decode cX2_init 8 = .ok (.dup, 1) := by decide +kernel
theorem dX2_init_9 : decode cX2_init 9 = .ok (.invokespecial 11, 3) := by decide +kernel
theorem dX2_init_12 : decode cX2_init 12 = .ok (.putfield 12, 3) := by decide +kernel
theorem dX2_init_15 : decode cX2_init 15 = .ok (.aload_n 0, 1) := by decide +kernel
theorem dX2_init_16 : decode cX2_init 16 = .ok (.bipush 60, 2) := by decide +kernel
theorem dX2_init_18 : decode cX2_init 18 = .ok (.newarray .boolean, 2) := by decide +kernel
theorem dX2_init_20 : decode cX2_init 20 = .ok (.putfield 18, 3) := by decide +kernel
theorem dX2_init_23 : decode cX2_init 23 = .ok (.aload_n 0, 1) := by decide +kernel
theorem dX2_init_24 : decode cX2_init 24 = .ok (.bipush 16, 2) := by decide +kernel
theorem dX2_init_26 : decode cX2_init 26 = .ok (.newarray .int, 2) := by decide +kernel
theorem dX2_init_28 : decode cX2_init 28 = .ok (.putfield 22, 3) := by decide +kernel
theorem dX2_init_31 : decode cX2_init 31 = .ok (.aload_n 0, 1) := by decide +kernel
theorem dX2_init_32 : decode cX2_init 32 = .ok (.bipush 6, 2) := by decide +kernel
theorem dX2_init_34 : decode cX2_init 34 = .ok (.bipush 16, 2) := by decide +kernel
theorem dX2_init_36 : decode cX2_init 36 = .ok (.multianewarray 26 2, 4) := by decide +kernel
theorem dX2_init_40 : decode cX2_init 40 = .ok (.putfield 28, 3) := by decide +kernel
theorem dX2_init_43 : decode cX2_init 43 = .ok (.aload_n 0, 1) := by decide +kernel
theorem dX2_init_44 : decode cX2_init 44 = .ok (.bipush 6, 2) := by decide +kernel
theorem dX2_init_46 : decode cX2_init 46 = .ok (.bipush 16, 2) := by decide +kernel
theorem dX2_init_48 : decode cX2_init 48 = .ok (.multianewarray 26 2, 4) := by decide +kernel
theorem dX2_init_52 : decode cX2_init 52 = .ok (.putfield 31, 3) := by decide +kernel
theorem dX2_init_55 : decode cX2_init 55 = .ok (.aload_n 0, 1) := by decide +kernel
theorem dX2_init_56 : decode cX2_init 56 = .ok (.iconst (-1), 1) := by decide +kernel
theorem dX2_init_57 : decode cX2_init 57 = .ok (.putfield 34, 3) := by decide +kernel
theorem dX2_init_60 : decode cX2_init 60 = .ok (.return_, 1) := by decide +kernel
theorem dX2_convertedBranches_0 : decode cX2_convertedBranches 0 = .ok (.iconst 0, 1) := by decide +kernel
theorem dX2_convertedBranches_1 : decode cX2_convertedBranches 1 = .ok (.istore_n 1, 1) := by decide +kernel
theorem dX2_convertedBranches_2 : decode cX2_convertedBranches 2 = .ok (.iconst 0, 1) := by decide +kernel
theorem dX2_convertedBranches_3 : decode cX2_convertedBranches 3 = .ok (.istore_n 2, 1) := by decide +kernel
theorem dX2_convertedBranches_4 : decode cX2_convertedBranches 4 = .ok (.iload_n 2, 1) := by decide +kernel
theorem dX2_convertedBranches_5 : decode cX2_convertedBranches 5 = .ok (.bipush 60, 2) := by decide +kernel
theorem dX2_convertedBranches_7 : decode cX2_convertedBranches 7 = .ok (.if_icmp .ge 26, 3) := by decide +kernel
theorem dX2_convertedBranches_10 : decode cX2_convertedBranches 10 = .ok (.iload_n 1, 1) := by decide +kernel
theorem dX2_convertedBranches_11 : decode cX2_convertedBranches 11 = .ok (.aload_n 0, 1) := by decide +kernel
theorem dX2_convertedBranches_12 : decode cX2_convertedBranches 12 = .ok (.getfield 18, 3) := by decide +kernel
theorem dX2_convertedBranches_15 : decode cX2_convertedBranches 15 = .ok (.iload_n 2, 1) := by decide +kernel
theorem dX2_convertedBranches_16 : decode cX2_convertedBranches 16 = .ok (.baload, 1) := by decide +kernel
theorem dX2_convertedBranches_17 : decode cX2_convertedBranches 17 = .ok (.ifCond .eq 7, 3) := by decide +kernel
theorem dX2_convertedBranches_20 : decode cX2_convertedBranches 20 = .ok (.iconst 1, 1) := by decide +kernel
theorem dX2_convertedBranches_21 : decode cX2_convertedBranches 21 = .ok (.goto 4, 3) := by decide +kernel
theorem dX2_convertedBranches_24 : decode cX2_convertedBranches 24 = .ok (.iconst 0, 1) := by decide +kernel
theorem dX2_convertedBranches_25 : decode cX2_convertedBranches 25 = .ok (.iadd, 1) := by decide +kernel
theorem dX2_convertedBranches_26 : decode cX2_convertedBranches 26 = .ok (.istore_n 1, 1) := by decide +kernel
theorem dX2_convertedBranches_27 : decode cX2_convertedBranches 27 = .ok (.iinc 2 1, 3) := by decide +kernel
theorem dX2_convertedBranches_30 : decode cX2_convertedBranches 30 = .ok (.goto (-26), 3) := by decide +kernel
theorem dX2_convertedBranches_33 : decode cX2_convertedBranches 33 = .ok (.iload_n 1, 1) := by decide +kernel
theorem dX2_convertedBranches_34 : decode cX2_convertedBranches 34 = .ok (.ireturn, 1) := by decide +kernel
theorem dX2_makeCode_0 : decode cX2_makeCode 0 = .ok (.iconst 0, 1) := by decide +kernel
theorem dX2_makeCode_1 : decode cX2_makeCode 1 = .ok (.istore_n 3, 1) := by decide +kernel
theorem dX2_makeCode_2 : decode cX2_makeCode 2 = .ok (.iload_n 3, 1) := by decide +kernel
theorem dX2_makeCode_3 : decode cX2_makeCode 3 = .ok (.bipush 60, 2) := by decide +kernel
theorem dX2_makeCode_5 : decode cX2_makeCode 5 = .ok (.if_icmp .ge 16, 3) := by decide +kernel
theorem dX2_makeCode_8 : decode cX2_makeCode 8 = .ok (.aload_n 0, 1) := by decide +kernel
theorem dX2_makeCode_9 : decode cX2_makeCode 9 = .ok (.getfield 18, 3) := by decide +kernel
theorem dX2_makeCode_12 : decode cX2_makeCode 12 = .ok (.iload_n 3, 1) := by decide +kernel
theorem dX2_makeCode_13 : decode cX2_makeCode 13 = .ok (.iconst 0, 1) := by decide +kernel
theorem dX2_makeCode_14 : decode cX2_makeCode 14 = .ok (.bastore, 1) := by decide +kernel
theorem dX2_makeCode_15 : decode cX2_makeCode 15 = .ok (.iinc 3 1, 3) := by decide +kernel
theorem dX2_makeCode_18 : decode cX2_makeCode 18 = .ok (.goto (-16), 3) := by decide +kernel
theorem dX2_makeCode_21 : decode cX2_makeCode 21 = .ok (.aload_n 1, 1) := by decide +kernel
theorem dX2_makeCode_22 : decode cX2_makeCode 22 = .ok (.getfield 38, 3) := by decide +kernel
theorem dX2_makeCode_25 : decode cX2_makeCode 25 = .ok (.iconst 1, 1) := by decide +kernel
theorem dX2_makeCode_26 : decode cX2_makeCode 26 = .ok (.isub, 1) := by decide +kernel
theorem dX2_makeCode_27 : decode cX2_makeCode 27 = .ok (.istore_n 3, 1) := by decide +kernel
theorem dX2_makeCode_28 : decode cX2_makeCode 28 = .ok (.iload_n 3, 1) := by decide +kernel
theorem dX2_makeCode_29 : decode cX2_makeCode 29 = .ok (.ifCond .lt 51, 3) := by decide +kernel
theorem dX2_makeCode_32 : decode cX2_makeCode 32 = .ok (.aload_n 0, 1) := by decide +kernel
theorem dX2_makeCode_33 : decode cX2_makeCode 33 = .ok (.aload_n 1, 1) := by decide +kernel
theorem dX2_makeCode_34 : decode cX2_makeCode 34 = .ok (.iload_n 3, 1) := by decide +kernel
theorem dX2_makeCode_35 : decode cX2_makeCode 35 = .ok (.invokevirtual 43, 3) := by decide +kernel
theorem dX2_makeCode_38 : decode cX2_makeCode 38 = .ok (.ifCond .eq 36, 3) := by decide +kernel
theorem dX2_makeCode_41 : decode cX2_makeCode 41 = .ok (.aload_n 0, 1) := by decide +kernel
theorem dX2_makeCode_42 : decode cX2_makeCode 42 = .ok (.invokevirtual 47, 3) := by decide +kernel
theorem dX2_makeCode_45 : decode cX2_makeCode 45 = .ok (.aload_n 0, 1) := by decide +kernel
theorem dX2_makeCode_46 : decode cX2_makeCode 46 = .ok (.aload_n 1, 1) := by decide +kernel
theorem dX2_makeCode_47 : decode cX2_makeCode 47 = .ok (.iload_n 3, 1) := by decide +kernel
theorem dX2_makeCode_48 : decode cX2_makeCode 48 = .ok (.iconst 0, 1) := by decide +kernel
theorem dX2_makeCode_49 : decode cX2_makeCode 49 = .ok (.invokevirtual 50, 3) := by decide +kernel
theorem dX2_makeCode_52 : decode cX2_makeCode 52 = .ok (.aload_n 0, 1) := by decide +kernel
theorem dX2_makeCode_53 : decode cX2_makeCode 53 = .ok (.getfield 18, 3) := by decide +kernel
theorem dX2_makeCode_56 : decode cX2_makeCode 56 = .ok (.iload_n 3, 1) := by decide +kernel
theorem dX2_makeCode_57 : decode cX2_makeCode 57 = .ok (.aload_n 0, 1) := by decide +kernel
theorem dX2_makeCode_58 : decode cX2_makeCode 58 = .ok (.getfield 12, 3) := by decide +kernel
theorem dX2_makeCode_61 : decode cX2_makeCode 61 = .ok (.getfield 54, 3) := by decide +kernel
theorem dX2_makeCode_64 : decode cX2_makeCode 64 = .ok (.iload_n 2, 1) := by decide +kernel
theorem dX2_makeCode_65 : decode cX2_makeCode 65 = .ok (.if_icmp .gt 7, 3) := by decide +kernel
theorem dX2_makeCode_68 : decode cX2_makeCode 68 = .ok (.iconst 1, 1) := by decide +kernel
theorem dX2_makeCode_69 : decode cX2_makeCode 69 = .ok (.goto 4, 3) := by decide +kernel
theorem dX2_makeCode_72 : decode cX2_makeCode 72 = .ok (.iconst 0, 1) := by decide +kernel
theorem dX2_makeCode_73 : decode cX2_makeCode 73 = .ok (.bastore, 1) := by decide +kernel
theorem dX2_makeCode_74 : decode cX2_makeCode 74 = .ok (.iinc 3 (-1), 3) := by decide +kernel
theorem dX2_makeCode_77 : decode cX2_makeCode 77 = .ok (.goto (-49), 3) := by decide +kernel
theorem dX2_makeCode_80 : decode cX2_makeCode 80 = .ok (.aload_n 0, 1) := by decide +kernel
theorem dX2_makeCode_81 : decode cX2_makeCode 81 = .ok (.invokevirtual 47, 3) := by decide +kernel
theorem dX2_makeCode_84 : decode cX2_makeCode 84 = .ok (.aload_n 0, 1) := by decide +kernel
theorem dX2_makeCode_85 : decode cX2_makeCode 85 = .ok (.aload_n 1, 1) := by decide +kernel
theorem dX2_makeCode_86 : decode cX2_makeCode 86 = .ok (.iconst 0, 1) := by decide +kernel
theorem dX2_makeCode_87 : decode cX2_makeCode 87 = .ok (.aload_n 1, 1) := by decide +kernel
theorem dX2_makeCode_88 : decode cX2_makeCode 88 = .ok (.getfield 38, 3) := by decide +kernel
theorem dX2_makeCode_91 : decode cX2_makeCode 91 = .ok (.iconst 0, 1) := by decide +kernel
theorem dX2_makeCode_92 : decode cX2_makeCode 92 = .ok (.invokevirtual 57, 3) := by decide +kernel
theorem dX2_makeCode_95 : decode cX2_makeCode 95 = .ok (.return_, 1) := by decide +kernel
theorem dX2_beginCode_0 : decode cX2_beginCode 0 = .ok (.aload_n 0, 1) := by decide +kernel
theorem dX2_beginCode_1 : decode cX2_beginCode 1 = .ok (.getfield 12, 3) := by decide +kernel
theorem dX2_beginCode_4 : decode cX2_beginCode 4 = .ok (.invokevirtual 61, 3) := by decide +kernel
theorem dX2_beginCode_7 : decode cX2_beginCode 7 = .ok (.aload_n 0, 1) := by decide +kernel
theorem dX2_beginCode_8 : decode cX2_beginCode 8 = .ok (.iconst (-1), 1) := by decide +kernel
theorem dX2_beginCode_9 : decode cX2_beginCode 9 = .ok (.putfield 34, 3) := by decide +kernel
theorem dX2_beginCode_12 : decode cX2_beginCode 12 = .ok (.iconst 0, 1) := by decide +kernel
theorem dX2_beginCode_13 : decode cX2_beginCode 13 = .ok (.istore_n 1, 1) := by decide +kernel
theorem dX2_beginCode_14 : decode cX2_beginCode 14 = .ok (.iload_n 1, 1) := by decide +kernel
theorem dX2_beginCode_15 : decode cX2_beginCode 15 = .ok (.bipush 16, 2) := by decide +kernel
theorem dX2_beginCode_17 : decode cX2_beginCode 17 = .ok (.if_icmp .ge 16, 3) := by decide +kernel
theorem dX2_beginCode_20 : decode cX2_beginCode 20 = .ok (.aload_n 0, 1) := by decide +kernel
theorem dX2_beginCode_21 : decode cX2_beginCode 21 = .ok (.getfield 22, 3) := by decide +kernel
theorem dX2_beginCode_24 : decode cX2_beginCode 24 = .ok (.iload_n 1, 1) := by decide +kernel
theorem dX2_beginCode_25 : decode cX2_beginCode 25 = .ok (.iload_n 1, 1) := by decide +kernel
theorem dX2_beginCode_26 : decode cX2_beginCode 26 = .ok (.iastore, 1) := by decide +kernel
theorem dX2_beginCode_27 : decode cX2_beginCode 27 = .ok (.iinc 1 1, 3) := by decide +kernel
theorem dX2_beginCode_30 : decode cX2_beginCode 30 = .ok (.goto (-16), 3) := by decide +kernel
theorem dX2_beginCode_33 : decode cX2_beginCode 33 = .ok (.return_, 1) := by decide +kernel
theorem dX2_mayConvert_0 : decode cX2_mayConvert 0 = .ok (.iload_n 2, 1) := by decide +kernel
theorem dX2_mayConvert_1 : decode cX2_mayConvert 1 = .ok (.iconst 1, 1) := by decide +kernel
theorem dX2_mayConvert_2 : decode cX2_mayConvert 2 = .ok (.iadd, 1) := by decide +kernel
theorem dX2_mayConvert_3 : decode cX2_mayConvert 3 = .ok (.istore_n 3, 1) := by decide +kernel
theorem dX2_mayConvert_4 : decode cX2_mayConvert 4 = .ok (.iload_n 3, 1) := by decide +kernel
theorem dX2_mayConvert_5 : decode cX2_mayConvert 5 = .ok (.aload_n 1, 1) := by decide +kernel
theorem dX2_mayConvert_6 : decode cX2_mayConvert 6 = .ok (.getfield 64, 3) := by decide +kernel
theorem dX2_mayConvert_9 : decode cX2_mayConvert 9 = .ok (.iload_n 2, 1) := by decide +kernel
theorem dX2_mayConvert_10 : decode cX2_mayConvert 10 = .ok (.iaload, 1) := by decide +kernel
theorem dX2_mayConvert_11 : decode cX2_mayConvert 11 = .ok (.if_icmp .ge 52, 3) := by decide +kernel
theorem dX2_mayConvert_14 : decode cX2_mayConvert 14 = .ok (.aload_n 1, 1) := by decide +kernel
theorem dX2_mayConvert_15 : decode cX2_mayConvert 15 = .ok (.getfield 67, 3) := by decide +kernel
theorem dX2_mayConvert_18 : decode cX2_mayConvert 18 = .ok (.iload_n 3, 1) := by decide +kernel
theorem dX2_mayConvert_19 : decode cX2_mayConvert 19 = .ok (.iaload, 1) := by decide +kernel
theorem dX2_mayConvert_20 : decode cX2_mayConvert 20 = .ok (.iconst 5, 1) := by decide +kernel
theorem dX2_mayConvert_21 : decode cX2_mayConvert 21 = .ok (.if_icmp .ne 16, 3) := by decide +kernel
theorem dX2_mayConvert_24 : decode cX2_mayConvert 24 = .ok (.aload_n 0, 1) := by decide +kernel
theorem dX2_mayConvert_25 : decode cX2_mayConvert 25 = .ok (.getfield 18, 3) := by decide +kernel
theorem dX2_mayConvert_28 : decode cX2_mayConvert 28 = .ok (.iload_n 3, 1) := by decide +kernel
theorem dX2_mayConvert_29 : decode cX2_mayConvert 29 = .ok (.baload, 1) := by decide +kernel
theorem dX2_mayConvert_30 : decode cX2_mayConvert 30 = .ok (.ifCond .ne 7, 3) := by decide +kernel
theorem dX2_mayConvert_33 : decode cX2_mayConvert 33 = .ok (.iconst 1, 1) := by decide +kernel
theorem dX2_mayConvert_34 : decode cX2_mayConvert 34 = .ok (.goto 4, 3) := by decide +kernel
theorem dX2_mayConvert_37 : decode cX2_mayConvert 37 = .ok (.iconst 0, 1) := by decide +kernel
theorem dX2_mayConvert_38 : decode cX2_mayConvert 38 = .ok (.istore 4, 2) := by decide +kernel
theorem dX2_mayConvert_40 : decode cX2_mayConvert 40 = .ok (.iload 4, 2) := by decide +kernel
theorem dX2_mayConvert_42 : decode cX2_mayConvert 42 = .ok (.ifCond .ne 13, 3) := by decide +kernel
theorem dX2_mayConvert_45 : decode cX2_mayConvert 45 = .ok (.aload_n 1, 1) := by decide +kernel
theorem dX2_mayConvert_46 : decode cX2_mayConvert 46 = .ok (.getfield 67, 3) := by decide +kernel
theorem dX2_mayConvert_49 : decode cX2_mayConvert 49 = .ok (.iload_n 3, 1) := by decide +kernel
theorem dX2_mayConvert_50 : decode cX2_mayConvert 50 = .ok (.iaload, 1) := by decide +kernel
theorem dX2_mayConvert_51 : decode cX2_mayConvert 51 = .ok (.iconst 4, 1) := by decide +kernel
theorem dX2_mayConvert_52 : decode cX2_mayConvert 52 = .ok (.if_icmp .ne 5, 3) := by decide +kernel
theorem dX2_mayConvert_55 : decode cX2_mayConvert 55 = .ok (.iconst 0, 1) := by decide +kernel
theorem dX2_mayConvert_56 : decode cX2_mayConvert 56 = .ok (.ireturn, 1) := by decide +kernel
theorem dX2_mayConvert_57 : decode cX2_mayConvert 57 = .ok (.iinc 3 1, 3) := by decide +kernel
theorem dX2_mayConvert_60 : decode cX2_mayConvert 60 = .ok (.goto (-56), 3) := by decide +kernel
theorem dX2_mayConvert_63 : decode cX2_mayConvert 63 = .ok (.aload_n 1, 1) := by decide +kernel
theorem dX2_mayConvert_64 : decode cX2_mayConvert 64 = .ok (.getfield 67, 3) := by decide +kernel
theorem dX2_mayConvert_67 : decode cX2_mayConvert 67 = .ok (.iload_n 2, 1) := by decide +kernel
theorem dX2_mayConvert_68 : decode cX2_mayConvert 68 = .ok (.iaload, 1) := by decide +kernel
theorem dX2_mayConvert_69 : decode cX2_mayConvert 69 = .ok (.iconst 5, 1) := by decide +kernel
theorem dX2_mayConvert_70 : decode cX2_mayConvert 70 = .ok (.if_icmp .ne 7, 3) := by decide +kernel
theorem dX2_mayConvert_73 : decode cX2_mayConvert 73 = .ok (.iconst 1, 1) := by decide +kernel
theorem dX2_mayConvert_74 : decode cX2_mayConvert 74 = .ok (.goto 4, 3) := by decide +kernel
theorem dX2_mayConvert_77 : decode cX2_mayConvert 77 = .ok (.iconst 0, 1) := by decide +kernel
theorem dX2_mayConvert_78 : decode cX2_mayConvert 78 = .ok (.ireturn, 1) := by decide +kernel
theorem dX2_lowerRange_0 : decode cX2_lowerRange 0 = .ok (.iload_n 2, 1) := by decide +kernel
theorem dX2_lowerRange_1 : decode cX2_lowerRange 1 = .ok (.istore 5, 2) := by decide +kernel
theorem dX2_lowerRange_3 : decode cX2_lowerRange 3 = .ok (.iload 5, 2) := by decide +kernel
theorem dX2_lowerRange_5 : decode cX2_lowerRange 5 = .ok (.iload_n 3, 1) := by decide +kernel
theorem dX2_lowerRange_6 : decode cX2_lowerRange 6 = .ok (.if_icmp .ge 101, 3) := by decide +kernel
theorem dX2_lowerRange_9 : decode cX2_lowerRange 9 = .ok (.aload_n 0, 1) := by decide +kernel
theorem dX2_lowerRange_10 : decode cX2_lowerRange 10 = .ok (.getfield 12, 3) := by decide +kernel
theorem dX2_lowerRange_13 : decode cX2_lowerRange 13 = .ok (.iload 5, 2) := by decide +kernel
theorem dX2_lowerRange_15 : decode cX2_lowerRange 15 = .ok (.putfield 70, 3) := by decide +kernel
theorem dX2_lowerRange_18 : decode cX2_lowerRange 18 = .ok (.aload_n 0, 1) := by decide +kernel
theorem dX2_lowerRange_19 : decode cX2_lowerRange 19 = .ok (.getfield 18, 3) := by decide +kernel
theorem dX2_lowerRange_22 : decode cX2_lowerRange 22 = .ok (.iload 5, 2) := by decide +kernel
theorem dX2_lowerRange_24 : decode cX2_lowerRange 24 = .ok (.baload, 1) := by decide +kernel
theorem dX2_lowerRange_25 : decode cX2_lowerRange 25 = .ok (.ifCond .eq 15, 3) := by decide +kernel
theorem dX2_lowerRange_28 : decode cX2_lowerRange 28 = .ok (.aload_n 0, 1) := by decide +kernel
theorem dX2_lowerRange_29 : decode cX2_lowerRange 29 = .ok (.aload_n 1, 1) := by decide +kernel
theorem dX2_lowerRange_30 : decode cX2_lowerRange 30 = .ok (.iload 5, 2) := by decide +kernel
theorem dX2_lowerRange_32 : decode cX2_lowerRange 32 = .ok (.iload 4, 2) := by decide +kernel
theorem dX2_lowerRange_34 : decode cX2_lowerRange 34 = .ok (.invokevirtual 50, 3) := by decide +kernel
theorem dX2_lowerRange_37 : decode cX2_lowerRange 37 = .ok (.goto 51, 3) := by decide +kernel
theorem dX2_lowerRange_40 : decode cX2_lowerRange 40 = .ok (.aload_n 1, 1) := by decide +kernel
theorem dX2_lowerRange_41 : decode cX2_lowerRange 41 = .ok (.getfield 67, 3) := by decide +kernel
theorem dX2_lowerRange_44 : decode cX2_lowerRange 44 = .ok (.iload 5, 2) := by decide +kernel
theorem dX2_lowerRange_46 : decode cX2_lowerRange 46 = .ok (.iaload, 1) := by decide +kernel
theorem dX2_lowerRange_47 : decode cX2_lowerRange 47 = .ok (.iconst 5, 1) := by decide +kernel
theorem dX2_lowerRange_48 : decode cX2_lowerRange 48 = .ok (.if_icmp .ne 15, 3) := by decide +kernel
theorem dX2_lowerRange_51 : decode cX2_lowerRange 51 = .ok (.aload_n 0, 1) := by decide +kernel
theorem dX2_lowerRange_52 : decode cX2_lowerRange 52 = .ok (.aload_n 1, 1) := by decide +kernel
theorem dX2_lowerRange_53 : decode cX2_lowerRange 53 = .ok (.iload 5, 2) := by decide +kernel
theorem dX2_lowerRange_55 : decode cX2_lowerRange 55 = .ok (.iload 4, 2) := by decide +kernel
theorem dX2_lowerRange_57 : decode cX2_lowerRange 57 = .ok (.invokevirtual 73, 3) := by decide +kernel
theorem dX2_lowerRange_60 : decode cX2_lowerRange 60 = .ok (.goto 28, 3) := by decide +kernel
theorem dX2_lowerRange_63 : decode cX2_lowerRange 63 = .ok (.aload_n 0, 1) := by decide +kernel
theorem dX2_lowerRange_64 : decode cX2_lowerRange 64 = .ok (.getfield 34, 3) := by decide +kernel
theorem dX2_lowerRange_67 : decode cX2_lowerRange 67 = .ok (.iconst (-1), 1) := by decide +kernel
theorem dX2_lowerRange_68 : decode cX2_lowerRange 68 = .ok (.if_icmp .ne 13, 3) := by decide +kernel
theorem dX2_lowerRange_71 : decode cX2_lowerRange 71 = .ok (.aload_n 0, 1) := by decide +kernel
theorem dX2_lowerRange_72 : decode cX2_lowerRange 72 = .ok (.aload_n 1, 1) := by decide +kernel
theorem dX2_lowerRange_73 : decode cX2_lowerRange 73 = .ok (.iload 5, 2) := by decide +kernel
theorem dX2_lowerRange_75 : decode cX2_lowerRange 75 = .ok (.invokevirtual 76, 3) := by decide +kernel
theorem dX2_lowerRange_78 : decode cX2_lowerRange 78 = .ok (.goto 10, 3) := by decide +kernel
theorem dX2_lowerRange_81 : decode cX2_lowerRange 81 = .ok (.aload_n 0, 1) := by decide +kernel
theorem dX2_lowerRange_82 : decode cX2_lowerRange 82 = .ok (.aload_n 1, 1) := by decide +kernel
theorem dX2_lowerRange_83 : decode cX2_lowerRange 83 = .ok (.iload 5, 2) := by decide +kernel
theorem dX2_lowerRange_85 : decode cX2_lowerRange 85 = .ok (.invokevirtual 80, 3) := by decide +kernel
theorem dX2_lowerRange_88 : decode cX2_lowerRange 88 = .ok (.iload 5, 2) := by decide +kernel
theorem dX2_lowerRange_90 : decode cX2_lowerRange 90 = .ok (.iconst 1, 1) := by decide +kernel
theorem dX2_lowerRange_91 : decode cX2_lowerRange 91 = .ok (.iadd, 1) := by decide +kernel
theorem dX2_lowerRange_92 : decode cX2_lowerRange 92 = .ok (.aload_n 1, 1) := by decide +kernel
theorem dX2_lowerRange_93 : decode cX2_lowerRange 93 = .ok (.getfield 64, 3) := by decide +kernel
theorem dX2_lowerRange_96 : decode cX2_lowerRange 96 = .ok (.iload 5, 2) := by decide +kernel
theorem dX2_lowerRange_98 : decode cX2_lowerRange 98 = .ok (.iaload, 1) := by decide +kernel
theorem dX2_lowerRange_99 : decode cX2_lowerRange 99 = .ok (.invokestatic 83, 3) := by decide +kernel
theorem dX2_lowerRange_102 : decode cX2_lowerRange 102 = .ok (.istore 5, 2) := by decide +kernel
theorem dX2_lowerRange_104 : decode cX2_lowerRange 104 = .ok (.goto (-101), 3) := by decide +kernel
theorem dX2_lowerRange_107 : decode cX2_lowerRange 107 = .ok (.return_, 1) := by decide +kernel
theorem dX2_valueRegister_0 : decode cX2_valueRegister 0 = .ok (.aload_n 1, 1) := by decide +kernel
theorem dX2_valueRegister_1 : decode cX2_valueRegister 1 = .ok (.getfield 89, 3) := by decide +kernel
theorem dX2_valueRegister_4 : decode cX2_valueRegister 4 = .ok (.iload_n 2, 1) := by decide +kernel
theorem dX2_valueRegister_5 : decode cX2_valueRegister 5 = .ok (.iaload, 1) := by decide +kernel
theorem dX2_valueRegister_6 : decode cX2_valueRegister 6 = .ok (.istore_n 3, 1) := by decide +kernel
theorem dX2_valueRegister_7 : decode cX2_valueRegister 7 = .ok (.aload_n 1, 1) := by decide +kernel
theorem dX2_valueRegister_8 : decode cX2_valueRegister 8 = .ok (.getfield 92, 3) := by decide +kernel
theorem dX2_valueRegister_11 : decode cX2_valueRegister 11 = .ok (.iload_n 2, 1) := by decide +kernel
theorem dX2_valueRegister_12 : decode cX2_valueRegister 12 = .ok (.baload, 1) := by decide +kernel
theorem dX2_valueRegister_13 : decode cX2_valueRegister 13 = .ok (.ifCond .eq 12, 3) := by decide +kernel
theorem dX2_valueRegister_16 : decode cX2_valueRegister 16 = .ok (.aload_n 0, 1) := by decide +kernel
theorem dX2_valueRegister_17 : decode cX2_valueRegister 17 = .ok (.getfield 22, 3) := by decide +kernel
theorem dX2_valueRegister_20 : decode cX2_valueRegister 20 = .ok (.iload_n 3, 1) := by decide +kernel
theorem dX2_valueRegister_21 : decode cX2_valueRegister 21 = .ok (.iaload, 1) := by decide +kernel
theorem dX2_valueRegister_22 : decode cX2_valueRegister 22 = .ok (.goto 15, 3) := by decide +kernel
theorem dX2_valueRegister_25 : decode cX2_valueRegister 25 = .ok (.aload_n 0, 1) := by decide +kernel
theorem dX2_valueRegister_26 : decode cX2_valueRegister 26 = .ok (.getfield 12, 3) := by decide +kernel
theorem dX2_valueRegister_29 : decode cX2_valueRegister 29 = .ok (.iconst 0, 1) := by decide +kernel
theorem dX2_valueRegister_30 : decode cX2_valueRegister 30 = .ok (.iconst (-1), 1) := by decide +kernel
theorem dX2_valueRegister_31 : decode cX2_valueRegister 31 = .ok (.iload_n 3, 1) := by decide +kernel
theorem dX2_valueRegister_32 : decode cX2_valueRegister 32 = .ok (.iconst 0, 1) := by decide +kernel
theorem dX2_valueRegister_33 : decode cX2_valueRegister 33 = .ok (.iconst 0, 1) := by decide +kernel
theorem dX2_valueRegister_34 : decode cX2_valueRegister 34 = .ok (.invokevirtual 95, 3) := by decide +kernel
theorem dX2_valueRegister_37 : decode cX2_valueRegister 37 = .ok (.ireturn, 1) := by decide +kernel
theorem dX2_testRegister_0 : decode cX2_testRegister 0 = .ok (.aload_n 0, 1) := by decide +kernel
theorem dX2_testRegister_1 : decode cX2_testRegister 1 = .ok (.aload_n 1, 1) := by decide +kernel
theorem dX2_testRegister_2 : decode cX2_testRegister 2 = .ok (.iconst 2, 1) := by decide +kernel
theorem dX2_testRegister_3 : decode cX2_testRegister 3 = .ok (.iload_n 2, 1) := by decide +kernel
theorem dX2_testRegister_4 : decode cX2_testRegister 4 = .ok (.imul, 1) := by decide +kernel
theorem dX2_testRegister_5 : decode cX2_testRegister 5 = .ok (.invokevirtual 99, 3) := by decide +kernel
theorem dX2_testRegister_8 : decode cX2_testRegister 8 = .ok (.istore_n 3, 1) := by decide +kernel
theorem dX2_testRegister_9 : decode cX2_testRegister 9 = .ok (.aload_n 0, 1) := by decide +kernel
theorem dX2_testRegister_10 : decode cX2_testRegister 10 = .ok (.aload_n 1, 1) := by decide +kernel
theorem dX2_testRegister_11 : decode cX2_testRegister 11 = .ok (.iconst 2, 1) := by decide +kernel
theorem dX2_testRegister_12 : decode cX2_testRegister 12 = .ok (.iload_n 2, 1) := by decide +kernel
theorem dX2_testRegister_13 : decode cX2_testRegister 13 = .ok (.imul, 1) := by decide +kernel
theorem dX2_testRegister_14 : decode cX2_testRegister 14 = .ok (.iconst 1, 1) := by decide +kernel
theorem dX2_testRegister_15 : decode cX2_testRegister 15 = .ok (.iadd, 1) := by decide +kernel
theorem dX2_testRegister_16 : decode cX2_testRegister 16 = .ok (.invokevirtual 99, 3) := by decide +kernel
theorem dX2_testRegister_19 : decode cX2_testRegister 19 = .ok (.istore 4, 2) := by decide +kernel
theorem dX2_testRegister_21 : decode cX2_testRegister 21 = .ok (.aload_n 0, 1) := by decide +kernel
theorem dX2_testRegister_22 : decode cX2_testRegister 22 = .ok (.getfield 12, 3) := by decide +kernel
theorem dX2_testRegister_25 : decode cX2_testRegister 25 = .ok (.aload_n 1, 1) := by decide +kernel
theorem dX2_testRegister_26 : decode cX2_testRegister 26 = .ok (.getfield 103, 3) := by decide +kernel
theorem dX2_testRegister_29 : decode cX2_testRegister 29 = .ok (.iload_n 2, 1) := by decide +kernel
theorem dX2_testRegister_30 : decode cX2_testRegister 30 = .ok (.iaload, 1) := by decide +kernel
theorem dX2_testRegister_31 : decode cX2_testRegister 31 = .ok (.iconst (-1), 1) := by decide +kernel
theorem dX2_testRegister_32 : decode cX2_testRegister 32 = .ok (.iload_n 3, 1) := by decide +kernel
theorem dX2_testRegister_33 : decode cX2_testRegister 33 = .ok (.iload 4, 2) := by decide +kernel
theorem dX2_testRegister_35 : decode cX2_testRegister 35 = .ok (.iconst 0, 1) := by decide +kernel
theorem dX2_testRegister_36 : decode cX2_testRegister 36 = .ok (.invokevirtual 95, 3) := by decide +kernel
theorem dX2_testRegister_39 : decode cX2_testRegister 39 = .ok (.ireturn, 1) := by decide +kernel
theorem dX2_lowerPlainly_0 : decode cX2_lowerPlainly 0 = .ok (.aload_n 1, 1) := by decide +kernel
theorem dX2_lowerPlainly_1 : decode cX2_lowerPlainly 1 = .ok (.getfield 106, 3) := by decide +kernel
theorem dX2_lowerPlainly_4 : decode cX2_lowerPlainly 4 = .ok (.iload_n 2, 1) := by decide +kernel
theorem dX2_lowerPlainly_5 : decode cX2_lowerPlainly 5 = .ok (.iaload, 1) := by decide +kernel
theorem dX2_lowerPlainly_6 : decode cX2_lowerPlainly 6 = .ok (.istore_n 3, 1) := by decide +kernel
theorem dX2_lowerPlainly_7 : decode cX2_lowerPlainly 7 = .ok (.aload_n 1, 1) := by decide +kernel
theorem dX2_lowerPlainly_8 : decode cX2_lowerPlainly 8 = .ok (.getfield 67, 3) := by decide +kernel
theorem dX2_lowerPlainly_11 : decode cX2_lowerPlainly 11 = .ok (.iload_n 2, 1) := by decide +kernel
theorem dX2_lowerPlainly_12 : decode cX2_lowerPlainly 12 = .ok (.iaload, 1) := by decide +kernel
theorem dX2_lowerPlainly_13 : decode cX2_lowerPlainly 13 = .ok (.ifCond .ne 35, 3) := by decide +kernel
theorem dX2_lowerPlainly_16 : decode cX2_lowerPlainly 16 = .ok (.aload_n 1, 1) := by decide +kernel
theorem dX2_lowerPlainly_17 : decode cX2_lowerPlainly 17 = .ok (.getfield 92, 3) := by decide +kernel
theorem dX2_lowerPlainly_20 : decode cX2_lowerPlainly 20 = .ok (.iconst 2, 1) := by decide +kernel
theorem dX2_lowerPlainly_21 : decode cX2_lowerPlainly 21 = .ok (.iload_n 2, 1) := by decide +kernel
theorem dX2_lowerPlainly_22 : decode cX2_lowerPlainly 22 = .ok (.imul, 1) := by decide +kernel
theorem dX2_lowerPlainly_23 : decode cX2_lowerPlainly 23 = .ok (.baload, 1) := by decide +kernel
theorem dX2_lowerPlainly_24 : decode cX2_lowerPlainly 24 = .ok (.ifCond .ne 24, 3) := by decide +kernel
theorem dX2_lowerPlainly_27 : decode cX2_lowerPlainly 27 = .ok (.aload_n 0, 1) := by decide +kernel
theorem dX2_lowerPlainly_28 : decode cX2_lowerPlainly 28 = .ok (.getfield 12, 3) := by decide +kernel
theorem dX2_lowerPlainly_31 : decode cX2_lowerPlainly 31 = .ok (.iconst 0, 1) := by decide +kernel
theorem dX2_lowerPlainly_32 : decode cX2_lowerPlainly 32 = .ok (.iload_n 3, 1) := by decide +kernel
theorem dX2_lowerPlainly_33 : decode cX2_lowerPlainly 33 = .ok (.aload_n 1, 1) := by decide +kernel
theorem dX2_lowerPlainly_34 : decode cX2_lowerPlainly 34 = .ok (.getfield 89, 3) := by decide +kernel
theorem dX2_lowerPlainly_37 : decode cX2_lowerPlainly 37 = .ok (.iconst 2, 1) := by decide +kernel
theorem dX2_lowerPlainly_38 : decode cX2_lowerPlainly 38 = .ok (.iload_n 2, 1) := by decide +kernel
theorem dX2_lowerPlainly_39 : decode cX2_lowerPlainly 39 = .ok (.imul, 1) := by decide +kernel
theorem dX2_lowerPlainly_40 : decode cX2_lowerPlainly 40 = .ok (.iaload, 1) := by decide +kernel
theorem dX2_lowerPlainly_41 : decode cX2_lowerPlainly 41 = .ok (.iconst 0, 1) := by decide +kernel
theorem dX2_lowerPlainly_42 : decode cX2_lowerPlainly 42 = .ok (.iconst 0, 1) := by decide +kernel
theorem dX2_lowerPlainly_43 : decode cX2_lowerPlainly 43 = .ok (.invokevirtual 95, 3) := by decide +kernel
theorem dX2_lowerPlainly_46 : decode cX2_lowerPlainly 46 = .ok (.pop, 1) := by decide +kernel
theorem dX2_lowerPlainly_47 : decode cX2_lowerPlainly 47 = .ok (.return_, 1) := by decide +kernel
theorem dX2_lowerPlainly_48 : decode cX2_lowerPlainly 48 = .ok (.aload_n 0, 1) := by decide +kernel
theorem dX2_lowerPlainly_49 : decode cX2_lowerPlainly 49 = .ok (.aload_n 1, 1) := by decide +kernel
theorem dX2_lowerPlainly_50 : decode cX2_lowerPlainly 50 = .ok (.iconst 2, 1) := by decide +kernel
theorem dX2_lowerPlainly_51 : decode cX2_lowerPlainly 51 = .ok (.iload_n 2, 1) := by decide +kernel
theorem dX2_lowerPlainly_52 : decode cX2_lowerPlainly 52 = .ok (.imul, 1) := by decide +kernel
theorem dX2_lowerPlainly_53 : decode cX2_lowerPlainly 53 = .ok (.invokevirtual 99, 3) := by decide +kernel
theorem dX2_lowerPlainly_56 : decode cX2_lowerPlainly 56 = .ok (.istore 4, 2) := by decide +kernel
theorem dX2_lowerPlainly_58 : decode cX2_lowerPlainly 58 = .ok (.aload_n 1, 1) := by decide +kernel
theorem dX2_lowerPlainly_59 : decode cX2_lowerPlainly 59 = .ok (.getfield 67, 3) := by decide +kernel
theorem dX2_lowerPlainly_62 : decode cX2_lowerPlainly 62 = .ok (.iload_n 2, 1) := by decide +kernel
theorem dX2_lowerPlainly_63 : decode cX2_lowerPlainly 63 = .ok (.iaload, 1) := by decide +kernel
theorem dX2_lowerPlainly_64 : decode cX2_lowerPlainly 64 = .ok (.tableswitch 125 0 3 #[32, 49, 80, 98], 32) := by decide +kernel
theorem dX2_lowerPlainly_96 : decode cX2_lowerPlainly 96 = .ok (.aload_n 0, 1) := by decide +kernel
theorem dX2_lowerPlainly_97 : decode cX2_lowerPlainly 97 = .ok (.getfield 12, 3) := by decide +kernel
theorem dX2_lowerPlainly_100 : decode cX2_lowerPlainly 100 = .ok (.iconst 1, 1) := by decide +kernel
theorem dX2_lowerPlainly_101 : decode cX2_lowerPlainly 101 = .ok (.iload_n 3, 1) := by decide +kernel
theorem dX2_lowerPlainly_102 : decode cX2_lowerPlainly 102 = .ok (.iload 4, 2) := by decide +kernel
theorem dX2_lowerPlainly_104 : decode cX2_lowerPlainly 104 = .ok (.iconst 0, 1) := by decide +kernel
theorem dX2_lowerPlainly_105 : decode cX2_lowerPlainly 105 = .ok (.iconst 0, 1) := by decide +kernel
theorem dX2_lowerPlainly_106 : decode cX2_lowerPlainly 106 = .ok (.invokevirtual 95, 3) := by decide +kernel
theorem dX2_lowerPlainly_109 : decode cX2_lowerPlainly 109 = .ok (.pop, 1) := by decide +kernel
theorem dX2_lowerPlainly_110 : decode cX2_lowerPlainly 110 = .ok (.goto 94, 3) := by decide +kernel
theorem dX2_lowerPlainly_113 : decode cX2_lowerPlainly 113 = .ok (.aload_n 0, 1) := by decide +kernel
theorem dX2_lowerPlainly_114 : decode cX2_lowerPlainly 114 = .ok (.getfield 12, 3) := by decide +kernel
theorem dX2_lowerPlainly_117 : decode cX2_lowerPlainly 117 = .ok (.aload_n 1, 1) := by decide +kernel
theorem dX2_lowerPlainly_118 : decode cX2_lowerPlainly 118 = .ok (.getfield 103, 3) := by decide +kernel
theorem dX2_lowerPlainly_121 : decode cX2_lowerPlainly 121 = .ok (.iload_n 2, 1) := by decide +kernel
theorem dX2_lowerPlainly_122 : decode cX2_lowerPlainly 122 = .ok (.iaload, 1) := by decide +kernel
theorem dX2_lowerPlainly_123 : decode cX2_lowerPlainly 123 = .ok (.iload_n 3, 1) := by decide +kernel
theorem dX2_lowerPlainly_124 : decode cX2_lowerPlainly 124 = .ok (.iload 4, 2) := by decide +kernel
theorem dX2_lowerPlainly_126 : decode cX2_lowerPlainly 126 = .ok (.aload_n 0, 1) := by decide +kernel
theorem dX2_lowerPlainly_127 : decode cX2_lowerPlainly 127 = .ok (.aload_n 1, 1) := by decide +kernel
theorem dX2_lowerPlainly_128 : decode cX2_lowerPlainly 128 = .ok (.iconst 2, 1) := by decide +kernel
theorem dX2_lowerPlainly_129 : decode cX2_lowerPlainly 129 = .ok (.iload_n 2, 1) := by decide +kernel
theorem dX2_lowerPlainly_130 : decode cX2_lowerPlainly 130 = .ok (.imul, 1) := by decide +kernel
theorem dX2_lowerPlainly_131 : decode cX2_lowerPlainly 131 = .ok (.iconst 1, 1) := by decide +kernel
theorem dX2_lowerPlainly_132 : decode cX2_lowerPlainly 132 = .ok (.iadd, 1) := by decide +kernel
theorem dX2_lowerPlainly_133 : decode cX2_lowerPlainly 133 = .ok (.invokevirtual 99, 3) := by decide +kernel
theorem dX2_lowerPlainly_136 : decode cX2_lowerPlainly 136 = .ok (.iconst 0, 1) := by decide +kernel
theorem dX2_lowerPlainly_137 : decode cX2_lowerPlainly 137 = .ok (.invokevirtual 95, 3) := by decide +kernel
theorem dX2_lowerPlainly_140 : decode cX2_lowerPlainly 140 = .ok (.pop, 1) := by decide +kernel
theorem dX2_lowerPlainly_141 : decode cX2_lowerPlainly 141 = .ok (.goto 63, 3) := by decide +kernel
theorem dX2_lowerPlainly_144 : decode cX2_lowerPlainly 144 = .ok (.aload_n 0, 1) := by decide +kernel
theorem dX2_lowerPlainly_145 : decode cX2_lowerPlainly 145 = .ok (.getfield 12, 3) := by decide +kernel
theorem dX2_lowerPlainly_148 : decode cX2_lowerPlainly 148 = .ok (.bipush 14, 2) := by decide +kernel
theorem dX2_lowerPlainly_150 : decode cX2_lowerPlainly 150 = .ok (.iload_n 3, 1) := by decide +kernel
theorem dX2_lowerPlainly_151 : decode cX2_lowerPlainly 151 = .ok (.iload 4, 2) := by decide +kernel
theorem dX2_lowerPlainly_153 : decode cX2_lowerPlainly 153 = .ok (.iconst 0, 1) := by decide +kernel
theorem dX2_lowerPlainly_154 : decode cX2_lowerPlainly 154 = .ok (.iconst 0, 1) := by decide +kernel
theorem dX2_lowerPlainly_155 : decode cX2_lowerPlainly 155 = .ok (.invokevirtual 95, 3) := by decide +kernel
theorem dX2_lowerPlainly_158 : decode cX2_lowerPlainly 158 = .ok (.pop, 1) := by decide +kernel
theorem dX2_lowerPlainly_159 : decode cX2_lowerPlainly 159 = .ok (.goto 45, 3) := by decide +kernel
theorem dX2_lowerPlainly_162 : decode cX2_lowerPlainly 162 = .ok (.aload_n 0, 1) := by decide +kernel
theorem dX2_lowerPlainly_163 : decode cX2_lowerPlainly 163 = .ok (.getfield 12, 3) := by decide +kernel
theorem dX2_lowerPlainly_166 : decode cX2_lowerPlainly 166 = .ok (.bipush 15, 2) := by decide +kernel
theorem dX2_lowerPlainly_168 : decode cX2_lowerPlainly 168 = .ok (.iload 4, 2) := by decide +kernel
theorem dX2_lowerPlainly_170 : decode cX2_lowerPlainly 170 = .ok (.aload_n 0, 1) := by decide +kernel
theorem dX2_lowerPlainly_171 : decode cX2_lowerPlainly 171 = .ok (.aload_n 1, 1) := by decide +kernel
theorem dX2_lowerPlainly_172 : decode cX2_lowerPlainly 172 = .ok (.iconst 2, 1) := by decide +kernel
theorem dX2_lowerPlainly_173 : decode cX2_lowerPlainly 173 = .ok (.iload_n 2, 1) := by decide +kernel
theorem dX2_lowerPlainly_174 : decode cX2_lowerPlainly 174 = .ok (.imul, 1) := by decide +kernel
theorem dX2_lowerPlainly_175 : decode cX2_lowerPlainly 175 = .ok (.iconst 1, 1) := by decide +kernel
theorem dX2_lowerPlainly_176 : decode cX2_lowerPlainly 176 = .ok (.iadd, 1) := by decide +kernel
theorem dX2_lowerPlainly_177 : decode cX2_lowerPlainly 177 = .ok (.invokevirtual 99, 3) := by decide +kernel
theorem dX2_lowerPlainly_180 : decode cX2_lowerPlainly 180 = .ok (.iconst 0, 1) := by decide +kernel
theorem dX2_lowerPlainly_181 : decode cX2_lowerPlainly 181 = .ok (.iconst 0, 1) := by decide +kernel
theorem dX2_lowerPlainly_182 : decode cX2_lowerPlainly 182 = .ok (.invokevirtual 95, 3) := by decide +kernel
theorem dX2_lowerPlainly_185 : decode cX2_lowerPlainly 185 = .ok (.pop, 1) := by decide +kernel
theorem dX2_lowerPlainly_186 : decode cX2_lowerPlainly 186 = .ok (.goto 18, 3) := by decide +kernel
theorem dX2_lowerPlainly_189 : decode cX2_lowerPlainly 189 = .ok (.aload_n 0, 1) := by decide +kernel
theorem dX2_lowerPlainly_190 : decode cX2_lowerPlainly 190 = .ok (.getfield 12, 3) := by decide +kernel
theorem dX2_lowerPlainly_193 : decode cX2_lowerPlainly 193 = .ok (.bipush 18, 2) := by decide +kernel
theorem dX2_lowerPlainly_195 : decode cX2_lowerPlainly 195 = .ok (.iload 4, 2) := by decide +kernel
theorem dX2_lowerPlainly_197 : decode cX2_lowerPlainly 197 = .ok (.iconst 0, 1) := by decide +kernel
theorem dX2_lowerPlainly_198 : decode cX2_lowerPlainly 198 = .ok (.iconst 0, 1) := by decide +kernel
theorem dX2_lowerPlainly_199 : decode cX2_lowerPlainly 199 = .ok (.iconst 0, 1) := by decide +kernel
theorem dX2_lowerPlainly_200 : decode cX2_lowerPlainly 200 = .ok (.invokevirtual 95, 3) := by decide +kernel
theorem dX2_lowerPlainly_203 : decode cX2_lowerPlainly 203 = .ok (.pop, 1) := by decide +kernel
theorem dX2_lowerPlainly_204 : decode cX2_lowerPlainly 204 = .ok (.return_, 1) := by decide +kernel
theorem dX2_lowerWithJumps_0 : decode cX2_lowerWithJumps 0 = .ok (.iload_n 3, 1) := by decide +kernel
theorem dX2_lowerWithJumps_1 : decode cX2_lowerWithJumps 1 = .ok (.bipush 6, 2) := by decide +kernel
theorem dX2_lowerWithJumps_3 : decode cX2_lowerWithJumps 3 = .ok (.if_icmp .lt 4, 3) := by decide +kernel
theorem dX2_lowerWithJumps_6 : decode cX2_lowerWithJumps 6 = .ok (.return_, 1) := by decide +kernel
theorem dX2_lowerWithJumps_7 : decode cX2_lowerWithJumps 7 = .ok (.aload_n 0, 1) := by decide +kernel
theorem dX2_lowerWithJumps_8 : decode cX2_lowerWithJumps 8 = .ok (.aload_n 1, 1) := by decide +kernel
theorem dX2_lowerWithJumps_9 : decode cX2_lowerWithJumps 9 = .ok (.iload_n 2, 1) := by decide +kernel
theorem dX2_lowerWithJumps_10 : decode cX2_lowerWithJumps 10 = .ok (.invokevirtual 109, 3) := by decide +kernel
theorem dX2_lowerWithJumps_13 : decode cX2_lowerWithJumps 13 = .ok (.istore 4, 2) := by decide +kernel
theorem dX2_lowerWithJumps_15 : decode cX2_lowerWithJumps 15 = .ok (.aload_n 0, 1) := by decide +kernel
theorem dX2_lowerWithJumps_16 : decode cX2_lowerWithJumps 16 = .ok (.getfield 12, 3) := by decide +kernel
theorem dX2_lowerWithJumps_19 : decode cX2_lowerWithJumps 19 = .ok (.getfield 54, 3) := by decide +kernel
theorem dX2_lowerWithJumps_22 : decode cX2_lowerWithJumps 22 = .ok (.istore 5, 2) := by decide +kernel
theorem dX2_lowerWithJumps_24 : decode cX2_lowerWithJumps 24 = .ok (.aload_n 0, 1) := by decide +kernel
theorem dX2_lowerWithJumps_25 : decode cX2_lowerWithJumps 25 = .ok (.getfield 12, 3) := by decide +kernel
theorem dX2_lowerWithJumps_28 : decode cX2_lowerWithJumps 28 = .ok (.bipush 17, 2) := by decide +kernel
theorem dX2_lowerWithJumps_30 : decode cX2_lowerWithJumps 30 = .ok (.iload 4, 2) := by decide +kernel
theorem dX2_lowerWithJumps_32 : decode cX2_lowerWithJumps 32 = .ok (.iconst 0, 1) := by decide +kernel
theorem dX2_lowerWithJumps_33 : decode cX2_lowerWithJumps 33 = .ok (.iconst 0, 1) := by decide +kernel
theorem dX2_lowerWithJumps_34 : decode cX2_lowerWithJumps 34 = .ok (.iconst 0, 1) := by decide +kernel
theorem dX2_lowerWithJumps_35 : decode cX2_lowerWithJumps 35 = .ok (.invokevirtual 95, 3) := by decide +kernel
theorem dX2_lowerWithJumps_38 : decode cX2_lowerWithJumps 38 = .ok (.pop, 1) := by decide +kernel
theorem dX2_lowerWithJumps_39 : decode cX2_lowerWithJumps 39 = .ok (.aload_n 0, 1) := by decide +kernel
theorem dX2_lowerWithJumps_40 : decode cX2_lowerWithJumps 40 = .ok (.aload_n 1, 1) := by decide +kernel
theorem dX2_lowerWithJumps_41 : decode cX2_lowerWithJumps 41 = .ok (.iload_n 2, 1) := by decide +kernel
theorem dX2_lowerWithJumps_42 : decode cX2_lowerWithJumps 42 = .ok (.iconst 1, 1) := by decide +kernel
theorem dX2_lowerWithJumps_43 : decode cX2_lowerWithJumps 43 = .ok (.iadd, 1) := by decide +kernel
theorem dX2_lowerWithJumps_44 : decode cX2_lowerWithJumps 44 = .ok (.aload_n 1, 1) := by decide +kernel
theorem dX2_lowerWithJumps_45 : decode cX2_lowerWithJumps 45 = .ok (.getfield 112, 3) := by decide +kernel
theorem dX2_lowerWithJumps_48 : decode cX2_lowerWithJumps 48 = .ok (.iload_n 2, 1) := by decide +kernel
theorem dX2_lowerWithJumps_49 : decode cX2_lowerWithJumps 49 = .ok (.iaload, 1) := by decide +kernel
theorem dX2_lowerWithJumps_50 : decode cX2_lowerWithJumps 50 = .ok (.iload_n 3, 1) := by decide +kernel
theorem dX2_lowerWithJumps_51 : decode cX2_lowerWithJumps 51 = .ok (.iconst 1, 1) := by decide +kernel
theorem dX2_lowerWithJumps_52 : decode cX2_lowerWithJumps 52 = .ok (.iadd, 1) := by decide +kernel
theorem dX2_lowerWithJumps_53 : decode cX2_lowerWithJumps 53 = .ok (.invokevirtual 57, 3) := by decide +kernel
theorem dX2_lowerWithJumps_56 : decode cX2_lowerWithJumps 56 = .ok (.aload_n 1, 1) := by decide +kernel
theorem dX2_lowerWithJumps_57 : decode cX2_lowerWithJumps 57 = .ok (.getfield 112, 3) := by decide +kernel
theorem dX2_lowerWithJumps_60 : decode cX2_lowerWithJumps 60 = .ok (.iload_n 2, 1) := by decide +kernel
theorem dX2_lowerWithJumps_61 : decode cX2_lowerWithJumps 61 = .ok (.iaload, 1) := by decide +kernel
theorem dX2_lowerWithJumps_62 : decode cX2_lowerWithJumps 62 = .ok (.aload_n 1, 1) := by decide +kernel
theorem dX2_lowerWithJumps_63 : decode cX2_lowerWithJumps 63 = .ok (.getfield 64, 3) := by decide +kernel
theorem dX2_lowerWithJumps_66 : decode cX2_lowerWithJumps 66 = .ok (.iload_n 2, 1) := by decide +kernel
theorem dX2_lowerWithJumps_67 : decode cX2_lowerWithJumps 67 = .ok (.iaload, 1) := by decide +kernel
theorem dX2_lowerWithJumps_68 : decode cX2_lowerWithJumps 68 = .ok (.if_icmp .ne 13, 3) := by decide +kernel
theorem dX2_lowerWithJumps_71 : decode cX2_lowerWithJumps 71 = .ok (.aload_n 0, 1) := by decide +kernel
theorem dX2_lowerWithJumps_72 : decode cX2_lowerWithJumps 72 = .ok (.getfield 12, 3) := by decide +kernel
theorem dX2_lowerWithJumps_75 : decode cX2_lowerWithJumps 75 = .ok (.iload 5, 2) := by decide +kernel
theorem dX2_lowerWithJumps_77 : decode cX2_lowerWithJumps 77 = .ok (.invokevirtual 115, 3) := by decide +kernel
theorem dX2_lowerWithJumps_80 : decode cX2_lowerWithJumps 80 = .ok (.return_, 1) := by decide +kernel
theorem dX2_lowerWithJumps_81 : decode cX2_lowerWithJumps 81 = .ok (.aload_n 0, 1) := by decide +kernel
theorem dX2_lowerWithJumps_82 : decode cX2_lowerWithJumps 82 = .ok (.getfield 12, 3) := by decide +kernel
theorem dX2_lowerWithJumps_85 : decode cX2_lowerWithJumps 85 = .ok (.iload_n 2, 1) := by decide +kernel
theorem dX2_lowerWithJumps_86 : decode cX2_lowerWithJumps 86 = .ok (.putfield 70, 3) := by decide +kernel
theorem dX2_lowerWithJumps_89 : decode cX2_lowerWithJumps 89 = .ok (.aload_n 0, 1) := by decide +kernel
theorem dX2_lowerWithJumps_90 : decode cX2_lowerWithJumps 90 = .ok (.getfield 12, 3) := by decide +kernel
theorem dX2_lowerWithJumps_93 : decode cX2_lowerWithJumps 93 = .ok (.getfield 54, 3) := by decide +kernel
theorem dX2_lowerWithJumps_96 : decode cX2_lowerWithJumps 96 = .ok (.istore 6, 2) := by decide +kernel
theorem dX2_lowerWithJumps_98 : decode cX2_lowerWithJumps 98 = .ok (.aload_n 0, 1) := by decide +kernel
theorem dX2_lowerWithJumps_99 : decode cX2_lowerWithJumps 99 = .ok (.getfield 12, 3) := by decide +kernel
theorem dX2_lowerWithJumps_102 : decode cX2_lowerWithJumps 102 = .ok (.bipush 16, 2) := by decide +kernel
theorem dX2_lowerWithJumps_104 : decode cX2_lowerWithJumps 104 = .ok (.iconst 0, 1) := by decide +kernel
theorem dX2_lowerWithJumps_105 : decode cX2_lowerWithJumps 105 = .ok (.iconst 0, 1) := by decide +kernel
theorem dX2_lowerWithJumps_106 : decode cX2_lowerWithJumps 106 = .ok (.iconst 0, 1) := by decide +kernel
theorem dX2_lowerWithJumps_107 : decode cX2_lowerWithJumps 107 = .ok (.iconst 0, 1) := by decide +kernel
theorem dX2_lowerWithJumps_108 : decode cX2_lowerWithJumps 108 = .ok (.invokevirtual 95, 3) := by decide +kernel
theorem dX2_lowerWithJumps_111 : decode cX2_lowerWithJumps 111 = .ok (.pop, 1) := by decide +kernel
theorem dX2_lowerWithJumps_112 : decode cX2_lowerWithJumps 112 = .ok (.aload_n 0, 1) := by decide +kernel
theorem dX2_lowerWithJumps_113 : decode cX2_lowerWithJumps 113 = .ok (.getfield 12, 3) := by decide +kernel
theorem dX2_lowerWithJumps_116 : decode cX2_lowerWithJumps 116 = .ok (.iload 5, 2) := by decide +kernel
theorem dX2_lowerWithJumps_118 : decode cX2_lowerWithJumps 118 = .ok (.invokevirtual 115, 3) := by decide +kernel
theorem dX2_lowerWithJumps_121 : decode cX2_lowerWithJumps 121 = .ok (.aload_n 0, 1) := by decide +kernel
theorem dX2_lowerWithJumps_122 : decode cX2_lowerWithJumps 122 = .ok (.aload_n 1, 1) := by decide +kernel
theorem dX2_lowerWithJumps_123 : decode cX2_lowerWithJumps 123 = .ok (.aload_n 1, 1) := by decide +kernel
theorem dX2_lowerWithJumps_124 : decode cX2_lowerWithJumps 124 = .ok (.getfield 112, 3) := by decide +kernel
theorem dX2_lowerWithJumps_127 : decode cX2_lowerWithJumps 127 = .ok (.iload_n 2, 1) := by decide +kernel
theorem dX2_lowerWithJumps_128 : decode cX2_lowerWithJumps 128 = .ok (.iaload, 1) := by decide +kernel
theorem dX2_lowerWithJumps_129 : decode cX2_lowerWithJumps 129 = .ok (.aload_n 1, 1) := by decide +kernel
theorem dX2_lowerWithJumps_130 : decode cX2_lowerWithJumps 130 = .ok (.getfield 64, 3) := by decide +kernel
theorem dX2_lowerWithJumps_133 : decode cX2_lowerWithJumps 133 = .ok (.iload_n 2, 1) := by decide +kernel
theorem dX2_lowerWithJumps_134 : decode cX2_lowerWithJumps 134 = .ok (.iaload, 1) := by decide +kernel
theorem dX2_lowerWithJumps_135 : decode cX2_lowerWithJumps 135 = .ok (.iload_n 3, 1) := by decide +kernel
theorem dX2_lowerWithJumps_136 : decode cX2_lowerWithJumps 136 = .ok (.iconst 1, 1) := by decide +kernel
theorem dX2_lowerWithJumps_137 : decode cX2_lowerWithJumps 137 = .ok (.iadd, 1) := by decide +kernel
theorem dX2_lowerWithJumps_138 : decode cX2_lowerWithJumps 138 = .ok (.invokevirtual 57, 3) := by decide +kernel
theorem dX2_lowerWithJumps_141 : decode cX2_lowerWithJumps 141 = .ok (.aload_n 0, 1) := by decide +kernel
theorem dX2_lowerWithJumps_142 : decode cX2_lowerWithJumps 142 = .ok (.getfield 12, 3) := by decide +kernel
theorem dX2_lowerWithJumps_145 : decode cX2_lowerWithJumps 145 = .ok (.iload 6, 2) := by decide +kernel
theorem dX2_lowerWithJumps_147 : decode cX2_lowerWithJumps 147 = .ok (.invokevirtual 115, 3) := by decide +kernel
theorem dX2_lowerWithJumps_150 : decode cX2_lowerWithJumps 150 = .ok (.return_, 1) := by decide +kernel
theorem dX2_lowerGuarded_0 : decode cX2_lowerGuarded 0 = .ok (.aload_n 1, 1) := by decide +kernel
theorem dX2_lowerGuarded_1 : decode cX2_lowerGuarded 1 = .ok (.getfield 106, 3) := by decide +kernel
theorem dX2_lowerGuarded_4 : decode cX2_lowerGuarded 4 = .ok (.iload_n 2, 1) := by decide +kernel
theorem dX2_lowerGuarded_5 : decode cX2_lowerGuarded 5 = .ok (.iaload, 1) := by decide +kernel
theorem dX2_lowerGuarded_6 : decode cX2_lowerGuarded 6 = .ok (.istore_n 3, 1) := by decide +kernel
theorem dX2_lowerGuarded_7 : decode cX2_lowerGuarded 7 = .ok (.aload_n 0, 1) := by decide +kernel
theorem dX2_lowerGuarded_8 : decode cX2_lowerGuarded 8 = .ok (.aload_n 1, 1) := by decide +kernel
theorem dX2_lowerGuarded_9 : decode cX2_lowerGuarded 9 = .ok (.iconst 2, 1) := by decide +kernel
theorem dX2_lowerGuarded_10 : decode cX2_lowerGuarded 10 = .ok (.iload_n 2, 1) := by decide +kernel
theorem dX2_lowerGuarded_11 : decode cX2_lowerGuarded 11 = .ok (.imul, 1) := by decide +kernel
theorem dX2_lowerGuarded_12 : decode cX2_lowerGuarded 12 = .ok (.invokevirtual 99, 3) := by decide +kernel
theorem dX2_lowerGuarded_15 : decode cX2_lowerGuarded 15 = .ok (.istore 4, 2) := by decide +kernel
theorem dX2_lowerGuarded_17 : decode cX2_lowerGuarded 17 = .ok (.aload_n 1, 1) := by decide +kernel
theorem dX2_lowerGuarded_18 : decode cX2_lowerGuarded 18 = .ok (.getfield 67, 3) := by decide +kernel
theorem dX2_lowerGuarded_21 : decode cX2_lowerGuarded 21 = .ok (.iload_n 2, 1) := by decide +kernel
theorem dX2_lowerGuarded_22 : decode cX2_lowerGuarded 22 = .ok (.iaload, 1) := by decide +kernel
theorem dX2_lowerGuarded_23 : decode cX2_lowerGuarded 23 = .ok (.tableswitch 115 0 2 #[25, 36, 82], 25) := by decide +kernel
theorem dX2_lowerGuarded_48 : decode cX2_lowerGuarded 48 = .ok (.aload_n 0, 1) := by decide +kernel
theorem dX2_lowerGuarded_49 : decode cX2_lowerGuarded 49 = .ok (.getfield 22, 3) := by decide +kernel
theorem dX2_lowerGuarded_52 : decode cX2_lowerGuarded 52 = .ok (.iload_n 3, 1) := by decide +kernel
theorem dX2_lowerGuarded_53 : decode cX2_lowerGuarded 53 = .ok (.iload 4, 2) := by decide +kernel
theorem dX2_lowerGuarded_55 : decode cX2_lowerGuarded 55 = .ok (.iastore, 1) := by decide +kernel
theorem dX2_lowerGuarded_56 : decode cX2_lowerGuarded 56 = .ok (.goto 108, 3) := by decide +kernel
theorem dX2_lowerGuarded_59 : decode cX2_lowerGuarded 59 = .ok (.aload_n 0, 1) := by decide +kernel
theorem dX2_lowerGuarded_60 : decode cX2_lowerGuarded 60 = .ok (.aload_n 1, 1) := by decide +kernel
theorem dX2_lowerGuarded_61 : decode cX2_lowerGuarded 61 = .ok (.iload_n 2, 1) := by decide +kernel
theorem dX2_lowerGuarded_62 : decode cX2_lowerGuarded 62 = .ok (.aload_n 0, 1) := by decide +kernel
theorem dX2_lowerGuarded_63 : decode cX2_lowerGuarded 63 = .ok (.aload_n 1, 1) := by decide +kernel
theorem dX2_lowerGuarded_64 : decode cX2_lowerGuarded 64 = .ok (.iconst 2, 1) := by decide +kernel
theorem dX2_lowerGuarded_65 : decode cX2_lowerGuarded 65 = .ok (.iload_n 2, 1) := by decide +kernel
theorem dX2_lowerGuarded_66 : decode cX2_lowerGuarded 66 = .ok (.imul, 1) := by decide +kernel
theorem dX2_lowerGuarded_67 : decode cX2_lowerGuarded 67 = .ok (.iconst 1, 1) := by decide +kernel
theorem dX2_lowerGuarded_68 : decode cX2_lowerGuarded 68 = .ok (.iadd, 1) := by decide +kernel
theorem dX2_lowerGuarded_69 : decode cX2_lowerGuarded 69 = .ok (.invokevirtual 99, 3) := by decide +kernel
theorem dX2_lowerGuarded_72 : decode cX2_lowerGuarded 72 = .ok (.invokevirtual 119, 3) := by decide +kernel
theorem dX2_lowerGuarded_75 : decode cX2_lowerGuarded 75 = .ok (.istore 5, 2) := by decide +kernel
theorem dX2_lowerGuarded_77 : decode cX2_lowerGuarded 77 = .ok (.aload_n 0, 1) := by decide +kernel
theorem dX2_lowerGuarded_78 : decode cX2_lowerGuarded 78 = .ok (.getfield 22, 3) := by decide +kernel
theorem dX2_lowerGuarded_81 : decode cX2_lowerGuarded 81 = .ok (.iload_n 3, 1) := by decide +kernel
theorem dX2_lowerGuarded_82 : decode cX2_lowerGuarded 82 = .ok (.aload_n 0, 1) := by decide +kernel
theorem dX2_lowerGuarded_83 : decode cX2_lowerGuarded 83 = .ok (.getfield 12, 3) := by decide +kernel
theorem dX2_lowerGuarded_86 : decode cX2_lowerGuarded 86 = .ok (.aload_n 1, 1) := by decide +kernel
theorem dX2_lowerGuarded_87 : decode cX2_lowerGuarded 87 = .ok (.getfield 103, 3) := by decide +kernel
theorem dX2_lowerGuarded_90 : decode cX2_lowerGuarded 90 = .ok (.iload_n 2, 1) := by decide +kernel
theorem dX2_lowerGuarded_91 : decode cX2_lowerGuarded 91 = .ok (.iaload, 1) := by decide +kernel
theorem dX2_lowerGuarded_92 : decode cX2_lowerGuarded 92 = .ok (.iconst (-1), 1) := by decide +kernel
theorem dX2_lowerGuarded_93 : decode cX2_lowerGuarded 93 = .ok (.iload 4, 2) := by decide +kernel
theorem dX2_lowerGuarded_95 : decode cX2_lowerGuarded 95 = .ok (.iload 5, 2) := by decide +kernel
theorem dX2_lowerGuarded_97 : decode cX2_lowerGuarded 97 = .ok (.iconst 0, 1) := by decide +kernel
theorem dX2_lowerGuarded_98 : decode cX2_lowerGuarded 98 = .ok (.invokevirtual 95, 3) := by decide +kernel
theorem dX2_lowerGuarded_101 : decode cX2_lowerGuarded 101 = .ok (.iastore, 1) := by decide +kernel
theorem dX2_lowerGuarded_102 : decode cX2_lowerGuarded 102 = .ok (.goto 62, 3) := by decide +kernel
theorem dX2_lowerGuarded_105 : decode cX2_lowerGuarded 105 = .ok (.aload_n 0, 1) := by decide +kernel
theorem dX2_lowerGuarded_106 : decode cX2_lowerGuarded 106 = .ok (.aload_n 1, 1) := by decide +kernel
theorem dX2_lowerGuarded_107 : decode cX2_lowerGuarded 107 = .ok (.iload_n 2, 1) := by decide +kernel
theorem dX2_lowerGuarded_108 : decode cX2_lowerGuarded 108 = .ok (.iload 4, 2) := by decide +kernel
theorem dX2_lowerGuarded_110 : decode cX2_lowerGuarded 110 = .ok (.invokevirtual 123, 3) := by decide +kernel
theorem dX2_lowerGuarded_113 : decode cX2_lowerGuarded 113 = .ok (.istore 6, 2) := by decide +kernel
theorem dX2_lowerGuarded_115 : decode cX2_lowerGuarded 115 = .ok (.aload_n 0, 1) := by decide +kernel
theorem dX2_lowerGuarded_116 : decode cX2_lowerGuarded 116 = .ok (.getfield 22, 3) := by decide +kernel
theorem dX2_lowerGuarded_119 : decode cX2_lowerGuarded 119 = .ok (.iload_n 3, 1) := by decide +kernel
theorem dX2_lowerGuarded_120 : decode cX2_lowerGuarded 120 = .ok (.aload_n 0, 1) := by decide +kernel
theorem dX2_lowerGuarded_121 : decode cX2_lowerGuarded 121 = .ok (.getfield 12, 3) := by decide +kernel
theorem dX2_lowerGuarded_124 : decode cX2_lowerGuarded 124 = .ok (.bipush 14, 2) := by decide +kernel
theorem dX2_lowerGuarded_126 : decode cX2_lowerGuarded 126 = .ok (.iconst (-1), 1) := by decide +kernel
theorem dX2_lowerGuarded_127 : decode cX2_lowerGuarded 127 = .ok (.iload 6, 2) := by decide +kernel
theorem dX2_lowerGuarded_129 : decode cX2_lowerGuarded 129 = .ok (.iconst 0, 1) := by decide +kernel
theorem dX2_lowerGuarded_130 : decode cX2_lowerGuarded 130 = .ok (.iconst 0, 1) := by decide +kernel
theorem dX2_lowerGuarded_131 : decode cX2_lowerGuarded 131 = .ok (.invokevirtual 95, 3) := by decide +kernel
theorem dX2_lowerGuarded_134 : decode cX2_lowerGuarded 134 = .ok (.iastore, 1) := by decide +kernel
theorem dX2_lowerGuarded_135 : decode cX2_lowerGuarded 135 = .ok (.goto 29, 3) := by decide +kernel
theorem dX2_lowerGuarded_138 : decode cX2_lowerGuarded 138 = .ok (.aload_n 0, 1) := by decide +kernel
theorem dX2_lowerGuarded_139 : decode cX2_lowerGuarded 139 = .ok (.aload_n 1, 1) := by decide +kernel
theorem dX2_lowerGuarded_140 : decode cX2_lowerGuarded 140 = .ok (.iconst 2, 1) := by decide +kernel
theorem dX2_lowerGuarded_141 : decode cX2_lowerGuarded 141 = .ok (.iload_n 2, 1) := by decide +kernel
theorem dX2_lowerGuarded_142 : decode cX2_lowerGuarded 142 = .ok (.imul, 1) := by decide +kernel
theorem dX2_lowerGuarded_143 : decode cX2_lowerGuarded 143 = .ok (.iconst 1, 1) := by decide +kernel
theorem dX2_lowerGuarded_144 : decode cX2_lowerGuarded 144 = .ok (.iadd, 1) := by decide +kernel
theorem dX2_lowerGuarded_145 : decode cX2_lowerGuarded 145 = .ok (.invokevirtual 99, 3) := by decide +kernel
theorem dX2_lowerGuarded_148 : decode cX2_lowerGuarded 148 = .ok (.istore 7, 2) := by decide +kernel
theorem dX2_lowerGuarded_150 : decode cX2_lowerGuarded 150 = .ok (.aload_n 0, 1) := by decide +kernel
theorem dX2_lowerGuarded_151 : decode cX2_lowerGuarded 151 = .ok (.aload_n 0, 1) := by decide +kernel
theorem dX2_lowerGuarded_152 : decode cX2_lowerGuarded 152 = .ok (.aload_n 1, 1) := by decide +kernel
theorem dX2_lowerGuarded_153 : decode cX2_lowerGuarded 153 = .ok (.iload_n 2, 1) := by decide +kernel
theorem dX2_lowerGuarded_154 : decode cX2_lowerGuarded 154 = .ok (.iload 4, 2) := by decide +kernel
theorem dX2_lowerGuarded_156 : decode cX2_lowerGuarded 156 = .ok (.invokevirtual 123, 3) := by decide +kernel
theorem dX2_lowerGuarded_159 : decode cX2_lowerGuarded 159 = .ok (.iload 7, 2) := by decide +kernel
theorem dX2_lowerGuarded_161 : decode cX2_lowerGuarded 161 = .ok (.invokevirtual 126, 3) := by decide +kernel
theorem dX2_lowerGuarded_164 : decode cX2_lowerGuarded 164 = .ok (.return_, 1) := by decide +kernel
theorem dX2_harmlessDivisor_0 : decode cX2_harmlessDivisor 0 = .ok (.aload_n 1, 1) := by decide +kernel
theorem dX2_harmlessDivisor_1 : decode cX2_harmlessDivisor 1 = .ok (.getfield 92, 3) := by decide +kernel
theorem dX2_harmlessDivisor_4 : decode cX2_harmlessDivisor 4 = .ok (.iconst 2, 1) := by decide +kernel
theorem dX2_harmlessDivisor_5 : decode cX2_harmlessDivisor 5 = .ok (.iload_n 2, 1) := by decide +kernel
theorem dX2_harmlessDivisor_6 : decode cX2_harmlessDivisor 6 = .ok (.imul, 1) := by decide +kernel
theorem dX2_harmlessDivisor_7 : decode cX2_harmlessDivisor 7 = .ok (.iconst 1, 1) := by decide +kernel
theorem dX2_harmlessDivisor_8 : decode cX2_harmlessDivisor 8 = .ok (.iadd, 1) := by decide +kernel
theorem dX2_harmlessDivisor_9 : decode cX2_harmlessDivisor 9 = .ok (.baload, 1) := by decide +kernel
theorem dX2_harmlessDivisor_10 : decode cX2_harmlessDivisor 10 = .ok (.ifCond .ne 16, 3) := by decide +kernel
theorem dX2_harmlessDivisor_13 : decode cX2_harmlessDivisor 13 = .ok (.aload_n 1, 1) := by decide +kernel
theorem dX2_harmlessDivisor_14 : decode cX2_harmlessDivisor 14 = .ok (.getfield 89, 3) := by decide +kernel
theorem dX2_harmlessDivisor_17 : decode cX2_harmlessDivisor 17 = .ok (.iconst 2, 1) := by decide +kernel
theorem dX2_harmlessDivisor_18 : decode cX2_harmlessDivisor 18 = .ok (.iload_n 2, 1) := by decide +kernel
theorem dX2_harmlessDivisor_19 : decode cX2_harmlessDivisor 19 = .ok (.imul, 1) := by decide +kernel
theorem dX2_harmlessDivisor_20 : decode cX2_harmlessDivisor 20 = .ok (.iconst 1, 1) := by decide +kernel
theorem dX2_harmlessDivisor_21 : decode cX2_harmlessDivisor 21 = .ok (.iadd, 1) := by decide +kernel
theorem dX2_harmlessDivisor_22 : decode cX2_harmlessDivisor 22 = .ok (.iaload, 1) := by decide +kernel
theorem dX2_harmlessDivisor_23 : decode cX2_harmlessDivisor 23 = .ok (.ifCond .ne 7, 3) := by decide +kernel
theorem dX2_harmlessDivisor_26 : decode cX2_harmlessDivisor 26 = .ok (.iconst 1, 1) := by decide +kernel
theorem dX2_harmlessDivisor_27 : decode cX2_harmlessDivisor 27 = .ok (.goto 4, 3) := by decide +kernel
theorem dX2_harmlessDivisor_30 : decode cX2_harmlessDivisor 30 = .ok (.iconst 0, 1) := by decide +kernel
theorem dX2_harmlessDivisor_31 : decode cX2_harmlessDivisor 31 = .ok (.istore 4, 2) := by decide +kernel
theorem dX2_harmlessDivisor_33 : decode cX2_harmlessDivisor 33 = .ok (.aload_n 1, 1) := by decide +kernel
theorem dX2_harmlessDivisor_34 : decode cX2_harmlessDivisor 34 = .ok (.getfield 103, 3) := by decide +kernel
theorem dX2_harmlessDivisor_37 : decode cX2_harmlessDivisor 37 = .ok (.iload_n 2, 1) := by decide +kernel
theorem dX2_harmlessDivisor_38 : decode cX2_harmlessDivisor 38 = .ok (.iaload, 1) := by decide +kernel
theorem dX2_harmlessDivisor_39 : decode cX2_harmlessDivisor 39 = .ok (.invokestatic 130, 3) := by decide +kernel
theorem dX2_harmlessDivisor_42 : decode cX2_harmlessDivisor 42 = .ok (.ifCond .eq 17, 3) := by decide +kernel
theorem dX2_harmlessDivisor_45 : decode cX2_harmlessDivisor 45 = .ok (.iload 4, 2) := by decide +kernel
theorem dX2_harmlessDivisor_47 : decode cX2_harmlessDivisor 47 = .ok (.ifCond .eq 12, 3) := by decide +kernel
theorem dX2_harmlessDivisor_50 : decode cX2_harmlessDivisor 50 = .ok (.aload_n 0, 1) := by decide +kernel
theorem dX2_harmlessDivisor_51 : decode cX2_harmlessDivisor 51 = .ok (.iload_n 3, 1) := by decide +kernel
theorem dX2_harmlessDivisor_52 : decode cX2_harmlessDivisor 52 = .ok (.iconst 1, 1) := by decide +kernel
theorem dX2_harmlessDivisor_53 : decode cX2_harmlessDivisor 53 = .ok (.invokevirtual 134, 3) := by decide +kernel
theorem dX2_harmlessDivisor_56 : decode cX2_harmlessDivisor 56 = .ok (.goto 4, 3) := by decide +kernel
theorem dX2_harmlessDivisor_59 : decode cX2_harmlessDivisor 59 = .ok (.iload_n 3, 1) := by decide +kernel
theorem dX2_harmlessDivisor_60 : decode cX2_harmlessDivisor 60 = .ok (.ireturn, 1) := by decide +kernel
theorem dX2_harmlessIndex_0 : decode cX2_harmlessIndex 0 = .ok (.aload_n 1, 1) := by decide +kernel
theorem dX2_harmlessIndex_1 : decode cX2_harmlessIndex 1 = .ok (.getfield 92, 3) := by decide +kernel
theorem dX2_harmlessIndex_4 : decode cX2_harmlessIndex 4 = .ok (.iconst 2, 1) := by decide +kernel
theorem dX2_harmlessIndex_5 : decode cX2_harmlessIndex 5 = .ok (.iload_n 2, 1) := by decide +kernel
theorem dX2_harmlessIndex_6 : decode cX2_harmlessIndex 6 = .ok (.imul, 1) := by decide +kernel
theorem dX2_harmlessIndex_7 : decode cX2_harmlessIndex 7 = .ok (.baload, 1) := by decide +kernel
theorem dX2_harmlessIndex_8 : decode cX2_harmlessIndex 8 = .ok (.ifCond .ne 21, 3) := by decide +kernel
theorem dX2_harmlessIndex_11 : decode cX2_harmlessIndex 11 = .ok (.aload_n 1, 1) := by decide +kernel
theorem dX2_harmlessIndex_12 : decode cX2_harmlessIndex 12 = .ok (.getfield 89, 3) := by decide +kernel
theorem dX2_harmlessIndex_15 : decode cX2_harmlessIndex 15 = .ok (.iconst 2, 1) := by decide +kernel
theorem dX2_harmlessIndex_16 : decode cX2_harmlessIndex 16 = .ok (.iload_n 2, 1) := by decide +kernel
theorem dX2_harmlessIndex_17 : decode cX2_harmlessIndex 17 = .ok (.imul, 1) := by decide +kernel
theorem dX2_harmlessIndex_18 : decode cX2_harmlessIndex 18 = .ok (.iaload, 1) := by decide +kernel
theorem dX2_harmlessIndex_19 : decode cX2_harmlessIndex 19 = .ok (.invokestatic 137, 3) := by decide +kernel
theorem dX2_harmlessIndex_22 : decode cX2_harmlessIndex 22 = .ok (.ifCond .eq 7, 3) := by decide +kernel
theorem dX2_harmlessIndex_25 : decode cX2_harmlessIndex 25 = .ok (.iconst 1, 1) := by decide +kernel
theorem dX2_harmlessIndex_26 : decode cX2_harmlessIndex 26 = .ok (.goto 4, 3) := by decide +kernel
theorem dX2_harmlessIndex_29 : decode cX2_harmlessIndex 29 = .ok (.iconst 0, 1) := by decide +kernel
theorem dX2_harmlessIndex_30 : decode cX2_harmlessIndex 30 = .ok (.istore 4, 2) := by decide +kernel
theorem dX2_harmlessIndex_32 : decode cX2_harmlessIndex 32 = .ok (.iload 4, 2) := by decide +kernel
theorem dX2_harmlessIndex_34 : decode cX2_harmlessIndex 34 = .ok (.ifCond .eq 7, 3) := by decide +kernel
theorem dX2_harmlessIndex_37 : decode cX2_harmlessIndex 37 = .ok (.iload_n 3, 1) := by decide +kernel
theorem dX2_harmlessIndex_38 : decode cX2_harmlessIndex 38 = .ok (.goto 9, 3) := by decide +kernel
theorem dX2_harmlessIndex_41 : decode cX2_harmlessIndex 41 = .ok (.aload_n 0, 1) := by decide +kernel
theorem dX2_harmlessIndex_42 : decode cX2_harmlessIndex 42 = .ok (.iload_n 3, 1) := by decide +kernel
theorem dX2_harmlessIndex_43 : decode cX2_harmlessIndex 43 = .ok (.iconst 0, 1) := by decide +kernel
theorem dX2_harmlessIndex_44 : decode cX2_harmlessIndex 44 = .ok (.invokevirtual 134, 3) := by decide +kernel
theorem dX2_harmlessIndex_47 : decode cX2_harmlessIndex 47 = .ok (.ireturn, 1) := by decide +kernel
theorem dX2_chosenOr_0 : decode cX2_chosenOr 0 = .ok (.aload_n 0, 1) := by decide +kernel
theorem dX2_chosenOr_1 : decode cX2_chosenOr 1 = .ok (.getfield 12, 3) := by decide +kernel
theorem dX2_chosenOr_4 : decode cX2_chosenOr 4 = .ok (.iconst 0, 1) := by decide +kernel
theorem dX2_chosenOr_5 : decode cX2_chosenOr 5 = .ok (.iconst (-1), 1) := by decide +kernel
theorem dX2_chosenOr_6 : decode cX2_chosenOr 6 = .ok (.iload_n 2, 1) := by decide +kernel
theorem dX2_chosenOr_7 : decode cX2_chosenOr 7 = .ok (.iconst 0, 1) := by decide +kernel
theorem dX2_chosenOr_8 : decode cX2_chosenOr 8 = .ok (.iconst 0, 1) := by decide +kernel
theorem dX2_chosenOr_9 : decode cX2_chosenOr 9 = .ok (.invokevirtual 95, 3) := by decide +kernel
theorem dX2_chosenOr_12 : decode cX2_chosenOr 12 = .ok (.istore_n 3, 1) := by decide +kernel
theorem dX2_chosenOr_13 : decode cX2_chosenOr 13 = .ok (.aload_n 0, 1) := by decide +kernel
theorem dX2_chosenOr_14 : decode cX2_chosenOr 14 = .ok (.getfield 12, 3) := by decide +kernel
theorem dX2_chosenOr_17 : decode cX2_chosenOr 17 = .ok (.bipush 13, 2) := by decide +kernel
theorem dX2_chosenOr_19 : decode cX2_chosenOr 19 = .ok (.iconst (-1), 1) := by decide +kernel
theorem dX2_chosenOr_20 : decode cX2_chosenOr 20 = .ok (.aload_n 0, 1) := by decide +kernel
theorem dX2_chosenOr_21 : decode cX2_chosenOr 21 = .ok (.getfield 34, 3) := by decide +kernel
theorem dX2_chosenOr_24 : decode cX2_chosenOr 24 = .ok (.iload_n 1, 1) := by decide +kernel
theorem dX2_chosenOr_25 : decode cX2_chosenOr 25 = .ok (.iload_n 3, 1) := by decide +kernel
theorem dX2_chosenOr_26 : decode cX2_chosenOr 26 = .ok (.invokevirtual 95, 3) := by decide +kernel
theorem dX2_chosenOr_29 : decode cX2_chosenOr 29 = .ok (.ireturn, 1) := by decide +kernel
theorem dX2_guardedWrite_0 : decode cX2_guardedWrite 0 = .ok (.aload_n 0, 1) := by decide +kernel
theorem dX2_guardedWrite_1 : decode cX2_guardedWrite 1 = .ok (.getfield 12, 3) := by decide +kernel
theorem dX2_guardedWrite_4 : decode cX2_guardedWrite 4 = .ok (.bipush 14, 2) := by decide +kernel
theorem dX2_guardedWrite_6 : decode cX2_guardedWrite 6 = .ok (.iconst (-1), 1) := by decide +kernel
theorem dX2_guardedWrite_7 : decode cX2_guardedWrite 7 = .ok (.iload_n 1, 1) := by decide +kernel
theorem dX2_guardedWrite_8 : decode cX2_guardedWrite 8 = .ok (.iconst 0, 1) := by decide +kernel
theorem dX2_guardedWrite_9 : decode cX2_guardedWrite 9 = .ok (.iconst 0, 1) := by decide +kernel
theorem dX2_guardedWrite_10 : decode cX2_guardedWrite 10 = .ok (.invokevirtual 95, 3) := by decide +kernel
theorem dX2_guardedWrite_13 : decode cX2_guardedWrite 13 = .ok (.istore_n 3, 1) := by decide +kernel
theorem dX2_guardedWrite_14 : decode cX2_guardedWrite 14 = .ok (.aload_n 0, 1) := by decide +kernel
theorem dX2_guardedWrite_15 : decode cX2_guardedWrite 15 = .ok (.getfield 12, 3) := by decide +kernel
theorem dX2_guardedWrite_18 : decode cX2_guardedWrite 18 = .ok (.bipush 13, 2) := by decide +kernel
theorem dX2_guardedWrite_20 : decode cX2_guardedWrite 20 = .ok (.iconst (-1), 1) := by decide +kernel
theorem dX2_guardedWrite_21 : decode cX2_guardedWrite 21 = .ok (.aload_n 0, 1) := by decide +kernel
theorem dX2_guardedWrite_22 : decode cX2_guardedWrite 22 = .ok (.getfield 34, 3) := by decide +kernel
theorem dX2_guardedWrite_25 : decode cX2_guardedWrite 25 = .ok (.iload_n 2, 1) := by decide +kernel
theorem dX2_guardedWrite_26 : decode cX2_guardedWrite 26 = .ok (.iload_n 3, 1) := by decide +kernel
theorem dX2_guardedWrite_27 : decode cX2_guardedWrite 27 = .ok (.invokevirtual 95, 3) := by decide +kernel
theorem dX2_guardedWrite_30 : decode cX2_guardedWrite 30 = .ok (.istore 4, 2) := by decide +kernel
theorem dX2_guardedWrite_32 : decode cX2_guardedWrite 32 = .ok (.aload_n 0, 1) := by decide +kernel
theorem dX2_guardedWrite_33 : decode cX2_guardedWrite 33 = .ok (.getfield 12, 3) := by decide +kernel
theorem dX2_guardedWrite_36 : decode cX2_guardedWrite 36 = .ok (.bipush 15, 2) := by decide +kernel
theorem dX2_guardedWrite_38 : decode cX2_guardedWrite 38 = .ok (.iload_n 1, 1) := by decide +kernel
theorem dX2_guardedWrite_39 : decode cX2_guardedWrite 39 = .ok (.iload 4, 2) := by decide +kernel
theorem dX2_guardedWrite_41 : decode cX2_guardedWrite 41 = .ok (.iconst 0, 1) := by decide +kernel
theorem dX2_guardedWrite_42 : decode cX2_guardedWrite 42 = .ok (.iconst 0, 1) := by decide +kernel
theorem dX2_guardedWrite_43 : decode cX2_guardedWrite 43 = .ok (.invokevirtual 95, 3) := by decide +kernel
theorem dX2_guardedWrite_46 : decode cX2_guardedWrite 46 = .ok (.pop, 1) := by decide +kernel
theorem dX2_guardedWrite_47 : decode cX2_guardedWrite 47 = .ok (.return_, 1) := by decide +kernel
theorem dX2_convert_0 : decode cX2_convert 0 = .ok (.iload_n 3, 1) := by decide +kernel
theorem dX2_convert_1 : decode cX2_convert 1 = .ok (.bipush 6, 2) := by decide +kernel
theorem dX2_convert_3 : decode cX2_convert 3 = .ok (.if_icmp .lt 4, 3) := by decide +kernel
theorem dX2_convert_6 : decode cX2_convert 6 = .ok (.return_, 1) := by decide +kernel
theorem dX2_convert_7 : decode cX2_convert 7 = .ok (.aload_n 0, 1) := by decide +kernel
theorem dX2_convert_8 : decode cX2_convert 8 = .ok (.getfield 34, 3) := by decide +kernel
theorem dX2_convert_11 : decode cX2_convert 11 = .ok (.istore 4, 2) := by decide +kernel
theorem dX2_convert_13 : decode cX2_convert 13 = .ok (.aload_n 0, 1) := by decide +kernel
theorem dX2_convert_14 : decode cX2_convert 14 = .ok (.aload_n 1, 1) := by decide +kernel
theorem dX2_convert_15 : decode cX2_convert 15 = .ok (.iload_n 2, 1) := by decide +kernel
theorem dX2_convert_16 : decode cX2_convert 16 = .ok (.invokevirtual 109, 3) := by decide +kernel
theorem dX2_convert_19 : decode cX2_convert 19 = .ok (.istore 5, 2) := by decide +kernel
theorem dX2_convert_21 : decode cX2_convert 21 = .ok (.aload_n 0, 1) := by decide +kernel
theorem dX2_convert_22 : decode cX2_convert 22 = .ok (.getfield 22, 3) := by decide +kernel
theorem dX2_convert_25 : decode cX2_convert 25 = .ok (.iconst 0, 1) := by decide +kernel
theorem dX2_convert_26 : decode cX2_convert 26 = .ok (.aload_n 0, 1) := by decide +kernel
theorem dX2_convert_27 : decode cX2_convert 27 = .ok (.getfield 28, 3) := by decide +kernel
theorem dX2_convert_30 : decode cX2_convert 30 = .ok (.iload_n 3, 1) := by decide +kernel
theorem dX2_convert_31 : decode cX2_convert 31 = .ok (.aaload, 1) := by decide +kernel
theorem dX2_convert_32 : decode cX2_convert 32 = .ok (.iconst 0, 1) := by decide +kernel
theorem dX2_convert_33 : decode cX2_convert 33 = .ok (.bipush 16, 2) := by decide +kernel
theorem dX2_convert_35 : decode cX2_convert 35 = .ok (.invokestatic 140, 3) := by decide +kernel
theorem dX2_convert_38 : decode cX2_convert 38 = .ok (.iload_n 2, 1) := by decide +kernel
theorem dX2_convert_39 : decode cX2_convert 39 = .ok (.iconst 1, 1) := by decide +kernel
theorem dX2_convert_40 : decode cX2_convert 40 = .ok (.iadd, 1) := by decide +kernel
theorem dX2_convert_41 : decode cX2_convert 41 = .ok (.aload_n 1, 1) := by decide +kernel
theorem dX2_convert_42 : decode cX2_convert 42 = .ok (.getfield 112, 3) := by decide +kernel
theorem dX2_convert_45 : decode cX2_convert 45 = .ok (.iload_n 2, 1) := by decide +kernel
theorem dX2_convert_46 : decode cX2_convert 46 = .ok (.iaload, 1) := by decide +kernel
theorem dX2_convert_47 : decode cX2_convert 47 = .ok (.if_icmp .ge 32, 3) := by decide +kernel
theorem dX2_convert_50 : decode cX2_convert 50 = .ok (.aload_n 0, 1) := by decide +kernel
theorem dX2_convert_51 : decode cX2_convert 51 = .ok (.aload_n 0, 1) := by decide +kernel
theorem dX2_convert_52 : decode cX2_convert 52 = .ok (.iload 4, 2) := by decide +kernel
theorem dX2_convert_54 : decode cX2_convert 54 = .ok (.iload 5, 2) := by decide +kernel
theorem dX2_convert_56 : decode cX2_convert 56 = .ok (.invokevirtual 146, 3) := by decide +kernel
theorem dX2_convert_59 : decode cX2_convert 59 = .ok (.putfield 34, 3) := by decide +kernel
theorem dX2_convert_62 : decode cX2_convert 62 = .ok (.aload_n 0, 1) := by decide +kernel
theorem dX2_convert_63 : decode cX2_convert 63 = .ok (.aload_n 1, 1) := by decide +kernel
theorem dX2_convert_64 : decode cX2_convert 64 = .ok (.iload_n 2, 1) := by decide +kernel
theorem dX2_convert_65 : decode cX2_convert 65 = .ok (.iconst 1, 1) := by decide +kernel
theorem dX2_convert_66 : decode cX2_convert 66 = .ok (.iadd, 1) := by decide +kernel
theorem dX2_convert_67 : decode cX2_convert 67 = .ok (.aload_n 1, 1) := by decide +kernel
theorem dX2_convert_68 : decode cX2_convert 68 = .ok (.getfield 112, 3) := by decide +kernel
theorem dX2_convert_71 : decode cX2_convert 71 = .ok (.iload_n 2, 1) := by decide +kernel
theorem dX2_convert_72 : decode cX2_convert 72 = .ok (.iaload, 1) := by decide +kernel
theorem dX2_convert_73 : decode cX2_convert 73 = .ok (.iload_n 3, 1) := by decide +kernel
theorem dX2_convert_74 : decode cX2_convert 74 = .ok (.iconst 1, 1) := by decide +kernel
theorem dX2_convert_75 : decode cX2_convert 75 = .ok (.iadd, 1) := by decide +kernel
theorem dX2_convert_76 : decode cX2_convert 76 = .ok (.invokevirtual 57, 3) := by decide +kernel
theorem dX2_convert_79 : decode cX2_convert 79 = .ok (.aload_n 0, 1) := by decide +kernel
theorem dX2_convert_80 : decode cX2_convert 80 = .ok (.getfield 22, 3) := by decide +kernel
theorem dX2_convert_83 : decode cX2_convert 83 = .ok (.iconst 0, 1) := by decide +kernel
theorem dX2_convert_84 : decode cX2_convert 84 = .ok (.aload_n 0, 1) := by decide +kernel
theorem dX2_convert_85 : decode cX2_convert 85 = .ok (.getfield 31, 3) := by decide +kernel
theorem dX2_convert_88 : decode cX2_convert 88 = .ok (.iload_n 3, 1) := by decide +kernel
theorem dX2_convert_89 : decode cX2_convert 89 = .ok (.aaload, 1) := by decide +kernel
theorem dX2_convert_90 : decode cX2_convert 90 = .ok (.iconst 0, 1) := by decide +kernel
theorem dX2_convert_91 : decode cX2_convert 91 = .ok (.bipush 16, 2) := by decide +kernel
theorem dX2_convert_93 : decode cX2_convert 93 = .ok (.invokestatic 140, 3) := by decide +kernel
theorem dX2_convert_96 : decode cX2_convert 96 = .ok (.aload_n 0, 1) := by decide +kernel
theorem dX2_convert_97 : decode cX2_convert 97 = .ok (.getfield 28, 3) := by decide +kernel
theorem dX2_convert_100 : decode cX2_convert 100 = .ok (.iload_n 3, 1) := by decide +kernel
theorem dX2_convert_101 : decode cX2_convert 101 = .ok (.aaload, 1) := by decide +kernel
theorem dX2_convert_102 : decode cX2_convert 102 = .ok (.iconst 0, 1) := by decide +kernel
theorem dX2_convert_103 : decode cX2_convert 103 = .ok (.aload_n 0, 1) := by decide +kernel
theorem dX2_convert_104 : decode cX2_convert 104 = .ok (.getfield 22, 3) := by decide +kernel
theorem dX2_convert_107 : decode cX2_convert 107 = .ok (.iconst 0, 1) := by decide +kernel
theorem dX2_convert_108 : decode cX2_convert 108 = .ok (.bipush 16, 2) := by decide +kernel
theorem dX2_convert_110 : decode cX2_convert 110 = .ok (.invokestatic 140, 3) := by decide +kernel
theorem dX2_convert_113 : decode cX2_convert 113 = .ok (.aload_n 0, 1) := by decide +kernel
theorem dX2_convert_114 : decode cX2_convert 114 = .ok (.getfield 12, 3) := by decide +kernel
theorem dX2_convert_117 : decode cX2_convert 117 = .ok (.iload_n 2, 1) := by decide +kernel
theorem dX2_convert_118 : decode cX2_convert 118 = .ok (.putfield 70, 3) := by decide +kernel
theorem dX2_convert_121 : decode cX2_convert 121 = .ok (.aload_n 1, 1) := by decide +kernel
theorem dX2_convert_122 : decode cX2_convert 122 = .ok (.getfield 112, 3) := by decide +kernel
theorem dX2_convert_125 : decode cX2_convert 125 = .ok (.iload_n 2, 1) := by decide +kernel
theorem dX2_convert_126 : decode cX2_convert 126 = .ok (.iaload, 1) := by decide +kernel
theorem dX2_convert_127 : decode cX2_convert 127 = .ok (.aload_n 1, 1) := by decide +kernel
theorem dX2_convert_128 : decode cX2_convert 128 = .ok (.getfield 64, 3) := by decide +kernel
theorem dX2_convert_131 : decode cX2_convert 131 = .ok (.iload_n 2, 1) := by decide +kernel
theorem dX2_convert_132 : decode cX2_convert 132 = .ok (.iaload, 1) := by decide +kernel
theorem dX2_convert_133 : decode cX2_convert 133 = .ok (.if_icmp .ge 66, 3) := by decide +kernel
theorem dX2_convert_136 : decode cX2_convert 136 = .ok (.aload_n 0, 1) := by decide +kernel
theorem dX2_convert_137 : decode cX2_convert 137 = .ok (.getfield 12, 3) := by decide +kernel
theorem dX2_convert_140 : decode cX2_convert 140 = .ok (.iconst 0, 1) := by decide +kernel
theorem dX2_convert_141 : decode cX2_convert 141 = .ok (.iconst (-1), 1) := by decide +kernel
theorem dX2_convert_142 : decode cX2_convert 142 = .ok (.iconst 0, 1) := by decide +kernel
theorem dX2_convert_143 : decode cX2_convert 143 = .ok (.iconst 0, 1) := by decide +kernel
theorem dX2_convert_144 : decode cX2_convert 144 = .ok (.iconst 0, 1) := by decide +kernel
theorem dX2_convert_145 : decode cX2_convert 145 = .ok (.invokevirtual 95, 3) := by decide +kernel
theorem dX2_convert_148 : decode cX2_convert 148 = .ok (.istore 6, 2) := by decide +kernel
theorem dX2_convert_150 : decode cX2_convert 150 = .ok (.aload_n 0, 1) := by decide +kernel
theorem dX2_convert_151 : decode cX2_convert 151 = .ok (.getfield 12, 3) := by decide +kernel
theorem dX2_convert_154 : decode cX2_convert 154 = .ok (.bipush 10, 2) := by decide +kernel
theorem dX2_convert_156 : decode cX2_convert 156 = .ok (.iconst (-1), 1) := by decide +kernel
theorem dX2_convert_157 : decode cX2_convert 157 = .ok (.iload 5, 2) := by decide +kernel
theorem dX2_convert_159 : decode cX2_convert 159 = .ok (.iload 6, 2) := by decide +kernel
theorem dX2_convert_161 : decode cX2_convert 161 = .ok (.iconst 0, 1) := by decide +kernel
theorem dX2_convert_162 : decode cX2_convert 162 = .ok (.invokevirtual 95, 3) := by decide +kernel
theorem dX2_convert_165 : decode cX2_convert 165 = .ok (.istore 7, 2) := by decide +kernel
theorem dX2_convert_167 : decode cX2_convert 167 = .ok (.aload_n 0, 1) := by decide +kernel
theorem dX2_convert_168 : decode cX2_convert 168 = .ok (.aload_n 0, 1) := by decide +kernel
theorem dX2_convert_169 : decode cX2_convert 169 = .ok (.iload 4, 2) := by decide +kernel
theorem dX2_convert_171 : decode cX2_convert 171 = .ok (.iload 7, 2) := by decide +kernel
theorem dX2_convert_173 : decode cX2_convert 173 = .ok (.invokevirtual 146, 3) := by decide +kernel
theorem dX2_convert_176 : decode cX2_convert 176 = .ok (.putfield 34, 3) := by decide +kernel
theorem dX2_convert_179 : decode cX2_convert 179 = .ok (.aload_n 0, 1) := by decide +kernel
theorem dX2_convert_180 : decode cX2_convert 180 = .ok (.aload_n 1, 1) := by decide +kernel
theorem dX2_convert_181 : decode cX2_convert 181 = .ok (.aload_n 1, 1) := by decide +kernel
theorem dX2_convert_182 : decode cX2_convert 182 = .ok (.getfield 112, 3) := by decide +kernel
theorem dX2_convert_185 : decode cX2_convert 185 = .ok (.iload_n 2, 1) := by decide +kernel
theorem dX2_convert_186 : decode cX2_convert 186 = .ok (.iaload, 1) := by decide +kernel
theorem dX2_convert_187 : decode cX2_convert 187 = .ok (.aload_n 1, 1) := by decide +kernel
theorem dX2_convert_188 : decode cX2_convert 188 = .ok (.getfield 64, 3) := by decide +kernel
theorem dX2_convert_191 : decode cX2_convert 191 = .ok (.iload_n 2, 1) := by decide +kernel
theorem dX2_convert_192 : decode cX2_convert 192 = .ok (.iaload, 1) := by decide +kernel
theorem dX2_convert_193 : decode cX2_convert 193 = .ok (.iload_n 3, 1) := by decide +kernel
theorem dX2_convert_194 : decode cX2_convert 194 = .ok (.iconst 1, 1) := by decide +kernel
theorem dX2_convert_195 : decode cX2_convert 195 = .ok (.iadd, 1) := by decide +kernel
theorem dX2_convert_196 : decode cX2_convert 196 = .ok (.invokevirtual 57, 3) := by decide +kernel
theorem dX2_convert_199 : decode cX2_convert 199 = .ok (.aload_n 0, 1) := by decide +kernel
theorem dX2_convert_200 : decode cX2_convert 200 = .ok (.getfield 12, 3) := by decide +kernel
theorem dX2_convert_203 : decode cX2_convert 203 = .ok (.iload_n 2, 1) := by decide +kernel
theorem dX2_convert_204 : decode cX2_convert 204 = .ok (.putfield 70, 3) := by decide +kernel
theorem dX2_convert_207 : decode cX2_convert 207 = .ok (.aload_n 0, 1) := by decide +kernel
theorem dX2_convert_208 : decode cX2_convert 208 = .ok (.iload 4, 2) := by decide +kernel
theorem dX2_convert_210 : decode cX2_convert 210 = .ok (.putfield 34, 3) := by decide +kernel
theorem dX2_convert_213 : decode cX2_convert 213 = .ok (.aload_n 0, 1) := by decide +kernel
theorem dX2_convert_214 : decode cX2_convert 214 = .ok (.iload 5, 2) := by decide +kernel
theorem dX2_convert_216 : decode cX2_convert 216 = .ok (.iload_n 3, 1) := by decide +kernel
theorem dX2_convert_217 : decode cX2_convert 217 = .ok (.invokevirtual 149, 3) := by decide +kernel
theorem dX2_convert_220 : decode cX2_convert 220 = .ok (.iload 4, 2) := by decide +kernel
theorem dX2_convert_222 : decode cX2_convert 222 = .ok (.iconst (-1), 1) := by decide +kernel
theorem dX2_convert_223 : decode cX2_convert 223 = .ok (.if_icmp .ne 7, 3) := by decide +kernel
theorem dX2_convert_226 : decode cX2_convert 226 = .ok (.aload_n 0, 1) := by decide +kernel
theorem dX2_convert_227 : decode cX2_convert 227 = .ok (.invokevirtual 152, 3) := by decide +kernel
theorem dX2_convert_230 : decode cX2_convert 230 = .ok (.return_, 1) := by decide +kernel
theorem dX2_guardWithin_0 : decode cX2_guardWithin 0 = .ok (.iload_n 1, 1) := by decide +kernel
theorem dX2_guardWithin_1 : decode cX2_guardWithin 1 = .ok (.iconst (-1), 1) := by decide +kernel
theorem dX2_guardWithin_2 : decode cX2_guardWithin 2 = .ok (.if_icmp .ne 7, 3) := by decide +kernel
theorem dX2_guardWithin_5 : decode cX2_guardWithin 5 = .ok (.iload_n 2, 1) := by decide +kernel
theorem dX2_guardWithin_6 : decode cX2_guardWithin 6 = .ok (.goto 16, 3) := by decide +kernel
theorem dX2_guardWithin_9 : decode cX2_guardWithin 9 = .ok (.aload_n 0, 1) := by decide +kernel
theorem dX2_guardWithin_10 : decode cX2_guardWithin 10 = .ok (.getfield 12, 3) := by decide +kernel
theorem dX2_guardWithin_13 : decode cX2_guardWithin 13 = .ok (.bipush 7, 2) := by decide +kernel
theorem dX2_guardWithin_15 : decode cX2_guardWithin 15 = .ok (.iconst (-1), 1) := by decide +kernel
theorem dX2_guardWithin_16 : decode cX2_guardWithin 16 = .ok (.iload_n 1, 1) := by decide +kernel
theorem dX2_guardWithin_17 : decode cX2_guardWithin 17 = .ok (.iload_n 2, 1) := by decide +kernel
theorem dX2_guardWithin_18 : decode cX2_guardWithin 18 = .ok (.iconst 0, 1) := by decide +kernel
theorem dX2_guardWithin_19 : decode cX2_guardWithin 19 = .ok (.invokevirtual 95, 3) := by decide +kernel
theorem dX2_guardWithin_22 : decode cX2_guardWithin 22 = .ok (.ireturn, 1) := by decide +kernel
theorem dX2_chooseSides_0 : decode cX2_chooseSides 0 = .ok (.iconst 0, 1) := by decide +kernel
