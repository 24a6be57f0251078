theorem dX6_readNumber_158 : decode cX6_readNumber 158 = .ok (.l2i, 1) := by decide +kernel
theorem dX6_readNumber_159 : decode cX6_readNumber 159 = .ok (.iastore, 1) := by decide +kernel
theorem dX6_readNumber_160 : decode cX6_readNumber 160 = .ok (.return_, 1) := by decide +kernel
theorem dX6_readValue_0 : decode cX6_readValue 0 = .ok (.aload_n 0, 1) := by decide +kernel
theorem dX6_readValue_1 : decode cX6_readValue 1 = .ok (.getfield 124, 3) := by decide +kernel
theorem dX6_readValue_4 : decode cX6_readValue 4 = .ok (.ifCond .le 4, 3) := by decide +kernel
theorem dX6_readValue_7 : decode cX6_readValue 7 = .ok (.return_, 1) := by decide +kernel
theorem dX6_readValue_8 : decode cX6_readValue 8 = .ok (.aload_n 0, 1) := by decide +kernel
theorem dX6_readValue_9 : decode cX6_readValue 9 = .ok (.invokevirtual 133, 3) := by decide +kernel
theorem dX6_readValue_12 : decode cX6_readValue 12 = .ok (.istore_n 3, 1) := by decide +kernel
theorem dX6_readValue_13 : decode cX6_readValue 13 = .ok (.iload_n 3, 1) := by decide +kernel
theorem dX6_readValue_14 : decode cX6_readValue 14 = .ok (.invokestatic 153, 3) := by decide +kernel
theorem dX6_readValue_17 : decode cX6_readValue 17 = .ok (.ifCond .eq 43, 3) := by decide +kernel
theorem dX6_readValue_20 : decode cX6_readValue 20 = .ok (.aload_n 0, 1) := by decide +kernel
theorem dX6_readValue_21 : decode cX6_readValue 21 = .ok (.getfield 19, 3) := by decide +kernel
theorem dX6_readValue_24 : decode cX6_readValue 24 = .ok (.bipush 9, 2) := by decide +kernel
theorem dX6_readValue_26 : decode cX6_readValue 26 = .ok (.iload_n 1, 1) := by decide +kernel
theorem dX6_readValue_27 : decode cX6_readValue 27 = .ok (.imul, 1) := by decide +kernel
theorem dX6_readValue_28 : decode cX6_readValue 28 = .ok (.iload_n 2, 1) := by decide +kernel
theorem dX6_readValue_29 : decode cX6_readValue 29 = .ok (.iadd, 1) := by decide +kernel
theorem dX6_readValue_30 : decode cX6_readValue 30 = .ok (.iconst 1, 1) := by decide +kernel
theorem dX6_readValue_31 : decode cX6_readValue 31 = .ok (.iastore, 1) := by decide +kernel
theorem dX6_readValue_32 : decode cX6_readValue 32 = .ok (.aload_n 0, 1) := by decide +kernel
theorem dX6_readValue_33 : decode cX6_readValue 33 = .ok (.getfield 19, 3) := by decide +kernel
theorem dX6_readValue_36 : decode cX6_readValue 36 = .ok (.bipush 9, 2) := by decide +kernel
theorem dX6_readValue_38 : decode cX6_readValue 38 = .ok (.iload_n 1, 1) := by decide +kernel
theorem dX6_readValue_39 : decode cX6_readValue 39 = .ok (.imul, 1) := by decide +kernel
theorem dX6_readValue_40 : decode cX6_readValue 40 = .ok (.iload_n 2, 1) := by decide +kernel
theorem dX6_readValue_41 : decode cX6_readValue 41 = .ok (.iadd, 1) := by decide +kernel
theorem dX6_readValue_42 : decode cX6_readValue 42 = .ok (.iconst 1, 1) := by decide +kernel
theorem dX6_readValue_43 : decode cX6_readValue 43 = .ok (.iadd, 1) := by decide +kernel
theorem dX6_readValue_44 : decode cX6_readValue 44 = .ok (.iload_n 3, 1) := by decide +kernel
theorem dX6_readValue_45 : decode cX6_readValue 45 = .ok (.bipush 97, 2) := by decide +kernel
theorem dX6_readValue_47 : decode cX6_readValue 47 = .ok (.isub, 1) := by decide +kernel
theorem dX6_readValue_48 : decode cX6_readValue 48 = .ok (.iastore, 1) := by decide +kernel
theorem dX6_readValue_49 : decode cX6_readValue 49 = .ok (.aload_n 0, 1) := by decide +kernel
theorem dX6_readValue_50 : decode cX6_readValue 50 = .ok (.dup, 1) := by decide +kernel
theorem dX6_readValue_51 : decode cX6_readValue 51 = .ok (.getfield 130, 3) := by decide +kernel
theorem dX6_readValue_54 : decode cX6_readValue 54 = .ok (.iconst 1, 1) := by decide +kernel
theorem dX6_readValue_55 : decode cX6_readValue 55 = .ok (.iadd, 1) := by decide +kernel
theorem dX6_readValue_56 : decode cX6_readValue 56 = .ok (.putfield 130, 3) := by decide +kernel
theorem dX6_readValue_59 : decode cX6_readValue 59 = .ok (.return_, 1) := by decide +kernel
theorem dX6_readValue_60 : decode cX6_readValue 60 = .ok (.iload_n 3, 1) := by decide +kernel
theorem dX6_readValue_61 : decode cX6_readValue 61 = .ok (.bipush 45, 2) := by decide +kernel
theorem dX6_readValue_63 : decode cX6_readValue 63 = .ok (.if_icmp .ne 7, 3) := by decide +kernel
theorem dX6_readValue_66 : decode cX6_readValue 66 = .ok (.iconst 1, 1) := by decide +kernel
theorem dX6_readValue_67 : decode cX6_readValue 67 = .ok (.goto 4, 3) := by decide +kernel
theorem dX6_readValue_70 : decode cX6_readValue 70 = .ok (.iconst 0, 1) := by decide +kernel
theorem dX6_readValue_71 : decode cX6_readValue 71 = .ok (.istore 4, 2) := by decide +kernel
theorem dX6_readValue_73 : decode cX6_readValue 73 = .ok (.iload 4, 2) := by decide +kernel
theorem dX6_readValue_75 : decode cX6_readValue 75 = .ok (.ifCond .eq 18, 3) := by decide +kernel
theorem dX6_readValue_78 : decode cX6_readValue 78 = .ok (.aload_n 0, 1) := by decide +kernel
theorem dX6_readValue_79 : decode cX6_readValue 79 = .ok (.dup, 1) := by decide +kernel
theorem dX6_readValue_80 : decode cX6_readValue 80 = .ok (.getfield 130, 3) := by decide +kernel
theorem dX6_readValue_83 : decode cX6_readValue 83 = .ok (.iconst 1, 1) := by decide +kernel
theorem dX6_readValue_84 : decode cX6_readValue 84 = .ok (.iadd, 1) := by decide +kernel
theorem dX6_readValue_85 : decode cX6_readValue 85 = .ok (.putfield 130, 3) := by decide +kernel
theorem dX6_readValue_88 : decode cX6_readValue 88 = .ok (.aload_n 0, 1) := by decide +kernel
theorem dX6_readValue_89 : decode cX6_readValue 89 = .ok (.invokevirtual 133, 3) := by decide +kernel
theorem dX6_readValue_92 : decode cX6_readValue 92 = .ok (.pop, 1) := by decide +kernel
theorem dX6_readValue_93 : decode cX6_readValue 93 = .ok (.aload_n 0, 1) := by decide +kernel
theorem dX6_readValue_94 : decode cX6_readValue 94 = .ok (.iload_n 1, 1) := by decide +kernel
theorem dX6_readValue_95 : decode cX6_readValue 95 = .ok (.iload_n 2, 1) := by decide +kernel
theorem dX6_readValue_96 : decode cX6_readValue 96 = .ok (.iload 4, 2) := by decide +kernel
theorem dX6_readValue_98 : decode cX6_readValue 98 = .ok (.invokevirtual 156, 3) := by decide +kernel
theorem dX6_readValue_101 : decode cX6_readValue 101 = .ok (.return_, 1) := by decide +kernel
theorem dX6_opOf_0 : decode cX6_opOf 0 = .ok (.iload_n 0, 1) := by decide +kernel
theorem dX6_opOf_1 : decode cX6_opOf 1 = .ok (.bipush 43, 2) := by decide +kernel
theorem dX6_opOf_3 : decode cX6_opOf 3 = .ok (.if_icmp .ne 7, 3) := by decide +kernel
theorem dX6_opOf_6 : decode cX6_opOf 6 = .ok (.iconst 2, 1) := by decide +kernel
theorem dX6_opOf_7 : decode cX6_opOf 7 = .ok (.goto 78, 3) := by decide +kernel
theorem dX6_opOf_10 : decode cX6_opOf 10 = .ok (.iload_n 0, 1) := by decide +kernel
theorem dX6_opOf_11 : decode cX6_opOf 11 = .ok (.bipush 45, 2) := by decide +kernel
theorem dX6_opOf_13 : decode cX6_opOf 13 = .ok (.if_icmp .ne 7, 3) := by decide +kernel
theorem dX6_opOf_16 : decode cX6_opOf 16 = .ok (.iconst 3, 1) := by decide +kernel
theorem dX6_opOf_17 : decode cX6_opOf 17 = .ok (.goto 68, 3) := by decide +kernel
theorem dX6_opOf_20 : decode cX6_opOf 20 = .ok (.iload_n 0, 1) := by decide +kernel
theorem dX6_opOf_21 : decode cX6_opOf 21 = .ok (.bipush 42, 2) := by decide +kernel
theorem dX6_opOf_23 : decode cX6_opOf 23 = .ok (.if_icmp .ne 7, 3) := by decide +kernel
theorem dX6_opOf_26 : decode cX6_opOf 26 = .ok (.iconst 4, 1) := by decide +kernel
theorem dX6_opOf_27 : decode cX6_opOf 27 = .ok (.goto 58, 3) := by decide +kernel
theorem dX6_opOf_30 : decode cX6_opOf 30 = .ok (.iload_n 0, 1) := by decide +kernel
theorem dX6_opOf_31 : decode cX6_opOf 31 = .ok (.bipush 47, 2) := by decide +kernel
theorem dX6_opOf_33 : decode cX6_opOf 33 = .ok (.if_icmp .ne 7, 3) := by decide +kernel
theorem dX6_opOf_36 : decode cX6_opOf 36 = .ok (.iconst 5, 1) := by decide +kernel
theorem dX6_opOf_37 : decode cX6_opOf 37 = .ok (.goto 48, 3) := by decide +kernel
theorem dX6_opOf_40 : decode cX6_opOf 40 = .ok (.iload_n 0, 1) := by decide +kernel
theorem dX6_opOf_41 : decode cX6_opOf 41 = .ok (.bipush 37, 2) := by decide +kernel
theorem dX6_opOf_43 : decode cX6_opOf 43 = .ok (.if_icmp .ne 8, 3) := by decide +kernel
theorem dX6_opOf_46 : decode cX6_opOf 46 = .ok (.bipush 6, 2) := by decide +kernel
theorem dX6_opOf_48 : decode cX6_opOf 48 = .ok (.goto 37, 3) := by decide +kernel
theorem dX6_opOf_51 : decode cX6_opOf 51 = .ok (.iload_n 0, 1) := by decide +kernel
theorem dX6_opOf_52 : decode cX6_opOf 52 = .ok (.bipush 38, 2) := by decide +kernel
theorem dX6_opOf_54 : decode cX6_opOf 54 = .ok (.if_icmp .ne 8, 3) := by decide +kernel
theorem dX6_opOf_57 : decode cX6_opOf 57 = .ok (.bipush 7, 2) := by decide +kernel
theorem dX6_opOf_59 : decode cX6_opOf 59 = .ok (.goto 26, 3) := by decide +kernel
theorem dX6_opOf_62 : decode cX6_opOf 62 = .ok (.iload_n 0, 1) := by decide +kernel
theorem dX6_opOf_63 : decode cX6_opOf 63 = .ok (.bipush 124, 2) := by decide +kernel
theorem dX6_opOf_65 : decode cX6_opOf 65 = .ok (.if_icmp .ne 8, 3) := by decide +kernel
theorem dX6_opOf_68 : decode cX6_opOf 68 = .ok (.bipush 8, 2) := by decide +kernel
theorem dX6_opOf_70 : decode cX6_opOf 70 = .ok (.goto 15, 3) := by decide +kernel
theorem dX6_opOf_73 : decode cX6_opOf 73 = .ok (.iload_n 0, 1) := by decide +kernel
theorem dX6_opOf_74 : decode cX6_opOf 74 = .ok (.bipush 94, 2) := by decide +kernel
theorem dX6_opOf_76 : decode cX6_opOf 76 = .ok (.if_icmp .ne 8, 3) := by decide +kernel
theorem dX6_opOf_79 : decode cX6_opOf 79 = .ok (.bipush 9, 2) := by decide +kernel
theorem dX6_opOf_81 : decode cX6_opOf 81 = .ok (.goto 4, 3) := by decide +kernel
theorem dX6_opOf_84 : decode cX6_opOf 84 = .ok (.iconst (-1), 1) := by decide +kernel
theorem dX6_opOf_85 : decode cX6_opOf 85 = .ok (.ireturn, 1) := by decide +kernel
theorem dX6_relOf_0 : decode cX6_relOf 0 = .ok (.iload_n 0, 1) := by decide +kernel
theorem dX6_relOf_1 : decode cX6_relOf 1 = .ok (.bipush 61, 2) := by decide +kernel
theorem dX6_relOf_3 : decode cX6_relOf 3 = .ok (.if_icmp .ne 8, 3) := by decide +kernel
theorem dX6_relOf_6 : decode cX6_relOf 6 = .ok (.bipush 10, 2) := by decide +kernel
theorem dX6_relOf_8 : decode cX6_relOf 8 = .ok (.goto 26, 3) := by decide +kernel
theorem dX6_relOf_11 : decode cX6_relOf 11 = .ok (.iload_n 0, 1) := by decide +kernel
theorem dX6_relOf_12 : decode cX6_relOf 12 = .ok (.bipush 35, 2) := by decide +kernel
theorem dX6_relOf_14 : decode cX6_relOf 14 = .ok (.if_icmp .ne 8, 3) := by decide +kernel
theorem dX6_relOf_17 : decode cX6_relOf 17 = .ok (.bipush 11, 2) := by decide +kernel
theorem dX6_relOf_19 : decode cX6_relOf 19 = .ok (.goto 15, 3) := by decide +kernel
theorem dX6_relOf_22 : decode cX6_relOf 22 = .ok (.iload_n 0, 1) := by decide +kernel
theorem dX6_relOf_23 : decode cX6_relOf 23 = .ok (.bipush 60, 2) := by decide +kernel
theorem dX6_relOf_25 : decode cX6_relOf 25 = .ok (.if_icmp .ne 8, 3) := by decide +kernel
theorem dX6_relOf_28 : decode cX6_relOf 28 = .ok (.bipush 12, 2) := by decide +kernel
theorem dX6_relOf_30 : decode cX6_relOf 30 = .ok (.goto 4, 3) := by decide +kernel
theorem dX6_relOf_33 : decode cX6_relOf 33 = .ok (.iconst (-1), 1) := by decide +kernel
theorem dX6_relOf_34 : decode cX6_relOf 34 = .ok (.ireturn, 1) := by decide +kernel
theorem dX6_readSet_0 : decode cX6_readSet 0 = .ok (.aload_n 0, 1) := by decide +kernel
theorem dX6_readSet_1 : decode cX6_readSet 1 = .ok (.getfield 19, 3) := by decide +kernel
theorem dX6_readSet_4 : decode cX6_readSet 4 = .ok (.bipush 9, 2) := by decide +kernel
theorem dX6_readSet_6 : decode cX6_readSet 6 = .ok (.iload_n 1, 1) := by decide +kernel
theorem dX6_readSet_7 : decode cX6_readSet 7 = .ok (.imul, 1) := by decide +kernel
theorem dX6_readSet_8 : decode cX6_readSet 8 = .ok (.iconst 1, 1) := by decide +kernel
theorem dX6_readSet_9 : decode cX6_readSet 9 = .ok (.iadd, 1) := by decide +kernel
theorem dX6_readSet_10 : decode cX6_readSet 10 = .ok (.aload_n 0, 1) := by decide +kernel
theorem dX6_readSet_11 : decode cX6_readSet 11 = .ok (.getfield 16, 3) := by decide +kernel
theorem dX6_readSet_14 : decode cX6_readSet 14 = .ok (.aload_n 0, 1) := by decide +kernel
theorem dX6_readSet_15 : decode cX6_readSet 15 = .ok (.getfield 130, 3) := by decide +kernel
theorem dX6_readSet_18 : decode cX6_readSet 18 = .ok (.iaload, 1) := by decide +kernel
theorem dX6_readSet_19 : decode cX6_readSet 19 = .ok (.bipush 97, 2) := by decide +kernel
theorem dX6_readSet_21 : decode cX6_readSet 21 = .ok (.isub, 1) := by decide +kernel
theorem dX6_readSet_22 : decode cX6_readSet 22 = .ok (.iastore, 1) := by decide +kernel
theorem dX6_readSet_23 : decode cX6_readSet 23 = .ok (.aload_n 0, 1) := by decide +kernel
theorem dX6_readSet_24 : decode cX6_readSet 24 = .ok (.dup, 1) := by decide +kernel
theorem dX6_readSet_25 : decode cX6_readSet 25 = .ok (.getfield 130, 3) := by decide +kernel
theorem dX6_readSet_28 : decode cX6_readSet 28 = .ok (.iconst 1, 1) := by decide +kernel
theorem dX6_readSet_29 : decode cX6_readSet 29 = .ok (.iadd, 1) := by decide +kernel
theorem dX6_readSet_30 : decode cX6_readSet 30 = .ok (.putfield 130, 3) := by decide +kernel
theorem dX6_readSet_33 : decode cX6_readSet 33 = .ok (.aload_n 0, 1) := by decide +kernel
theorem dX6_readSet_34 : decode cX6_readSet 34 = .ok (.bipush 61, 2) := by decide +kernel
theorem dX6_readSet_36 : decode cX6_readSet 36 = .ok (.invokevirtual 160, 3) := by decide +kernel
theorem dX6_readSet_39 : decode cX6_readSet 39 = .ok (.aload_n 0, 1) := by decide +kernel
theorem dX6_readSet_40 : decode cX6_readSet 40 = .ok (.getfield 124, 3) := by decide +kernel
theorem dX6_readSet_43 : decode cX6_readSet 43 = .ok (.ifCond .ne 47, 3) := by decide +kernel
theorem dX6_readSet_46 : decode cX6_readSet 46 = .ok (.aload_n 0, 1) := by decide +kernel
theorem dX6_readSet_47 : decode cX6_readSet 47 = .ok (.invokevirtual 133, 3) := by decide +kernel
theorem dX6_readSet_50 : decode cX6_readSet 50 = .ok (.bipush 64, 2) := by decide +kernel
theorem dX6_readSet_52 : decode cX6_readSet 52 = .ok (.if_icmp .ne 38, 3) := by decide +kernel
theorem dX6_readSet_55 : decode cX6_readSet 55 = .ok (.aload_n 0, 1) := by decide +kernel
theorem dX6_readSet_56 : decode cX6_readSet 56 = .ok (.dup, 1) := by decide +kernel
theorem dX6_readSet_57 : decode cX6_readSet 57 = .ok (.getfield 130, 3) := by decide +kernel
theorem dX6_readSet_60 : decode cX6_readSet 60 = .ok (.iconst 1, 1) := by decide +kernel
theorem dX6_readSet_61 : decode cX6_readSet 61 = .ok (.iadd, 1) := by decide +kernel
theorem dX6_readSet_62 : decode cX6_readSet 62 = .ok (.putfield 130, 3) := by decide +kernel
theorem dX6_readSet_65 : decode cX6_readSet 65 = .ok (.aload_n 0, 1) := by decide +kernel
theorem dX6_readSet_66 : decode cX6_readSet 66 = .ok (.getfield 19, 3) := by decide +kernel
theorem dX6_readSet_69 : decode cX6_readSet 69 = .ok (.bipush 9, 2) := by decide +kernel
theorem dX6_readSet_71 : decode cX6_readSet 71 = .ok (.iload_n 1, 1) := by decide +kernel
theorem dX6_readSet_72 : decode cX6_readSet 72 = .ok (.imul, 1) := by decide +kernel
theorem dX6_readSet_73 : decode cX6_readSet 73 = .ok (.iconst 0, 1) := by decide +kernel
theorem dX6_readSet_74 : decode cX6_readSet 74 = .ok (.iadd, 1) := by decide +kernel
theorem dX6_readSet_75 : decode cX6_readSet 75 = .ok (.iconst 2, 1) := by decide +kernel
theorem dX6_readSet_76 : decode cX6_readSet 76 = .ok (.iastore, 1) := by decide +kernel
theorem dX6_readSet_77 : decode cX6_readSet 77 = .ok (.aload_n 0, 1) := by decide +kernel
theorem dX6_readSet_78 : decode cX6_readSet 78 = .ok (.iload_n 1, 1) := by decide +kernel
theorem dX6_readSet_79 : decode cX6_readSet 79 = .ok (.iconst 3, 1) := by decide +kernel
theorem dX6_readSet_80 : decode cX6_readSet 80 = .ok (.invokevirtual 164, 3) := by decide +kernel
theorem dX6_readSet_83 : decode cX6_readSet 83 = .ok (.aload_n 0, 1) := by decide +kernel
theorem dX6_readSet_84 : decode cX6_readSet 84 = .ok (.bipush 59, 2) := by decide +kernel
theorem dX6_readSet_86 : decode cX6_readSet 86 = .ok (.invokevirtual 160, 3) := by decide +kernel
theorem dX6_readSet_89 : decode cX6_readSet 89 = .ok (.return_, 1) := by decide +kernel
theorem dX6_readSet_90 : decode cX6_readSet 90 = .ok (.aload_n 0, 1) := by decide +kernel
theorem dX6_readSet_91 : decode cX6_readSet 91 = .ok (.getfield 19, 3) := by decide +kernel
theorem dX6_readSet_94 : decode cX6_readSet 94 = .ok (.bipush 9, 2) := by decide +kernel
theorem dX6_readSet_96 : decode cX6_readSet 96 = .ok (.iload_n 1, 1) := by decide +kernel
theorem dX6_readSet_97 : decode cX6_readSet 97 = .ok (.imul, 1) := by decide +kernel
theorem dX6_readSet_98 : decode cX6_readSet 98 = .ok (.iconst 0, 1) := by decide +kernel
theorem dX6_readSet_99 : decode cX6_readSet 99 = .ok (.iadd, 1) := by decide +kernel
theorem dX6_readSet_100 : decode cX6_readSet 100 = .ok (.iconst 0, 1) := by decide +kernel
theorem dX6_readSet_101 : decode cX6_readSet 101 = .ok (.iastore, 1) := by decide +kernel
theorem dX6_readSet_102 : decode cX6_readSet 102 = .ok (.aload_n 0, 1) := by decide +kernel
theorem dX6_readSet_103 : decode cX6_readSet 103 = .ok (.iload_n 1, 1) := by decide +kernel
theorem dX6_readSet_104 : decode cX6_readSet 104 = .ok (.iconst 3, 1) := by decide +kernel
theorem dX6_readSet_105 : decode cX6_readSet 105 = .ok (.invokevirtual 164, 3) := by decide +kernel
theorem dX6_readSet_108 : decode cX6_readSet 108 = .ok (.aload_n 0, 1) := by decide +kernel
theorem dX6_readSet_109 : decode cX6_readSet 109 = .ok (.getfield 124, 3) := by decide +kernel
theorem dX6_readSet_112 : decode cX6_readSet 112 = .ok (.ifCond .le 7, 3) := by decide +kernel
theorem dX6_readSet_115 : decode cX6_readSet 115 = .ok (.iconst (-1), 1) := by decide +kernel
theorem dX6_readSet_116 : decode cX6_readSet 116 = .ok (.goto 10, 3) := by decide +kernel
theorem dX6_readSet_119 : decode cX6_readSet 119 = .ok (.aload_n 0, 1) := by decide +kernel
theorem dX6_readSet_120 : decode cX6_readSet 120 = .ok (.invokevirtual 133, 3) := by decide +kernel
theorem dX6_readSet_123 : decode cX6_readSet 123 = .ok (.invokestatic 167, 3) := by decide +kernel
theorem dX6_readSet_126 : decode cX6_readSet 126 = .ok (.istore_n 2, 1) := by decide +kernel
theorem dX6_readSet_127 : decode cX6_readSet 127 = .ok (.iload_n 2, 1) := by decide +kernel
theorem dX6_readSet_128 : decode cX6_readSet 128 = .ok (.iconst (-1), 1) := by decide +kernel
theorem dX6_readSet_129 : decode cX6_readSet 129 = .ok (.if_icmp .eq 43, 3) := by decide +kernel
theorem dX6_readSet_132 : decode cX6_readSet 132 = .ok (.aload_n 0, 1) := by decide +kernel
theorem dX6_readSet_133 : decode cX6_readSet 133 = .ok (.dup, 1) := by decide +kernel
theorem dX6_readSet_134 : decode cX6_readSet 134 = .ok (.getfield 130, 3) := by decide +kernel
theorem dX6_readSet_137 : decode cX6_readSet 137 = .ok (.iconst 1, 1) := by decide +kernel
theorem dX6_readSet_138 : decode cX6_readSet 138 = .ok (.iadd, 1) := by decide +kernel
theorem dX6_readSet_139 : decode cX6_readSet 139 = .ok (.putfield 130, 3) := by decide +kernel
theorem dX6_readSet_142 : decode cX6_readSet 142 = .ok (.aload_n 0, 1) := by decide +kernel
theorem dX6_readSet_143 : decode cX6_readSet 143 = .ok (.getfield 19, 3) := by decide +kernel
theorem dX6_readSet_146 : decode cX6_readSet 146 = .ok (.bipush 9, 2) := by decide +kernel
theorem dX6_readSet_148 : decode cX6_readSet 148 = .ok (.iload_n 1, 1) := by decide +kernel
theorem dX6_readSet_149 : decode cX6_readSet 149 = .ok (.imul, 1) := by decide +kernel
theorem dX6_readSet_150 : decode cX6_readSet 150 = .ok (.iconst 0, 1) := by decide +kernel
theorem dX6_readSet_151 : decode cX6_readSet 151 = .ok (.iadd, 1) := by decide +kernel
theorem dX6_readSet_152 : decode cX6_readSet 152 = .ok (.iconst 1, 1) := by decide +kernel
theorem dX6_readSet_153 : decode cX6_readSet 153 = .ok (.iastore, 1) := by decide +kernel
theorem dX6_readSet_154 : decode cX6_readSet 154 = .ok (.aload_n 0, 1) := by decide +kernel
theorem dX6_readSet_155 : decode cX6_readSet 155 = .ok (.getfield 19, 3) := by decide +kernel
theorem dX6_readSet_158 : decode cX6_readSet 158 = .ok (.bipush 9, 2) := by decide +kernel
theorem dX6_readSet_160 : decode cX6_readSet 160 = .ok (.iload_n 1, 1) := by decide +kernel
theorem dX6_readSet_161 : decode cX6_readSet 161 = .ok (.imul, 1) := by decide +kernel
theorem dX6_readSet_162 : decode cX6_readSet 162 = .ok (.iconst 2, 1) := by decide +kernel
theorem dX6_readSet_163 : decode cX6_readSet 163 = .ok (.iadd, 1) := by decide +kernel
theorem dX6_readSet_164 : decode cX6_readSet 164 = .ok (.iload_n 2, 1) := by decide +kernel
theorem dX6_readSet_165 : decode cX6_readSet 165 = .ok (.iastore, 1) := by decide +kernel
theorem dX6_readSet_166 : decode cX6_readSet 166 = .ok (.aload_n 0, 1) := by decide +kernel
theorem dX6_readSet_167 : decode cX6_readSet 167 = .ok (.iload_n 1, 1) := by decide +kernel
theorem dX6_readSet_168 : decode cX6_readSet 168 = .ok (.iconst 5, 1) := by decide +kernel
theorem dX6_readSet_169 : decode cX6_readSet 169 = .ok (.invokevirtual 164, 3) := by decide +kernel
theorem dX6_readSet_172 : decode cX6_readSet 172 = .ok (.aload_n 0, 1) := by decide +kernel
theorem dX6_readSet_173 : decode cX6_readSet 173 = .ok (.bipush 59, 2) := by decide +kernel
theorem dX6_readSet_175 : decode cX6_readSet 175 = .ok (.invokevirtual 160, 3) := by decide +kernel
theorem dX6_readSet_178 : decode cX6_readSet 178 = .ok (.return_, 1) := by decide +kernel
theorem dX6_readTest_0 : decode cX6_readTest 0 = .ok (.aload_n 0, 1) := by decide +kernel
theorem dX6_readTest_1 : decode cX6_readTest 1 = .ok (.dup, 1) := by decide +kernel
theorem dX6_readTest_2 : decode cX6_readTest 2 = .ok (.getfield 130, 3) := by decide +kernel
theorem dX6_readTest_5 : decode cX6_readTest 5 = .ok (.iconst 1, 1) := by decide +kernel
theorem dX6_readTest_6 : decode cX6_readTest 6 = .ok (.iadd, 1) := by decide +kernel
theorem dX6_readTest_7 : decode cX6_readTest 7 = .ok (.putfield 130, 3) := by decide +kernel
theorem dX6_readTest_10 : decode cX6_readTest 10 = .ok (.aload_n 0, 1) := by decide +kernel
theorem dX6_readTest_11 : decode cX6_readTest 11 = .ok (.getfield 19, 3) := by decide +kernel
theorem dX6_readTest_14 : decode cX6_readTest 14 = .ok (.bipush 9, 2) := by decide +kernel
theorem dX6_readTest_16 : decode cX6_readTest 16 = .ok (.iload_n 1, 1) := by decide +kernel
theorem dX6_readTest_17 : decode cX6_readTest 17 = .ok (.imul, 1) := by decide +kernel
theorem dX6_readTest_18 : decode cX6_readTest 18 = .ok (.iconst 0, 1) := by decide +kernel
theorem dX6_readTest_19 : decode cX6_readTest 19 = .ok (.iadd, 1) := by decide +kernel
theorem dX6_readTest_20 : decode cX6_readTest 20 = .ok (.iconst 5, 1) := by decide +kernel
theorem dX6_readTest_21 : decode cX6_readTest 21 = .ok (.iastore, 1) := by decide +kernel
theorem dX6_readTest_22 : decode cX6_readTest 22 = .ok (.aload_n 0, 1) := by decide +kernel
theorem dX6_readTest_23 : decode cX6_readTest 23 = .ok (.iload_n 1, 1) := by decide +kernel
theorem dX6_readTest_24 : decode cX6_readTest 24 = .ok (.iconst 3, 1) := by decide +kernel
theorem dX6_readTest_25 : decode cX6_readTest 25 = .ok (.invokevirtual 164, 3) := by decide +kernel
theorem dX6_readTest_28 : decode cX6_readTest 28 = .ok (.aload_n 0, 1) := by decide +kernel
theorem dX6_readTest_29 : decode cX6_readTest 29 = .ok (.getfield 124, 3) := by decide +kernel
theorem dX6_readTest_32 : decode cX6_readTest 32 = .ok (.ifCond .le 4, 3) := by decide +kernel
theorem dX6_readTest_35 : decode cX6_readTest 35 = .ok (.return_, 1) := by decide +kernel
theorem dX6_readTest_36 : decode cX6_readTest 36 = .ok (.aload_n 0, 1) := by decide +kernel
theorem dX6_readTest_37 : decode cX6_readTest 37 = .ok (.invokevirtual 133, 3) := by decide +kernel
theorem dX6_readTest_40 : decode cX6_readTest 40 = .ok (.invokestatic 171, 3) := by decide +kernel
theorem dX6_readTest_43 : decode cX6_readTest 43 = .ok (.istore_n 2, 1) := by decide +kernel
theorem dX6_readTest_44 : decode cX6_readTest 44 = .ok (.iload_n 2, 1) := by decide +kernel
theorem dX6_readTest_45 : decode cX6_readTest 45 = .ok (.iconst (-1), 1) := by decide +kernel
theorem dX6_readTest_46 : decode cX6_readTest 46 = .ok (.if_icmp .ne 13, 3) := by decide +kernel
theorem dX6_readTest_49 : decode cX6_readTest 49 = .ok (.aload_n 0, 1) := by decide +kernel
theorem dX6_readTest_50 : decode cX6_readTest 50 = .ok (.iconst 1, 1) := by decide +kernel
theorem dX6_readTest_51 : decode cX6_readTest 51 = .ok (.aload_n 0, 1) := by decide +kernel
theorem dX6_readTest_52 : decode cX6_readTest 52 = .ok (.getfield 130, 3) := by decide +kernel
theorem dX6_readTest_55 : decode cX6_readTest 55 = .ok (.invokevirtual 137, 3) := by decide +kernel
theorem dX6_readTest_58 : decode cX6_readTest 58 = .ok (.return_, 1) := by decide +kernel
theorem dX6_readTest_59 : decode cX6_readTest 59 = .ok (.aload_n 0, 1) := by decide +kernel
theorem dX6_readTest_60 : decode cX6_readTest 60 = .ok (.dup, 1) := by decide +kernel
theorem dX6_readTest_61 : decode cX6_readTest 61 = .ok (.getfield 130, 3) := by decide +kernel
theorem dX6_readTest_64 : decode cX6_readTest 64 = .ok (.iconst 1, 1) := by decide +kernel
theorem dX6_readTest_65 : decode cX6_readTest 65 = .ok (.iadd, 1) := by decide +kernel
theorem dX6_readTest_66 : decode cX6_readTest 66 = .ok (.putfield 130, 3) := by decide +kernel
theorem dX6_readTest_69 : decode cX6_readTest 69 = .ok (.aload_n 0, 1) := by decide +kernel
theorem dX6_readTest_70 : decode cX6_readTest 70 = .ok (.getfield 19, 3) := by decide +kernel
theorem dX6_readTest_73 : decode cX6_readTest 73 = .ok (.bipush 9, 2) := by decide +kernel
theorem dX6_readTest_75 : decode cX6_readTest 75 = .ok (.iload_n 1, 1) := by decide +kernel
theorem dX6_readTest_76 : decode cX6_readTest 76 = .ok (.imul, 1) := by decide +kernel
theorem dX6_readTest_77 : decode cX6_readTest 77 = .ok (.iconst 2, 1) := by decide +kernel
theorem dX6_readTest_78 : decode cX6_readTest 78 = .ok (.iadd, 1) := by decide +kernel
theorem dX6_readTest_79 : decode cX6_readTest 79 = .ok (.iload_n 2, 1) := by decide +kernel
theorem dX6_readTest_80 : decode cX6_readTest 80 = .ok (.iastore, 1) := by decide +kernel
theorem dX6_readTest_81 : decode cX6_readTest 81 = .ok (.aload_n 0, 1) := by decide +kernel
theorem dX6_readTest_82 : decode cX6_readTest 82 = .ok (.iload_n 1, 1) := by decide +kernel
theorem dX6_readTest_83 : decode cX6_readTest 83 = .ok (.iconst 5, 1) := by decide +kernel
theorem dX6_readTest_84 : decode cX6_readTest 84 = .ok (.invokevirtual 164, 3) := by decide +kernel
theorem dX6_readTest_87 : decode cX6_readTest 87 = .ok (.aload_n 0, 1) := by decide +kernel
theorem dX6_readTest_88 : decode cX6_readTest 88 = .ok (.bipush 123, 2) := by decide +kernel
theorem dX6_readTest_90 : decode cX6_readTest 90 = .ok (.invokevirtual 160, 3) := by decide +kernel
theorem dX6_readTest_93 : decode cX6_readTest 93 = .ok (.return_, 1) := by decide +kernel
theorem dX6_readStatement_0 : decode cX6_readStatement 0 = .ok (.iload_n 1, 1) := by decide +kernel
theorem dX6_readStatement_1 : decode cX6_readStatement 1 = .ok (.invokestatic 153, 3) := by decide +kernel
theorem dX6_readStatement_4 : decode cX6_readStatement 4 = .ok (.ifCond .ne 21, 3) := by decide +kernel
theorem dX6_readStatement_7 : decode cX6_readStatement 7 = .ok (.iload_n 1, 1) := by decide +kernel
theorem dX6_readStatement_8 : decode cX6_readStatement 8 = .ok (.bipush 64, 2) := by decide +kernel
theorem dX6_readStatement_10 : decode cX6_readStatement 10 = .ok (.if_icmp .eq 15, 3) := by decide +kernel
theorem dX6_readStatement_13 : decode cX6_readStatement 13 = .ok (.iload_n 1, 1) := by decide +kernel
theorem dX6_readStatement_14 : decode cX6_readStatement 14 = .ok (.bipush 33, 2) := by decide +kernel
theorem dX6_readStatement_16 : decode cX6_readStatement 16 = .ok (.if_icmp .eq 9, 3) := by decide +kernel
theorem dX6_readStatement_19 : decode cX6_readStatement 19 = .ok (.iload_n 1, 1) := by decide +kernel
theorem dX6_readStatement_20 : decode cX6_readStatement 20 = .ok (.bipush 63, 2) := by decide +kernel
theorem dX6_readStatement_22 : decode cX6_readStatement 22 = .ok (.if_icmp .ne 7, 3) := by decide +kernel
theorem dX6_readStatement_25 : decode cX6_readStatement 25 = .ok (.iconst 1, 1) := by decide +kernel
theorem dX6_readStatement_26 : decode cX6_readStatement 26 = .ok (.goto 4, 3) := by decide +kernel
theorem dX6_readStatement_29 : decode cX6_readStatement 29 = .ok (.iconst 0, 1) := by decide +kernel
theorem dX6_readStatement_30 : decode cX6_readStatement 30 = .ok (.istore_n 2, 1) := by decide +kernel
theorem dX6_readStatement_31 : decode cX6_readStatement 31 = .ok (.iload_n 2, 1) := by decide +kernel
theorem dX6_readStatement_32 : decode cX6_readStatement 32 = .ok (.ifCond .ne 15, 3) := by decide +kernel
theorem dX6_readStatement_35 : decode cX6_readStatement 35 = .ok (.aload_n 0, 1) := by decide +kernel
theorem dX6_readStatement_36 : decode cX6_readStatement 36 = .ok (.iconst 1, 1) := by decide +kernel
theorem dX6_readStatement_37 : decode cX6_readStatement 37 = .ok (.aload_n 0, 1) := by decide +kernel
theorem dX6_readStatement_38 : decode cX6_readStatement 38 = .ok (.getfield 130, 3) := by decide +kernel
theorem dX6_readStatement_41 : decode cX6_readStatement 41 = .ok (.invokevirtual 137, 3) := by decide +kernel
theorem dX6_readStatement_44 : decode cX6_readStatement 44 = .ok (.goto 48, 3) := by decide +kernel
theorem dX6_readStatement_47 : decode cX6_readStatement 47 = .ok (.aload_n 0, 1) := by decide +kernel
theorem dX6_readStatement_48 : decode cX6_readStatement 48 = .ok (.getfield 174, 3) := by decide +kernel
theorem dX6_readStatement_51 : decode cX6_readStatement 51 = .ok (.bipush 60, 2) := by decide +kernel
theorem dX6_readStatement_53 : decode cX6_readStatement 53 = .ok (.if_icmp .ne 15, 3) := by decide +kernel
theorem dX6_readStatement_56 : decode cX6_readStatement 56 = .ok (.aload_n 0, 1) := by decide +kernel
theorem dX6_readStatement_57 : decode cX6_readStatement 57 = .ok (.iconst 3, 1) := by decide +kernel
theorem dX6_readStatement_58 : decode cX6_readStatement 58 = .ok (.aload_n 0, 1) := by decide +kernel
theorem dX6_readStatement_59 : decode cX6_readStatement 59 = .ok (.getfield 130, 3) := by decide +kernel
theorem dX6_readStatement_62 : decode cX6_readStatement 62 = .ok (.invokevirtual 137, 3) := by decide +kernel
theorem dX6_readStatement_65 : decode cX6_readStatement 65 = .ok (.goto 27, 3) := by decide +kernel
theorem dX6_readStatement_68 : decode cX6_readStatement 68 = .ok (.iload_n 1, 1) := by decide +kernel
theorem dX6_readStatement_69 : decode cX6_readStatement 69 = .ok (.bipush 63, 2) := by decide +kernel
theorem dX6_readStatement_71 : decode cX6_readStatement 71 = .ok (.if_icmp .ne 21, 3) := by decide +kernel
theorem dX6_readStatement_74 : decode cX6_readStatement 74 = .ok (.aload_n 0, 1) := by decide +kernel
theorem dX6_readStatement_75 : decode cX6_readStatement 75 = .ok (.getfield 177, 3) := by decide +kernel
theorem dX6_readStatement_78 : decode cX6_readStatement 78 = .ok (.bipush 6, 2) := by decide +kernel
theorem dX6_readStatement_80 : decode cX6_readStatement 80 = .ok (.if_icmp .ne 12, 3) := by decide +kernel
theorem dX6_readStatement_83 : decode cX6_readStatement 83 = .ok (.aload_n 0, 1) := by decide +kernel
theorem dX6_readStatement_84 : decode cX6_readStatement 84 = .ok (.iconst 4, 1) := by decide +kernel
theorem dX6_readStatement_85 : decode cX6_readStatement 85 = .ok (.aload_n 0, 1) := by decide +kernel
theorem dX6_readStatement_86 : decode cX6_readStatement 86 = .ok (.getfield 130, 3) := by decide +kernel
theorem dX6_readStatement_89 : decode cX6_readStatement 89 = .ok (.invokevirtual 137, 3) := by decide +kernel
theorem dX6_readStatement_92 : decode cX6_readStatement 92 = .ok (.aload_n 0, 1) := by decide +kernel
theorem dX6_readStatement_93 : decode cX6_readStatement 93 = .ok (.getfield 124, 3) := by decide +kernel
theorem dX6_readStatement_96 : decode cX6_readStatement 96 = .ok (.ifCond .le 4, 3) := by decide +kernel
theorem dX6_readStatement_99 : decode cX6_readStatement 99 = .ok (.return_, 1) := by decide +kernel
theorem dX6_readStatement_100 : decode cX6_readStatement 100 = .ok (.aload_n 0, 1) := by decide +kernel
theorem dX6_readStatement_101 : decode cX6_readStatement 101 = .ok (.getfield 174, 3) := by decide +kernel
theorem dX6_readStatement_104 : decode cX6_readStatement 104 = .ok (.istore_n 3, 1) := by decide +kernel
theorem dX6_readStatement_105 : decode cX6_readStatement 105 = .ok (.aload_n 0, 1) := by decide +kernel
theorem dX6_readStatement_106 : decode cX6_readStatement 106 = .ok (.dup, 1) := by decide +kernel
theorem dX6_readStatement_107 : decode cX6_readStatement 107 = .ok (.getfield 174, 3) := by decide +kernel
theorem dX6_readStatement_110 : decode cX6_readStatement 110 = .ok (.iconst 1, 1) := by decide +kernel
theorem dX6_readStatement_111 : decode cX6_readStatement 111 = .ok (.iadd, 1) := by decide +kernel
theorem dX6_readStatement_112 : decode cX6_readStatement 112 = .ok (.putfield 174, 3) := by decide +kernel
theorem dX6_readStatement_115 : decode cX6_readStatement 115 = .ok (.iconst 0, 1) := by decide +kernel
theorem dX6_readStatement_116 : decode cX6_readStatement 116 = .ok (.istore 4, 2) := by decide +kernel
theorem dX6_readStatement_118 : decode cX6_readStatement 118 = .ok (.iload 4, 2) := by decide +kernel
theorem dX6_readStatement_120 : decode cX6_readStatement 120 = .ok (.bipush 9, 2) := by decide +kernel
theorem dX6_readStatement_122 : decode cX6_readStatement 122 = .ok (.if_icmp .ge 22, 3) := by decide +kernel
theorem dX6_readStatement_125 : decode cX6_readStatement 125 = .ok (.aload_n 0, 1) := by decide +kernel
theorem dX6_readStatement_126 : decode cX6_readStatement 126 = .ok (.getfield 19, 3) := by decide +kernel
theorem dX6_readStatement_129 : decode cX6_readStatement 129 = .ok (.bipush 9, 2) := by decide +kernel
theorem dX6_readStatement_131 : decode cX6_readStatement 131 = .ok (.iload_n 3, 1) := by decide +kernel
theorem dX6_readStatement_132 : decode cX6_readStatement 132 = .ok (.imul, 1) := by decide +kernel
theorem dX6_readStatement_133 : decode cX6_readStatement 133 = .ok (.iload 4, 2) := by decide +kernel
theorem dX6_readStatement_135 : decode cX6_readStatement 135 = .ok (.iadd, 1) := by decide +kernel
theorem dX6_readStatement_136 : decode cX6_readStatement 136 = .ok (.iconst 0, 1) := by decide +kernel
theorem dX6_readStatement_137 : decode cX6_readStatement 137 = .ok (.iastore, 1) := by decide +kernel
theorem dX6_readStatement_138 : decode cX6_readStatement 138 = .ok (.iinc 4 1, 3) := by decide +kernel
theorem dX6_readStatement_141 : decode cX6_readStatement 141 = .ok (.goto (-23), 3) := by decide +kernel
theorem dX6_readStatement_144 : decode cX6_readStatement 144 = .ok (.aload_n 0, 1) := by decide +kernel
theorem dX6_readStatement_145 : decode cX6_readStatement 145 = .ok (.getfield 19, 3) := by decide +kernel
theorem dX6_readStatement_148 : decode cX6_readStatement 148 = .ok (.bipush 9, 2) := by decide +kernel
theorem dX6_readStatement_150 : decode cX6_readStatement 150 = .ok (.iload_n 3, 1) := by decide +kernel
theorem dX6_readStatement_151 : decode cX6_readStatement 151 = .ok (.imul, 1) := by decide +kernel
theorem dX6_readStatement_152 : decode cX6_readStatement 152 = .ok (.bipush 7, 2) := by decide +kernel
theorem dX6_readStatement_154 : decode cX6_readStatement 154 = .ok (.iadd, 1) := by decide +kernel
theorem dX6_readStatement_155 : decode cX6_readStatement 155 = .ok (.aload_n 0, 1) := by decide +kernel
theorem dX6_readStatement_156 : decode cX6_readStatement 156 = .ok (.getfield 177, 3) := by decide +kernel
theorem dX6_readStatement_159 : decode cX6_readStatement 159 = .ok (.iastore, 1) := by decide +kernel
theorem dX6_readStatement_160 : decode cX6_readStatement 160 = .ok (.aload_n 0, 1) := by decide +kernel
theorem dX6_readStatement_161 : decode cX6_readStatement 161 = .ok (.getfield 25, 3) := by decide +kernel
theorem dX6_readStatement_164 : decode cX6_readStatement 164 = .ok (.iload_n 3, 1) := by decide +kernel
theorem dX6_readStatement_165 : decode cX6_readStatement 165 = .ok (.iload_n 3, 1) := by decide +kernel
theorem dX6_readStatement_166 : decode cX6_readStatement 166 = .ok (.iconst 1, 1) := by decide +kernel
theorem dX6_readStatement_167 : decode cX6_readStatement 167 = .ok (.iadd, 1) := by decide +kernel
theorem dX6_readStatement_168 : decode cX6_readStatement 168 = .ok (.iastore, 1) := by decide +kernel
theorem dX6_readStatement_169 : decode cX6_readStatement 169 = .ok (.aload_n 0, 1) := by decide +kernel
theorem dX6_readStatement_170 : decode cX6_readStatement 170 = .ok (.getfield 28, 3) := by decide +kernel
theorem dX6_readStatement_173 : decode cX6_readStatement 173 = .ok (.iload_n 3, 1) := by decide +kernel
theorem dX6_readStatement_174 : decode cX6_readStatement 174 = .ok (.iload_n 3, 1) := by decide +kernel
theorem dX6_readStatement_175 : decode cX6_readStatement 175 = .ok (.iconst 1, 1) := by decide +kernel
theorem dX6_readStatement_176 : decode cX6_readStatement 176 = .ok (.iadd, 1) := by decide +kernel
theorem dX6_readStatement_177 : decode cX6_readStatement 177 = .ok (.iastore, 1) := by decide +kernel
theorem dX6_readStatement_178 : decode cX6_readStatement 178 = .ok (.iload_n 1, 1) := by decide +kernel
theorem dX6_readStatement_179 : decode cX6_readStatement 179 = .ok (.invokestatic 153, 3) := by decide +kernel
theorem dX6_readStatement_182 : decode cX6_readStatement 182 = .ok (.ifCond .eq 11, 3) := by decide +kernel
theorem dX6_readStatement_185 : decode cX6_readStatement 185 = .ok (.aload_n 0, 1) := by decide +kernel
theorem dX6_readStatement_186 : decode cX6_readStatement 186 = .ok (.iload_n 3, 1) := by decide +kernel
theorem dX6_readStatement_187 : decode cX6_readStatement 187 = .ok (.invokevirtual 180, 3) := by decide +kernel
theorem dX6_readStatement_190 : decode cX6_readStatement 190 = .ok (.goto 136, 3) := by decide +kernel
theorem dX6_readStatement_193 : decode cX6_readStatement 193 = .ok (.iload_n 1, 1) := by decide +kernel
theorem dX6_readStatement_194 : decode cX6_readStatement 194 = .ok (.bipush 64, 2) := by decide +kernel
theorem dX6_readStatement_196 : decode cX6_readStatement 196 = .ok (.if_icmp .ne 52, 3) := by decide +kernel
theorem dX6_readStatement_199 : decode cX6_readStatement 199 = .ok (.aload_n 0, 1) := by decide +kernel
theorem dX6_readStatement_200 : decode cX6_readStatement 200 = .ok (.dup, 1) := by decide +kernel
theorem dX6_readStatement_201 : decode cX6_readStatement 201 = .ok (.getfield 130, 3) := by decide +kernel
theorem dX6_readStatement_204 : decode cX6_readStatement 204 = .ok (.iconst 1, 1) := by decide +kernel
theorem dX6_readStatement_205 : decode cX6_readStatement 205 = .ok (.iadd, 1) := by decide +kernel
theorem dX6_readStatement_206 : decode cX6_readStatement 206 = .ok (.putfield 130, 3) := by decide +kernel
theorem dX6_readStatement_209 : decode cX6_readStatement 209 = .ok (.aload_n 0, 1) := by decide +kernel
theorem dX6_readStatement_210 : decode cX6_readStatement 210 = .ok (.getfield 19, 3) := by decide +kernel
theorem dX6_readStatement_213 : decode cX6_readStatement 213 = .ok (.bipush 9, 2) := by decide +kernel
theorem dX6_readStatement_215 : decode cX6_readStatement 215 = .ok (.iload_n 3, 1) := by decide +kernel
theorem dX6_readStatement_216 : decode cX6_readStatement 216 = .ok (.imul, 1) := by decide +kernel
theorem dX6_readStatement_217 : decode cX6_readStatement 217 = .ok (.iconst 0, 1) := by decide +kernel
theorem dX6_readStatement_218 : decode cX6_readStatement 218 = .ok (.iadd, 1) := by decide +kernel
theorem dX6_readStatement_219 : decode cX6_readStatement 219 = .ok (.iconst 3, 1) := by decide +kernel
theorem dX6_readStatement_220 : decode cX6_readStatement 220 = .ok (.iastore, 1) := by decide +kernel
theorem dX6_readStatement_221 : decode cX6_readStatement 221 = .ok (.aload_n 0, 1) := by decide +kernel
theorem dX6_readStatement_222 : decode cX6_readStatement 222 = .ok (.iload_n 3, 1) := by decide +kernel
theorem dX6_readStatement_223 : decode cX6_readStatement 223 = .ok (.iconst 3, 1) := by decide +kernel
theorem dX6_readStatement_224 : decode cX6_readStatement 224 = .ok (.invokevirtual 164, 3) := by decide +kernel
theorem dX6_readStatement_227 : decode cX6_readStatement 227 = .ok (.aload_n 0, 1) := by decide +kernel
theorem dX6_readStatement_228 : decode cX6_readStatement 228 = .ok (.bipush 61, 2) := by decide +kernel
theorem dX6_readStatement_230 : decode cX6_readStatement 230 = .ok (.invokevirtual 160, 3) := by decide +kernel
theorem dX6_readStatement_233 : decode cX6_readStatement 233 = .ok (.aload_n 0, 1) := by decide +kernel
theorem dX6_readStatement_234 : decode cX6_readStatement 234 = .ok (.iload_n 3, 1) := by decide +kernel
theorem dX6_readStatement_235 : decode cX6_readStatement 235 = .ok (.iconst 5, 1) := by decide +kernel
theorem dX6_readStatement_236 : decode cX6_readStatement 236 = .ok (.invokevirtual 164, 3) := by decide +kernel
theorem dX6_readStatement_239 : decode cX6_readStatement 239 = .ok (.aload_n 0, 1) := by decide +kernel
theorem dX6_readStatement_240 : decode cX6_readStatement 240 = .ok (.bipush 59, 2) := by decide +kernel
theorem dX6_readStatement_242 : decode cX6_readStatement 242 = .ok (.invokevirtual 160, 3) := by decide +kernel
theorem dX6_readStatement_245 : decode cX6_readStatement 245 = .ok (.goto 81, 3) := by decide +kernel
theorem dX6_readStatement_248 : decode cX6_readStatement 248 = .ok (.iload_n 1, 1) := by decide +kernel
theorem dX6_readStatement_249 : decode cX6_readStatement 249 = .ok (.bipush 33, 2) := by decide +kernel
theorem dX6_readStatement_251 : decode cX6_readStatement 251 = .ok (.if_icmp .ne 40, 3) := by decide +kernel
theorem dX6_readStatement_254 : decode cX6_readStatement 254 = .ok (.aload_n 0, 1) := by decide +kernel
theorem dX6_readStatement_255 : decode cX6_readStatement 255 = .ok (.dup, 1) := by decide +kernel
theorem dX6_readStatement_256 : decode cX6_readStatement 256 = .ok (.getfield 130, 3) := by decide +kernel
theorem dX6_readStatement_259 : decode cX6_readStatement 259 = .ok (.iconst 1, 1) := by decide +kernel
theorem dX6_readStatement_260 : decode cX6_readStatement 260 = .ok (.iadd, 1) := by decide +kernel
theorem dX6_readStatement_261 : decode cX6_readStatement 261 = .ok (.putfield 130, 3) := by decide +kernel
theorem dX6_readStatement_264 : decode cX6_readStatement 264 = .ok (.aload_n 0, 1) := by decide +kernel
theorem dX6_readStatement_265 : decode cX6_readStatement 265 = .ok (.getfield 19, 3) := by decide +kernel
theorem dX6_readStatement_268 : decode cX6_readStatement 268 = .ok (.bipush 9, 2) := by decide +kernel
theorem dX6_readStatement_270 : decode cX6_readStatement 270 = .ok (.iload_n 3, 1) := by decide +kernel
theorem dX6_readStatement_271 : decode cX6_readStatement 271 = .ok (.imul, 1) := by decide +kernel
theorem dX6_readStatement_272 : decode cX6_readStatement 272 = .ok (.iconst 0, 1) := by decide +kernel
theorem dX6_readStatement_273 : decode cX6_readStatement 273 = .ok (.iadd, 1) := by decide +kernel
theorem dX6_readStatement_274 : decode cX6_readStatement 274 = .ok (.iconst 4, 1) := by decide +kernel
theorem dX6_readStatement_275 : decode cX6_readStatement 275 = .ok (.iastore, 1) := by decide +kernel
theorem dX6_readStatement_276 : decode cX6_readStatement 276 = .ok (.aload_n 0, 1) := by decide +kernel
theorem dX6_readStatement_277 : decode cX6_readStatement 277 = .ok (.iload_n 3, 1) := by decide +kernel
theorem dX6_readStatement_278 : decode cX6_readStatement 278 = .ok (.iconst 3, 1) := by decide +kernel
theorem dX6_readStatement_279 : decode cX6_readStatement 279 = .ok (.invokevirtual 164, 3) := by decide +kernel
theorem dX6_readStatement_282 : decode cX6_readStatement 282 = .ok (.aload_n 0, 1) := by decide +kernel
theorem dX6_readStatement_283 : decode cX6_readStatement 283 = .ok (.bipush 59, 2) := by decide +kernel
theorem dX6_readStatement_285 : decode cX6_readStatement 285 = .ok (.invokevirtual 160, 3) := by decide +kernel
theorem dX6_readStatement_288 : decode cX6_readStatement 288 = .ok (.goto 38, 3) := by decide +kernel
theorem dX6_readStatement_291 : decode cX6_readStatement 291 = .ok (.aload_n 0, 1) := by decide +kernel
theorem dX6_readStatement_292 : decode cX6_readStatement 292 = .ok (.iload_n 3, 1) := by decide +kernel
theorem dX6_readStatement_293 : decode cX6_readStatement 293 = .ok (.invokevirtual 183, 3) := by decide +kernel
theorem dX6_readStatement_296 : decode cX6_readStatement 296 = .ok (.aload_n 0, 1) := by decide +kernel
theorem dX6_readStatement_297 : decode cX6_readStatement 297 = .ok (.getfield 37, 3) := by decide +kernel
theorem dX6_readStatement_300 : decode cX6_readStatement 300 = .ok (.aload_n 0, 1) := by decide +kernel
theorem dX6_readStatement_301 : decode cX6_readStatement 301 = .ok (.getfield 177, 3) := by decide +kernel
theorem dX6_readStatement_304 : decode cX6_readStatement 304 = .ok (.iload_n 3, 1) := by decide +kernel
theorem dX6_readStatement_305 : decode cX6_readStatement 305 = .ok (.iastore, 1) := by decide +kernel
theorem dX6_readStatement_306 : decode cX6_readStatement 306 = .ok (.aload_n 0, 1) := by decide +kernel
theorem dX6_readStatement_307 : decode cX6_readStatement 307 = .ok (.getfield 40, 3) := by decide +kernel
theorem dX6_readStatement_310 : decode cX6_readStatement 310 = .ok (.aload_n 0, 1) := by decide +kernel
theorem dX6_readStatement_311 : decode cX6_readStatement 311 = .ok (.getfield 177, 3) := by decide +kernel
theorem dX6_readStatement_314 : decode cX6_readStatement 314 = .ok (.iconst 0, 1) := by decide +kernel
theorem dX6_readStatement_315 : decode cX6_readStatement 315 = .ok (.bastore, 1) := by decide +kernel
theorem dX6_readStatement_316 : decode cX6_readStatement 316 = .ok (.aload_n 0, 1) := by decide +kernel
theorem dX6_readStatement_317 : decode cX6_readStatement 317 = .ok (.dup, 1) := by decide +kernel
theorem dX6_readStatement_318 : decode cX6_readStatement 318 = .ok (.getfield 177, 3) := by decide +kernel
theorem dX6_readStatement_321 : decode cX6_readStatement 321 = .ok (.iconst 1, 1) := by decide +kernel
theorem dX6_readStatement_322 : decode cX6_readStatement 322 = .ok (.iadd, 1) := by decide +kernel
theorem dX6_readStatement_323 : decode cX6_readStatement 323 = .ok (.putfield 177, 3) := by decide +kernel
theorem dX6_readStatement_326 : decode cX6_readStatement 326 = .ok (.return_, 1) := by decide +kernel
theorem dX6_closeSide_0 : decode cX6_closeSide 0 = .ok (.aload_n 0, 1) := by decide +kernel
theorem dX6_closeSide_1 : decode cX6_closeSide 1 = .ok (.getfield 37, 3) := by decide +kernel
theorem dX6_closeSide_4 : decode cX6_closeSide 4 = .ok (.aload_n 0, 1) := by decide +kernel
theorem dX6_closeSide_5 : decode cX6_closeSide 5 = .ok (.getfield 177, 3) := by decide +kernel
theorem dX6_closeSide_8 : decode cX6_closeSide 8 = .ok (.iconst 1, 1) := by decide +kernel
theorem dX6_closeSide_9 : decode cX6_closeSide 9 = .ok (.isub, 1) := by decide +kernel
theorem dX6_closeSide_10 : decode cX6_closeSide 10 = .ok (.iaload, 1) := by decide +kernel
theorem dX6_closeSide_11 : decode cX6_closeSide 11 = .ok (.istore_n 1, 1) := by decide +kernel
theorem dX6_closeSide_12 : decode cX6_closeSide 12 = .ok (.aload_n 0, 1) := by decide +kernel
theorem dX6_closeSide_13 : decode cX6_closeSide 13 = .ok (.dup, 1) := by decide +kernel
theorem dX6_closeSide_14 : decode cX6_closeSide 14 = .ok (.getfield 130, 3) := by decide +kernel
theorem dX6_closeSide_17 : decode cX6_closeSide 17 = .ok (.iconst 1, 1) := by decide +kernel
theorem dX6_closeSide_18 : decode cX6_closeSide 18 = .ok (.iadd, 1) := by decide +kernel
theorem dX6_closeSide_19 : decode cX6_closeSide 19 = .ok (.putfield 130, 3) := by decide +kernel
theorem dX6_closeSide_22 : decode cX6_closeSide 22 = .ok (.aload_n 0, 1) := by decide +kernel
theorem dX6_closeSide_23 : decode cX6_closeSide 23 = .ok (.getfield 28, 3) := by decide +kernel
theorem dX6_closeSide_26 : decode cX6_closeSide 26 = .ok (.iload_n 1, 1) := by decide +kernel
theorem dX6_closeSide_27 : decode cX6_closeSide 27 = .ok (.aload_n 0, 1) := by decide +kernel
theorem dX6_closeSide_28 : decode cX6_closeSide 28 = .ok (.getfield 174, 3) := by decide +kernel
theorem dX6_closeSide_31 : decode cX6_closeSide 31 = .ok (.iastore, 1) := by decide +kernel
theorem dX6_closeSide_32 : decode cX6_closeSide 32 = .ok (.aload_n 0, 1) := by decide +kernel
theorem dX6_closeSide_33 : decode cX6_closeSide 33 = .ok (.getfield 40, 3) := by decide +kernel
theorem dX6_closeSide_36 : decode cX6_closeSide 36 = .ok (.aload_n 0, 1) := by decide +kernel
theorem dX6_closeSide_37 : decode cX6_closeSide 37 = .ok (.getfield 177, 3) := by decide +kernel
theorem dX6_closeSide_40 : decode cX6_closeSide 40 = .ok (.iconst 1, 1) := by decide +kernel
theorem dX6_closeSide_41 : decode cX6_closeSide 41 = .ok (.isub, 1) := by decide +kernel
theorem dX6_closeSide_42 : decode cX6_closeSide 42 = .ok (.baload, 1) := by decide +kernel
theorem dX6_closeSide_43 : decode cX6_closeSide 43 = .ok (.ifCond .ne 45, 3) := by decide +kernel
theorem dX6_closeSide_46 : decode cX6_closeSide 46 = .ok (.aload_n 0, 1) := by decide +kernel
theorem dX6_closeSide_47 : decode cX6_closeSide 47 = .ok (.getfield 25, 3) := by decide +kernel
theorem dX6_closeSide_50 : decode cX6_closeSide 50 = .ok (.iload_n 1, 1) := by decide +kernel
theorem dX6_closeSide_51 : decode cX6_closeSide 51 = .ok (.aload_n 0, 1) := by decide +kernel
theorem dX6_closeSide_52 : decode cX6_closeSide 52 = .ok (.getfield 174, 3) := by decide +kernel
theorem dX6_closeSide_55 : decode cX6_closeSide 55 = .ok (.iastore, 1) := by decide +kernel
theorem dX6_closeSide_56 : decode cX6_closeSide 56 = .ok (.aload_n 0, 1) := by decide +kernel
theorem dX6_closeSide_57 : decode cX6_closeSide 57 = .ok (.invokevirtual 133, 3) := by decide +kernel
theorem dX6_closeSide_60 : decode cX6_closeSide 60 = .ok (.bipush 123, 2) := by decide +kernel
theorem dX6_closeSide_62 : decode cX6_closeSide 62 = .ok (.if_icmp .ne 26, 3) := by decide +kernel
theorem dX6_closeSide_65 : decode cX6_closeSide 65 = .ok (.aload_n 0, 1) := by decide +kernel
theorem dX6_closeSide_66 : decode cX6_closeSide 66 = .ok (.dup, 1) := by decide +kernel
theorem dX6_closeSide_67 : decode cX6_closeSide 67 = .ok (.getfield 130, 3) := by decide +kernel
theorem dX6_closeSide_70 : decode cX6_closeSide 70 = .ok (.iconst 1, 1) := by decide +kernel
theorem dX6_closeSide_71 : decode cX6_closeSide 71 = .ok (.iadd, 1) := by decide +kernel
theorem dX6_closeSide_72 : decode cX6_closeSide 72 = .ok (.putfield 130, 3) := by decide +kernel
theorem dX6_closeSide_75 : decode cX6_closeSide 75 = .ok (.aload_n 0, 1) := by decide +kernel
theorem dX6_closeSide_76 : decode cX6_closeSide 76 = .ok (.getfield 40, 3) := by decide +kernel
theorem dX6_closeSide_79 : decode cX6_closeSide 79 = .ok (.aload_n 0, 1) := by decide +kernel
theorem dX6_closeSide_80 : decode cX6_closeSide 80 = .ok (.getfield 177, 3) := by decide +kernel
theorem dX6_closeSide_83 : decode cX6_closeSide 83 = .ok (.iconst 1, 1) := by decide +kernel
theorem dX6_closeSide_84 : decode cX6_closeSide 84 = .ok (.isub, 1) := by decide +kernel
theorem dX6_closeSide_85 : decode cX6_closeSide 85 = .ok (.iconst 1, 1) := by decide +kernel
theorem dX6_closeSide_86 : decode cX6_closeSide 86 = .ok (.bastore, 1) := by decide +kernel
theorem dX6_closeSide_87 : decode cX6_closeSide 87 = .ok (.return_, 1) := by decide +kernel
theorem dX6_closeSide_88 : decode cX6_closeSide 88 = .ok (.aload_n 0, 1) := by decide +kernel
theorem dX6_closeSide_89 : decode cX6_closeSide 89 = .ok (.dup, 1) := by decide +kernel
theorem dX6_closeSide_90 : decode cX6_closeSide 90 = .ok (.getfield 177, 3) := by decide +kernel
theorem dX6_closeSide_93 : decode cX6_closeSide 93 = .ok (.iconst 1, 1) := by decide +kernel
theorem dX6_closeSide_94 : decode cX6_closeSide 94 = .ok (.isub, 1) := by decide +kernel
theorem dX6_closeSide_95 : decode cX6_closeSide 95 = .ok (.putfield 177, 3) := by decide +kernel
theorem dX6_closeSide_98 : decode cX6_closeSide 98 = .ok (.return_, 1) := by decide +kernel
theorem dX6_read_0 : decode cX6_read 0 = .ok (.aload_n 0, 1) := by decide +kernel
theorem dX6_read_1 : decode cX6_read 1 = .ok (.iconst 0, 1) := by decide +kernel
theorem dX6_read_2 : decode cX6_read 2 = .ok (.putfield 102, 3) := by decide +kernel
theorem dX6_read_5 : decode cX6_read 5 = .ok (.aload_n 0, 1) := by decide +kernel
theorem dX6_read_6 : decode cX6_read 6 = .ok (.iconst 0, 1) := by decide +kernel
theorem dX6_read_7 : decode cX6_read 7 = .ok (.putfield 124, 3) := by decide +kernel
theorem dX6_read_10 : decode cX6_read 10 = .ok (.aload_n 0, 1) := by decide +kernel
theorem dX6_read_11 : decode cX6_read 11 = .ok (.iconst 0, 1) := by decide +kernel
theorem dX6_read_12 : decode cX6_read 12 = .ok (.putfield 130, 3) := by decide +kernel
theorem dX6_read_15 : decode cX6_read 15 = .ok (.aload_n 0, 1) := by decide +kernel
theorem dX6_read_16 : decode cX6_read 16 = .ok (.iconst 0, 1) := by decide +kernel
theorem dX6_read_17 : decode cX6_read 17 = .ok (.putfield 174, 3) := by decide +kernel
theorem dX6_read_20 : decode cX6_read 20 = .ok (.aload_n 0, 1) := by decide +kernel
theorem dX6_read_21 : decode cX6_read 21 = .ok (.iconst 0, 1) := by decide +kernel
theorem dX6_read_22 : decode cX6_read 22 = .ok (.putfield 177, 3) := by decide +kernel
theorem dX6_read_25 : decode cX6_read 25 = .ok (.aload_n 0, 1) := by decide +kernel
theorem dX6_read_26 : decode cX6_read 26 = .ok (.invokevirtual 133, 3) := by decide +kernel
theorem dX6_read_29 : decode cX6_read 29 = .ok (.istore_n 1, 1) := by decide +kernel
theorem dX6_read_30 : decode cX6_read 30 = .ok (.aload_n 0, 1) := by decide +kernel
theorem dX6_read_31 : decode cX6_read 31 = .ok (.getfield 124, 3) := by decide +kernel
theorem dX6_read_34 : decode cX6_read 34 = .ok (.ifCond .ne 59, 3) := by decide +kernel
theorem dX6_read_37 : decode cX6_read 37 = .ok (.iload_n 1, 1) := by decide +kernel
theorem dX6_read_38 : decode cX6_read 38 = .ok (.iconst (-1), 1) := by decide +kernel
theorem dX6_read_39 : decode cX6_read 39 = .ok (.if_icmp .ne 10, 3) := by decide +kernel
theorem dX6_read_42 : decode cX6_read 42 = .ok (.aload_n 0, 1) := by decide +kernel
theorem dX6_read_43 : decode cX6_read 43 = .ok (.getfield 177, 3) := by decide +kernel
theorem dX6_read_46 : decode cX6_read 46 = .ok (.ifCond .le 47, 3) := by decide +kernel
theorem dX6_read_49 : decode cX6_read 49 = .ok (.iload_n 1, 1) := by decide +kernel
theorem dX6_read_50 : decode cX6_read 50 = .ok (.bipush 125, 2) := by decide +kernel
theorem dX6_read_52 : decode cX6_read 52 = .ok (.if_icmp .ne 17, 3) := by decide +kernel
theorem dX6_read_55 : decode cX6_read 55 = .ok (.aload_n 0, 1) := by decide +kernel
theorem dX6_read_56 : decode cX6_read 56 = .ok (.getfield 177, 3) := by decide +kernel
theorem dX6_read_59 : decode cX6_read 59 = .ok (.ifCond .le 10, 3) := by decide +kernel
theorem dX6_read_62 : decode cX6_read 62 = .ok (.aload_n 0, 1) := by decide +kernel
theorem dX6_read_63 : decode cX6_read 63 = .ok (.invokevirtual 186, 3) := by decide +kernel
theorem dX6_read_66 : decode cX6_read 66 = .ok (.goto 8, 3) := by decide +kernel
theorem dX6_read_69 : decode cX6_read 69 = .ok (.aload_n 0, 1) := by decide +kernel
theorem dX6_read_70 : decode cX6_read 70 = .ok (.iload_n 1, 1) := by decide +kernel
theorem dX6_read_71 : decode cX6_read 71 = .ok (.invokevirtual 189, 3) := by decide +kernel
theorem dX6_read_74 : decode cX6_read 74 = .ok (.aload_n 0, 1) := by decide +kernel
theorem dX6_read_75 : decode cX6_read 75 = .ok (.getfield 124, 3) := by decide +kernel
theorem dX6_read_78 : decode cX6_read 78 = .ok (.ifCond .le 7, 3) := by decide +kernel
theorem dX6_read_81 : decode cX6_read 81 = .ok (.iconst (-1), 1) := by decide +kernel
theorem dX6_read_82 : decode cX6_read 82 = .ok (.goto 7, 3) := by decide +kernel
theorem dX6_read_85 : decode cX6_read 85 = .ok (.aload_n 0, 1) := by decide +kernel
theorem dX6_read_86 : decode cX6_read 86 = .ok (.invokevirtual 133, 3) := by decide +kernel
theorem dX6_read_89 : decode cX6_read 89 = .ok (.istore_n 1, 1) := by decide +kernel
theorem dX6_read_90 : decode cX6_read 90 = .ok (.goto (-60), 3) := by decide +kernel
theorem dX6_read_93 : decode cX6_read 93 = .ok (.aload_n 0, 1) := by decide +kernel
theorem dX6_read_94 : decode cX6_read 94 = .ok (.iconst 0, 1) := by decide +kernel
theorem dX6_read_95 : decode cX6_read 95 = .ok (.putfield 119, 3) := by decide +kernel
theorem dX6_read_98 : decode cX6_read 98 = .ok (.aload_n 0, 1) := by decide +kernel
theorem dX6_read_99 : decode cX6_read 99 = .ok (.getfield 124, 3) := by decide +kernel
theorem dX6_read_102 : decode cX6_read 102 = .ok (.ifCond .le 10, 3) := by decide +kernel
theorem dX6_read_105 : decode cX6_read 105 = .ok (.iconst (-1), 1) := by decide +kernel
theorem dX6_read_106 : decode cX6_read 106 = .ok (.aload_n 0, 1) := by decide +kernel
theorem dX6_read_107 : decode cX6_read 107 = .ok (.getfield 127, 3) := by decide +kernel
theorem dX6_read_110 : decode cX6_read 110 = .ok (.isub, 1) := by decide +kernel
theorem dX6_read_111 : decode cX6_read 111 = .ok (.ireturn, 1) := by decide +kernel
theorem dX6_read_112 : decode cX6_read 112 = .ok (.aload_n 0, 1) := by decide +kernel
theorem dX6_read_113 : decode cX6_read 113 = .ok (.aload_n 0, 1) := by decide +kernel
theorem dX6_read_114 : decode cX6_read 114 = .ok (.getfield 174, 3) := by decide +kernel
theorem dX6_read_117 : decode cX6_read 117 = .ok (.putfield 192, 3) := by decide +kernel
theorem dX6_read_120 : decode cX6_read 120 = .ok (.iconst 0, 1) := by decide +kernel
theorem dX6_read_121 : decode cX6_read 121 = .ok (.istore_n 2, 1) := by decide +kernel
theorem dX6_read_122 : decode cX6_read 122 = .ok (.iload_n 2, 1) := by decide +kernel
theorem dX6_read_123 : decode cX6_read 123 = .ok (.sipush 540, 3) := by decide +kernel
theorem dX6_read_126 : decode cX6_read 126 = .ok (.if_icmp .ge 21, 3) := by decide +kernel
theorem dX6_read_129 : decode cX6_read 129 = .ok (.aload_n 0, 1) := by decide +kernel
theorem dX6_read_130 : decode cX6_read 130 = .ok (.getfield 22, 3) := by decide +kernel
theorem dX6_read_133 : decode cX6_read 133 = .ok (.iload_n 2, 1) := by decide +kernel
theorem dX6_read_134 : decode cX6_read 134 = .ok (.aload_n 0, 1) := by decide +kernel
theorem dX6_read_135 : decode cX6_read 135 = .ok (.getfield 19, 3) := by decide +kernel
theorem dX6_read_138 : decode cX6_read 138 = .ok (.iload_n 2, 1) := by decide +kernel
theorem dX6_read_139 : decode cX6_read 139 = .ok (.iaload, 1) := by decide +kernel
theorem dX6_read_140 : decode cX6_read 140 = .ok (.iastore, 1) := by decide +kernel
theorem dX6_read_141 : decode cX6_read 141 = .ok (.iinc 2 1, 3) := by decide +kernel
theorem dX6_read_144 : decode cX6_read 144 = .ok (.goto (-22), 3) := by decide +kernel
theorem dX6_read_147 : decode cX6_read 147 = .ok (.iconst 0, 1) := by decide +kernel
theorem dX6_read_148 : decode cX6_read 148 = .ok (.istore_n 2, 1) := by decide +kernel
theorem dX6_read_149 : decode cX6_read 149 = .ok (.iload_n 2, 1) := by decide +kernel
theorem dX6_read_150 : decode cX6_read 150 = .ok (.bipush 60, 2) := by decide +kernel
theorem dX6_read_152 : decode cX6_read 152 = .ok (.if_icmp .ge 40, 3) := by decide +kernel
theorem dX6_read_155 : decode cX6_read 155 = .ok (.aload_n 0, 1) := by decide +kernel
theorem dX6_read_156 : decode cX6_read 156 = .ok (.getfield 31, 3) := by decide +kernel
theorem dX6_read_159 : decode cX6_read 159 = .ok (.iload_n 2, 1) := by decide +kernel
theorem dX6_read_160 : decode cX6_read 160 = .ok (.aload_n 0, 1) := by decide +kernel
theorem dX6_read_161 : decode cX6_read 161 = .ok (.getfield 25, 3) := by decide +kernel
theorem dX6_read_164 : decode cX6_read 164 = .ok (.iload_n 2, 1) := by decide +kernel
theorem dX6_read_165 : decode cX6_read 165 = .ok (.iaload, 1) := by decide +kernel
theorem dX6_read_166 : decode cX6_read 166 = .ok (.iastore, 1) := by decide +kernel
theorem dX6_read_167 : decode cX6_read 167 = .ok (.aload_n 0, 1) := by decide +kernel
theorem dX6_read_168 : decode cX6_read 168 = .ok (.getfield 34, 3) := by decide +kernel
theorem dX6_read_171 : decode cX6_read 171 = .ok (.iload_n 2, 1) := by decide +kernel
theorem dX6_read_172 : decode cX6_read 172 = .ok (.aload_n 0, 1) := by decide +kernel
theorem dX6_read_173 : decode cX6_read 173 = .ok (.getfield 28, 3) := by decide +kernel
theorem dX6_read_176 : decode cX6_read 176 = .ok (.iload_n 2, 1) := by decide +kernel
theorem dX6_read_177 : decode cX6_read 177 = .ok (.iaload, 1) := by decide +kernel
theorem dX6_read_178 : decode cX6_read 178 = .ok (.iastore, 1) := by decide +kernel
theorem dX6_read_179 : decode cX6_read 179 = .ok (.aload_n 0, 1) := by decide +kernel
theorem dX6_read_180 : decode cX6_read 180 = .ok (.getfield 51, 3) := by decide +kernel
theorem dX6_read_183 : decode cX6_read 183 = .ok (.iload_n 2, 1) := by decide +kernel
theorem dX6_read_184 : decode cX6_read 184 = .ok (.iconst 0, 1) := by decide +kernel
theorem dX6_read_185 : decode cX6_read 185 = .ok (.bastore, 1) := by decide +kernel
theorem dX6_read_186 : decode cX6_read 186 = .ok (.iinc 2 1, 3) := by decide +kernel
theorem dX6_read_189 : decode cX6_read 189 = .ok (.goto (-40), 3) := by decide +kernel
theorem dX6_read_192 : decode cX6_read 192 = .ok (.aload_n 0, 1) := by decide +kernel
theorem dX6_read_193 : decode cX6_read 193 = .ok (.iconst 0, 1) := by decide +kernel
theorem dX6_read_194 : decode cX6_read 194 = .ok (.putfield 195, 3) := by decide +kernel
theorem dX6_read_197 : decode cX6_read 197 = .ok (.aload_n 0, 1) := by decide +kernel
theorem dX6_read_198 : decode cX6_read 198 = .ok (.iconst 0, 1) := by decide +kernel
theorem dX6_read_199 : decode cX6_read 199 = .ok (.putfield 199, 3) := by decide +kernel
theorem dX6_read_202 : decode cX6_read 202 = .ok (.aload_n 0, 1) := by decide +kernel
theorem dX6_read_203 : decode cX6_read 203 = .ok (.bipush 16, 2) := by decide +kernel
theorem dX6_read_205 : decode cX6_read 205 = .ok (.putfield 47, 3) := by decide +kernel
theorem dX6_read_208 : decode cX6_read 208 = .ok (.aload_n 0, 1) := by decide +kernel
theorem dX6_read_209 : decode cX6_read 209 = .ok (.getfield 192, 3) := by decide +kernel
theorem dX6_read_212 : decode cX6_read 212 = .ok (.ireturn, 1) := by decide +kernel
theorem dX6_fault_0 : decode cX6_fault 0 = .ok (.aload_n 0, 1) := by decide +kernel
theorem dX6_fault_1 : decode cX6_fault 1 = .ok (.iconst 0, 1) := by decide +kernel
theorem dX6_fault_2 : decode cX6_fault 2 = .ok (.putfield 102, 3) := by decide +kernel
theorem dX6_fault_5 : decode cX6_fault 5 = .ok (.aload_n 0, 1) := by decide +kernel
theorem dX6_fault_6 : decode cX6_fault 6 = .ok (.getfield 124, 3) := by decide +kernel
theorem dX6_fault_9 : decode cX6_fault 9 = .ok (.ireturn, 1) := by decide +kernel
theorem dX6_of_0 : decode cX6_of 0 = .ok (.aload_n 0, 1) := by decide +kernel
theorem dX6_of_1 : decode cX6_of 1 = .ok (.getfield 22, 3) := by decide +kernel
theorem dX6_of_4 : decode cX6_of 4 = .ok (.bipush 9, 2) := by decide +kernel
theorem dX6_of_6 : decode cX6_of 6 = .ok (.iload_n 1, 1) := by decide +kernel
theorem dX6_of_7 : decode cX6_of 7 = .ok (.imul, 1) := by decide +kernel
theorem dX6_of_8 : decode cX6_of 8 = .ok (.iload_n 2, 1) := by decide +kernel
theorem dX6_of_9 : decode cX6_of 9 = .ok (.iadd, 1) := by decide +kernel
theorem dX6_of_10 : decode cX6_of 10 = .ok (.iaload, 1) := by decide +kernel
theorem dX6_of_11 : decode cX6_of 11 = .ok (.ireturn, 1) := by decide +kernel
theorem dX6_emit_0 : decode cX6_emit 0 = .ok (.bipush 6, 2) := by decide +kernel
theorem dX6_emit_2 : decode cX6_emit 2 = .ok (.aload_n 0, 1) := by decide +kernel
theorem dX6_emit_3 : decode cX6_emit 3 = .ok (.getfield 199, 3) := by decide +kernel
theorem dX6_emit_6 : decode cX6_emit 6 = .ok (.imul, 1) := by decide +kernel
theorem dX6_emit_7 : decode cX6_emit 7 = .ok (.istore 6, 2) := by decide +kernel
theorem dX6_emit_9 : decode cX6_emit 9 = .ok (.aload_n 0, 1) := by decide +kernel
theorem dX6_emit_10 : decode cX6_emit 10 = .ok (.getfield 44, 3) := by decide +kernel
theorem dX6_emit_13 : decode cX6_emit 13 = .ok (.iload 6, 2) := by decide +kernel
theorem dX6_emit_15 : decode cX6_emit 15 = .ok (.iload_n 1, 1) := by decide +kernel
theorem dX6_emit_16 : decode cX6_emit 16 = .ok (.iastore, 1) := by decide +kernel
theorem dX6_emit_17 : decode cX6_emit 17 = .ok (.aload_n 0, 1) := by decide +kernel
theorem dX6_emit_18 : decode cX6_emit 18 = .ok (.getfield 44, 3) := by decide +kernel
theorem dX6_emit_21 : decode cX6_emit 21 = .ok (.iload 6, 2) := by decide +kernel
theorem dX6_emit_23 : decode cX6_emit 23 = .ok (.iconst 1, 1) := by decide +kernel
theorem dX6_emit_24 : decode cX6_emit 24 = .ok (.iadd, 1) := by decide +kernel
theorem dX6_emit_25 : decode cX6_emit 25 = .ok (.iload_n 2, 1) := by decide +kernel
theorem dX6_emit_26 : decode cX6_emit 26 = .ok (.iastore, 1) := by decide +kernel
theorem dX6_emit_27 : decode cX6_emit 27 = .ok (.aload_n 0, 1) := by decide +kernel
theorem dX6_emit_28 : decode cX6_emit 28 = .ok (.getfield 44, 3) := by decide +kernel
theorem dX6_emit_31 : decode cX6_emit 31 = .ok (.iload 6, 2) := by decide +kernel
theorem dX6_emit_33 : decode cX6_emit 33 = .ok (.iconst 2, 1) := by decide +kernel
theorem dX6_emit_34 : decode cX6_emit 34 = .ok (.iadd, 1) := by decide +kernel
theorem dX6_emit_35 : decode cX6_emit 35 = .ok (.iload_n 3, 1) := by decide +kernel
theorem dX6_emit_36 : decode cX6_emit 36 = .ok (.iastore, 1) := by decide +kernel
theorem dX6_emit_37 : decode cX6_emit 37 = .ok (.aload_n 0, 1) := by decide +kernel
theorem dX6_emit_38 : decode cX6_emit 38 = .ok (.getfield 44, 3) := by decide +kernel
theorem dX6_emit_41 : decode cX6_emit 41 = .ok (.iload 6, 2) := by decide +kernel
theorem dX6_emit_43 : decode cX6_emit 43 = .ok (.iconst 3, 1) := by decide +kernel
theorem dX6_emit_44 : decode cX6_emit 44 = .ok (.iadd, 1) := by decide +kernel
theorem dX6_emit_45 : decode cX6_emit 45 = .ok (.iload 4, 2) := by decide +kernel
theorem dX6_emit_47 : decode cX6_emit 47 = .ok (.iastore, 1) := by decide +kernel
theorem dX6_emit_48 : decode cX6_emit 48 = .ok (.aload_n 0, 1) := by decide +kernel
theorem dX6_emit_49 : decode cX6_emit 49 = .ok (.getfield 44, 3) := by decide +kernel
theorem dX6_emit_52 : decode cX6_emit 52 = .ok (.iload 6, 2) := by decide +kernel
theorem dX6_emit_54 : decode cX6_emit 54 = .ok (.iconst 4, 1) := by decide +kernel
theorem dX6_emit_55 : decode cX6_emit 55 = .ok (.iadd, 1) := by decide +kernel
theorem dX6_emit_56 : decode cX6_emit 56 = .ok (.iload 5, 2) := by decide +kernel
theorem dX6_emit_58 : decode cX6_emit 58 = .ok (.iastore, 1) := by decide +kernel
theorem dX6_emit_59 : decode cX6_emit 59 = .ok (.aload_n 0, 1) := by decide +kernel
theorem dX6_emit_60 : decode cX6_emit 60 = .ok (.getfield 44, 3) := by decide +kernel
theorem dX6_emit_63 : decode cX6_emit 63 = .ok (.iload 6, 2) := by decide +kernel
theorem dX6_emit_65 : decode cX6_emit 65 = .ok (.iconst 5, 1) := by decide +kernel
theorem dX6_emit_66 : decode cX6_emit 66 = .ok (.iadd, 1) := by decide +kernel
theorem dX6_emit_67 : decode cX6_emit 67 = .ok (.aload_n 0, 1) := by decide +kernel
theorem dX6_emit_68 : decode cX6_emit 68 = .ok (.getfield 202, 3) := by decide +kernel
theorem dX6_emit_71 : decode cX6_emit 71 = .ok (.iastore, 1) := by decide +kernel
theorem dX6_emit_72 : decode cX6_emit 72 = .ok (.aload_n 0, 1) := by decide +kernel
theorem dX6_emit_73 : decode cX6_emit 73 = .ok (.dup, 1) := by decide +kernel
theorem dX6_emit_74 : decode cX6_emit 74 = .ok (.getfield 199, 3) := by decide +kernel
theorem dX6_emit_77 : decode cX6_emit 77 = .ok (.iconst 1, 1) := by decide +kernel
theorem dX6_emit_78 : decode cX6_emit 78 = .ok (.iadd, 1) := by decide +kernel
theorem dX6_emit_79 : decode cX6_emit 79 = .ok (.putfield 199, 3) := by decide +kernel
theorem dX6_emit_82 : decode cX6_emit 82 = .ok (.aload_n 0, 1) := by decide +kernel
theorem dX6_emit_83 : decode cX6_emit 83 = .ok (.getfield 199, 3) := by decide +kernel
theorem dX6_emit_86 : decode cX6_emit 86 = .ok (.iconst 1, 1) := by decide +kernel
theorem dX6_emit_87 : decode cX6_emit 87 = .ok (.isub, 1) := by decide +kernel
theorem dX6_emit_88 : decode cX6_emit 88 = .ok (.ireturn, 1) := by decide +kernel
theorem dX6_fresh1_0 : decode cX6_fresh1 0 = .ok (.aload_n 0, 1) := by decide +kernel
theorem dX6_fresh1_1 : decode cX6_fresh1 1 = .ok (.dup, 1) := by decide +kernel
theorem dX6_fresh1_2 : decode cX6_fresh1 2 = .ok (.getfield 47, 3) := by decide +kernel
theorem dX6_fresh1_5 : decode cX6_fresh1 5 = .ok (.iconst 1, 1) := by decide +kernel
theorem dX6_fresh1_6 : decode cX6_fresh1 6 = .ok (.iadd, 1) := by decide +kernel
theorem dX6_fresh1_7 : decode cX6_fresh1 7 = .ok (.putfield 47, 3) := by decide +kernel
theorem dX6_fresh1_10 : decode cX6_fresh1 10 = .ok (.aload_n 0, 1) := by decide +kernel
theorem dX6_fresh1_11 : decode cX6_fresh1 11 = .ok (.getfield 47, 3) := by decide +kernel
theorem dX6_fresh1_14 : decode cX6_fresh1 14 = .ok (.iconst 1, 1) := by decide +kernel
theorem dX6_fresh1_15 : decode cX6_fresh1 15 = .ok (.isub, 1) := by decide +kernel
theorem dX6_fresh1_16 : decode cX6_fresh1 16 = .ok (.ireturn, 1) := by decide +kernel
theorem dX6_setNew_0 : decode cX6_setNew 0 = .ok (.aload_n 0, 1) := by decide +kernel
theorem dX6_setNew_1 : decode cX6_setNew 1 = .ok (.invokevirtual 205, 3) := by decide +kernel
theorem dX6_setNew_4 : decode cX6_setNew 4 = .ok (.istore_n 2, 1) := by decide +kernel
theorem dX6_setNew_5 : decode cX6_setNew 5 = .ok (.aload_n 0, 1) := by decide +kernel
theorem dX6_setNew_6 : decode cX6_setNew 6 = .ok (.iconst 0, 1) := by decide +kernel
theorem dX6_setNew_7 : decode cX6_setNew 7 = .ok (.iload_n 2, 1) := by decide +kernel
theorem dX6_setNew_8 : decode cX6_setNew 8 = .ok (.iload_n 1, 1) := by decide +kernel
theorem dX6_setNew_9 : decode cX6_setNew 9 = .ok (.iconst 0, 1) := by decide +kernel
theorem dX6_setNew_10 : decode cX6_setNew 10 = .ok (.iconst 0, 1) := by decide +kernel
theorem dX6_setNew_11 : decode cX6_setNew 11 = .ok (.invokevirtual 208, 3) := by decide +kernel
theorem dX6_setNew_14 : decode cX6_setNew 14 = .ok (.istore_n 3, 1) := by decide +kernel
theorem dX6_setNew_15 : decode cX6_setNew 15 = .ok (.iload_n 2, 1) := by decide +kernel
theorem dX6_setNew_16 : decode cX6_setNew 16 = .ok (.ireturn, 1) := by decide +kernel
theorem dX6_value_0 : decode cX6_value 0 = .ok (.aload_n 0, 1) := by decide +kernel
theorem dX6_value_1 : decode cX6_value 1 = .ok (.iload_n 1, 1) := by decide +kernel
theorem dX6_value_2 : decode cX6_value 2 = .ok (.iload_n 2, 1) := by decide +kernel
theorem dX6_value_3 : decode cX6_value 3 = .ok (.invokevirtual 212, 3) := by decide +kernel
theorem dX6_value_6 : decode cX6_value 6 = .ok (.iconst 1, 1) := by decide +kernel
theorem dX6_value_7 : decode cX6_value 7 = .ok (.if_icmp .ne 19, 3) := by decide +kernel
theorem dX6_value_10 : decode cX6_value 10 = .ok (.aload_n 0, 1) := by decide +kernel
theorem dX6_value_11 : decode cX6_value 11 = .ok (.getfield 54, 3) := by decide +kernel
theorem dX6_value_14 : decode cX6_value 14 = .ok (.aload_n 0, 1) := by decide +kernel
theorem dX6_value_15 : decode cX6_value 15 = .ok (.iload_n 1, 1) := by decide +kernel
theorem dX6_value_16 : decode cX6_value 16 = .ok (.iload_n 2, 1) := by decide +kernel
theorem dX6_value_17 : decode cX6_value 17 = .ok (.iconst 1, 1) := by decide +kernel
theorem dX6_value_18 : decode cX6_value 18 = .ok (.iadd, 1) := by decide +kernel
theorem dX6_value_19 : decode cX6_value 19 = .ok (.invokevirtual 212, 3) := by decide +kernel
theorem dX6_value_22 : decode cX6_value 22 = .ok (.iaload, 1) := by decide +kernel
theorem dX6_value_23 : decode cX6_value 23 = .ok (.goto 15, 3) := by decide +kernel
theorem dX6_value_26 : decode cX6_value 26 = .ok (.aload_n 0, 1) := by decide +kernel
theorem dX6_value_27 : decode cX6_value 27 = .ok (.aload_n 0, 1) := by decide +kernel
theorem dX6_value_28 : decode cX6_value 28 = .ok (.iload_n 1, 1) := by decide +kernel
theorem dX6_value_29 : decode cX6_value 29 = .ok (.iload_n 2, 1) := by decide +kernel
theorem dX6_value_30 : decode cX6_value 30 = .ok (.iconst 1, 1) := by decide +kernel
theorem dX6_value_31 : decode cX6_value 31 = .ok (.iadd, 1) := by decide +kernel
theorem dX6_value_32 : decode cX6_value 32 = .ok (.invokevirtual 212, 3) := by decide +kernel
theorem dX6_value_35 : decode cX6_value 35 = .ok (.invokevirtual 216, 3) := by decide +kernel
theorem dX6_value_38 : decode cX6_value 38 = .ok (.ireturn, 1) := by decide +kernel
theorem dX6_isOnSide_0 : decode cX6_isOnSide 0 = .ok (.aload_n 0, 1) := by decide +kernel
theorem dX6_isOnSide_1 : decode cX6_isOnSide 1 = .ok (.getfield 219, 3) := by decide +kernel
theorem dX6_isOnSide_4 : decode cX6_isOnSide 4 = .ok (.ifCond .le 21, 3) := by decide +kernel
theorem dX6_isOnSide_7 : decode cX6_isOnSide 7 = .ok (.aload_n 0, 1) := by decide +kernel
theorem dX6_isOnSide_8 : decode cX6_isOnSide 8 = .ok (.getfield 63, 3) := by decide +kernel
theorem dX6_isOnSide_11 : decode cX6_isOnSide 11 = .ok (.aload_n 0, 1) := by decide +kernel
theorem dX6_isOnSide_12 : decode cX6_isOnSide 12 = .ok (.getfield 219, 3) := by decide +kernel
theorem dX6_isOnSide_15 : decode cX6_isOnSide 15 = .ok (.iconst 1, 1) := by decide +kernel
theorem dX6_isOnSide_16 : decode cX6_isOnSide 16 = .ok (.isub, 1) := by decide +kernel
theorem dX6_isOnSide_17 : decode cX6_isOnSide 17 = .ok (.baload, 1) := by decide +kernel
theorem dX6_isOnSide_18 : decode cX6_isOnSide 18 = .ok (.ifCond .eq 7, 3) := by decide +kernel
theorem dX6_isOnSide_21 : decode cX6_isOnSide 21 = .ok (.iconst 1, 1) := by decide +kernel
theorem dX6_isOnSide_22 : decode cX6_isOnSide 22 = .ok (.goto 4, 3) := by decide +kernel
theorem dX6_isOnSide_25 : decode cX6_isOnSide 25 = .ok (.iconst 0, 1) := by decide +kernel
theorem dX6_isOnSide_26 : decode cX6_isOnSide 26 = .ok (.ireturn, 1) := by decide +kernel
theorem dX6_guarded_0 : decode cX6_guarded 0 = .ok (.iload_n 1, 1) := by decide +kernel
theorem dX6_guarded_1 : decode cX6_guarded 1 = .ok (.ifCond .eq 14, 3) := by decide +kernel
theorem dX6_guarded_4 : decode cX6_guarded 4 = .ok (.aload_n 0, 1) := by decide +kernel
theorem dX6_guarded_5 : decode cX6_guarded 5 = .ok (.getfield 63, 3) := by decide +kernel
theorem dX6_guarded_8 : decode cX6_guarded 8 = .ok (.iload_n 1, 1) := by decide +kernel
theorem dX6_guarded_9 : decode cX6_guarded 9 = .ok (.iconst 1, 1) := by decide +kernel
theorem dX6_guarded_10 : decode cX6_guarded 10 = .ok (.isub, 1) := by decide +kernel
theorem dX6_guarded_11 : decode cX6_guarded 11 = .ok (.baload, 1) := by decide +kernel
theorem dX6_guarded_12 : decode cX6_guarded 12 = .ok (.ifCond .ne 5, 3) := by decide +kernel
theorem dX6_guarded_15 : decode cX6_guarded 15 = .ok (.iload_n 2, 1) := by decide +kernel
theorem dX6_guarded_16 : decode cX6_guarded 16 = .ok (.ireturn, 1) := by decide +kernel
theorem dX6_guarded_17 : decode cX6_guarded 17 = .ok (.aload_n 0, 1) := by decide +kernel
theorem dX6_guarded_18 : decode cX6_guarded 18 = .ok (.invokevirtual 205, 3) := by decide +kernel
theorem dX6_guarded_21 : decode cX6_guarded 21 = .ok (.istore_n 3, 1) := by decide +kernel
theorem dX6_guarded_22 : decode cX6_guarded 22 = .ok (.aload_n 0, 1) := by decide +kernel
theorem dX6_guarded_23 : decode cX6_guarded 23 = .ok (.bipush 7, 2) := by decide +kernel
theorem dX6_guarded_25 : decode cX6_guarded 25 = .ok (.iload_n 3, 1) := by decide +kernel
theorem dX6_guarded_26 : decode cX6_guarded 26 = .ok (.aload_n 0, 1) := by decide +kernel
theorem dX6_guarded_27 : decode cX6_guarded 27 = .ok (.getfield 69, 3) := by decide +kernel
theorem dX6_guarded_30 : decode cX6_guarded 30 = .ok (.iload_n 1, 1) := by decide +kernel
theorem dX6_guarded_31 : decode cX6_guarded 31 = .ok (.iconst 1, 1) := by decide +kernel
theorem dX6_guarded_32 : decode cX6_guarded 32 = .ok (.isub, 1) := by decide +kernel
theorem dX6_guarded_33 : decode cX6_guarded 33 = .ok (.iaload, 1) := by decide +kernel
theorem dX6_guarded_34 : decode cX6_guarded 34 = .ok (.iload_n 2, 1) := by decide +kernel
theorem dX6_guarded_35 : decode cX6_guarded 35 = .ok (.iconst 0, 1) := by decide +kernel
theorem dX6_guarded_36 : decode cX6_guarded 36 = .ok (.invokevirtual 208, 3) := by decide +kernel
theorem dX6_guarded_39 : decode cX6_guarded 39 = .ok (.istore 4, 2) := by decide +kernel
theorem dX6_guarded_41 : decode cX6_guarded 41 = .ok (.iload_n 3, 1) := by decide +kernel
theorem dX6_guarded_42 : decode cX6_guarded 42 = .ok (.ireturn, 1) := by decide +kernel
theorem dX6_beginTest_0 : decode cX6_beginTest 0 = .ok (.aload_n 0, 1) := by decide +kernel
theorem dX6_beginTest_1 : decode cX6_beginTest 1 = .ok (.iload_n 1, 1) := by decide +kernel
theorem dX6_beginTest_2 : decode cX6_beginTest 2 = .ok (.iconst 3, 1) := by decide +kernel
theorem dX6_beginTest_3 : decode cX6_beginTest 3 = .ok (.invokevirtual 222, 3) := by decide +kernel
theorem dX6_beginTest_6 : decode cX6_beginTest 6 = .ok (.istore_n 2, 1) := by decide +kernel
theorem dX6_beginTest_7 : decode cX6_beginTest 7 = .ok (.aload_n 0, 1) := by decide +kernel
theorem dX6_beginTest_8 : decode cX6_beginTest 8 = .ok (.iload_n 1, 1) := by decide +kernel
theorem dX6_beginTest_9 : decode cX6_beginTest 9 = .ok (.iconst 5, 1) := by decide +kernel
theorem dX6_beginTest_10 : decode cX6_beginTest 10 = .ok (.invokevirtual 222, 3) := by decide +kernel
theorem dX6_beginTest_13 : decode cX6_beginTest 13 = .ok (.istore_n 3, 1) := by decide +kernel
theorem dX6_beginTest_14 : decode cX6_beginTest 14 = .ok (.aload_n 0, 1) := by decide +kernel
theorem dX6_beginTest_15 : decode cX6_beginTest 15 = .ok (.invokevirtual 205, 3) := by decide +kernel
theorem dX6_beginTest_18 : decode cX6_beginTest 18 = .ok (.istore 4, 2) := by decide +kernel
theorem dX6_beginTest_20 : decode cX6_beginTest 20 = .ok (.aload_n 0, 1) := by decide +kernel
theorem dX6_beginTest_21 : decode cX6_beginTest 21 = .ok (.aload_n 0, 1) := by decide +kernel
theorem dX6_beginTest_22 : decode cX6_beginTest 22 = .ok (.iload_n 1, 1) := by decide +kernel
theorem dX6_beginTest_23 : decode cX6_beginTest 23 = .ok (.iconst 2, 1) := by decide +kernel
theorem dX6_beginTest_24 : decode cX6_beginTest 24 = .ok (.invokevirtual 212, 3) := by decide +kernel
theorem dX6_beginTest_27 : decode cX6_beginTest 27 = .ok (.iload 4, 2) := by decide +kernel
theorem dX6_beginTest_29 : decode cX6_beginTest 29 = .ok (.iload_n 2, 1) := by decide +kernel
theorem dX6_beginTest_30 : decode cX6_beginTest 30 = .ok (.iload_n 3, 1) := by decide +kernel
theorem dX6_beginTest_31 : decode cX6_beginTest 31 = .ok (.iconst 0, 1) := by decide +kernel
theorem dX6_beginTest_32 : decode cX6_beginTest 32 = .ok (.invokevirtual 208, 3) := by decide +kernel
theorem dX6_beginTest_35 : decode cX6_beginTest 35 = .ok (.istore 5, 2) := by decide +kernel
theorem dX6_beginTest_37 : decode cX6_beginTest 37 = .ok (.aload_n 0, 1) := by decide +kernel
theorem dX6_beginTest_38 : decode cX6_beginTest 38 = .ok (.getfield 219, 3) := by decide +kernel
theorem dX6_beginTest_41 : decode cX6_beginTest 41 = .ok (.istore 6, 2) := by decide +kernel
theorem dX6_beginTest_43 : decode cX6_beginTest 43 = .ok (.aload_n 0, 1) := by decide +kernel
theorem dX6_beginTest_44 : decode cX6_beginTest 44 = .ok (.getfield 57, 3) := by decide +kernel
theorem dX6_beginTest_47 : decode cX6_beginTest 47 = .ok (.iload 6, 2) := by decide +kernel
theorem dX6_beginTest_49 : decode cX6_beginTest 49 = .ok (.iload_n 1, 1) := by decide +kernel
theorem dX6_beginTest_50 : decode cX6_beginTest 50 = .ok (.iastore, 1) := by decide +kernel
theorem dX6_beginTest_51 : decode cX6_beginTest 51 = .ok (.aload_n 0, 1) := by decide +kernel
theorem dX6_beginTest_52 : decode cX6_beginTest 52 = .ok (.getfield 60, 3) := by decide +kernel
theorem dX6_beginTest_55 : decode cX6_beginTest 55 = .ok (.iload 6, 2) := by decide +kernel
theorem dX6_beginTest_57 : decode cX6_beginTest 57 = .ok (.iconst 0, 1) := by decide +kernel
theorem dX6_beginTest_58 : decode cX6_beginTest 58 = .ok (.bastore, 1) := by decide +kernel
theorem dX6_beginTest_59 : decode cX6_beginTest 59 = .ok (.aload_n 0, 1) := by decide +kernel
theorem dX6_beginTest_60 : decode cX6_beginTest 60 = .ok (.getfield 63, 3) := by decide +kernel
theorem dX6_beginTest_63 : decode cX6_beginTest 63 = .ok (.iload 6, 2) := by decide +kernel
theorem dX6_beginTest_65 : decode cX6_beginTest 65 = .ok (.aload_n 0, 1) := by decide +kernel
theorem dX6_beginTest_66 : decode cX6_beginTest 66 = .ok (.getfield 51, 3) := by decide +kernel
theorem dX6_beginTest_69 : decode cX6_beginTest 69 = .ok (.iload_n 1, 1) := by decide +kernel
theorem dX6_beginTest_70 : decode cX6_beginTest 70 = .ok (.baload, 1) := by decide +kernel
theorem dX6_beginTest_71 : decode cX6_beginTest 71 = .ok (.bastore, 1) := by decide +kernel
theorem dX6_beginTest_72 : decode cX6_beginTest 72 = .ok (.aload_n 0, 1) := by decide +kernel
theorem dX6_beginTest_73 : decode cX6_beginTest 73 = .ok (.getfield 66, 3) := by decide +kernel
theorem dX6_beginTest_76 : decode cX6_beginTest 76 = .ok (.iload 6, 2) := by decide +kernel
theorem dX6_beginTest_78 : decode cX6_beginTest 78 = .ok (.iload 4, 2) := by decide +kernel
theorem dX6_beginTest_80 : decode cX6_beginTest 80 = .ok (.iastore, 1) := by decide +kernel
theorem dX6_beginTest_81 : decode cX6_beginTest 81 = .ok (.aload_n 0, 1) := by decide +kernel
theorem dX6_beginTest_82 : decode cX6_beginTest 82 = .ok (.getfield 51, 3) := by decide +kernel
theorem dX6_beginTest_85 : decode cX6_beginTest 85 = .ok (.iload_n 1, 1) := by decide +kernel
theorem dX6_beginTest_86 : decode cX6_beginTest 86 = .ok (.baload, 1) := by decide +kernel
theorem dX6_beginTest_87 : decode cX6_beginTest 87 = .ok (.ifCond .eq 69, 3) := by decide +kernel
theorem dX6_beginTest_90 : decode cX6_beginTest 90 = .ok (.iconst 0, 1) := by decide +kernel
theorem dX6_beginTest_91 : decode cX6_beginTest 91 = .ok (.istore 7, 2) := by decide +kernel
theorem dX6_beginTest_93 : decode cX6_beginTest 93 = .ok (.iload 7, 2) := by decide +kernel
theorem dX6_beginTest_95 : decode cX6_beginTest 95 = .ok (.bipush 16, 2) := by decide +kernel
theorem dX6_beginTest_97 : decode cX6_beginTest 97 = .ok (.if_icmp .ge 29, 3) := by decide +kernel
theorem dX6_beginTest_100 : decode cX6_beginTest 100 = .ok (.aload_n 0, 1) := by decide +kernel
theorem dX6_beginTest_101 : decode cX6_beginTest 101 = .ok (.getfield 75, 3) := by decide +kernel
theorem dX6_beginTest_104 : decode cX6_beginTest 104 = .ok (.bipush 16, 2) := by decide +kernel
theorem dX6_beginTest_106 : decode cX6_beginTest 106 = .ok (.iload 6, 2) := by decide +kernel
theorem dX6_beginTest_108 : decode cX6_beginTest 108 = .ok (.imul, 1) := by decide +kernel
theorem dX6_beginTest_109 : decode cX6_beginTest 109 = .ok (.iload 7, 2) := by decide +kernel
theorem dX6_beginTest_111 : decode cX6_beginTest 111 = .ok (.iadd, 1) := by decide +kernel
theorem dX6_beginTest_112 : decode cX6_beginTest 112 = .ok (.aload_n 0, 1) := by decide +kernel
theorem dX6_beginTest_113 : decode cX6_beginTest 113 = .ok (.getfield 54, 3) := by decide +kernel
theorem dX6_beginTest_116 : decode cX6_beginTest 116 = .ok (.iload 7, 2) := by decide +kernel
theorem dX6_beginTest_118 : decode cX6_beginTest 118 = .ok (.iaload, 1) := by decide +kernel
theorem dX6_beginTest_119 : decode cX6_beginTest 119 = .ok (.iastore, 1) := by decide +kernel
theorem dX6_beginTest_120 : decode cX6_beginTest 120 = .ok (.iinc 7 1, 3) := by decide +kernel
theorem dX6_beginTest_123 : decode cX6_beginTest 123 = .ok (.goto (-30), 3) := by decide +kernel
theorem dX6_beginTest_126 : decode cX6_beginTest 126 = .ok (.aload_n 0, 1) := by decide +kernel
theorem dX6_beginTest_127 : decode cX6_beginTest 127 = .ok (.getfield 31, 3) := by decide +kernel
theorem dX6_beginTest_130 : decode cX6_beginTest 130 = .ok (.iload_n 1, 1) := by decide +kernel
theorem dX6_beginTest_131 : decode cX6_beginTest 131 = .ok (.iaload, 1) := by decide +kernel
theorem dX6_beginTest_132 : decode cX6_beginTest 132 = .ok (.iload_n 1, 1) := by decide +kernel
theorem dX6_beginTest_133 : decode cX6_beginTest 133 = .ok (.iconst 1, 1) := by decide +kernel
theorem dX6_beginTest_134 : decode cX6_beginTest 134 = .ok (.iadd, 1) := by decide +kernel
theorem dX6_beginTest_135 : decode cX6_beginTest 135 = .ok (.if_icmp .le 39, 3) := by decide +kernel
theorem dX6_beginTest_138 : decode cX6_beginTest 138 = .ok (.aload_n 0, 1) := by decide +kernel
theorem dX6_beginTest_139 : decode cX6_beginTest 139 = .ok (.getfield 69, 3) := by decide +kernel
theorem dX6_beginTest_142 : decode cX6_beginTest 142 = .ok (.iload 6, 2) := by decide +kernel
theorem dX6_beginTest_144 : decode cX6_beginTest 144 = .ok (.aload_n 0, 1) := by decide +kernel
theorem dX6_beginTest_145 : decode cX6_beginTest 145 = .ok (.iload 6, 2) := by decide +kernel
theorem dX6_beginTest_147 : decode cX6_beginTest 147 = .ok (.iload 4, 2) := by decide +kernel
theorem dX6_beginTest_149 : decode cX6_beginTest 149 = .ok (.invokevirtual 225, 3) := by decide +kernel
theorem dX6_beginTest_152 : decode cX6_beginTest 152 = .ok (.iastore, 1) := by decide +kernel
theorem dX6_beginTest_153 : decode cX6_beginTest 153 = .ok (.goto 21, 3) := by decide +kernel
theorem dX6_beginTest_156 : decode cX6_beginTest 156 = .ok (.aload_n 0, 1) := by decide +kernel
theorem dX6_beginTest_157 : decode cX6_beginTest 157 = .ok (.getfield 72, 3) := by decide +kernel
theorem dX6_beginTest_160 : decode cX6_beginTest 160 = .ok (.iload 6, 2) := by decide +kernel
theorem dX6_beginTest_162 : decode cX6_beginTest 162 = .ok (.aload_n 0, 1) := by decide +kernel
theorem dX6_beginTest_163 : decode cX6_beginTest 163 = .ok (.bipush 17, 2) := by decide +kernel
theorem dX6_beginTest_165 : decode cX6_beginTest 165 = .ok (.iload 4, 2) := by decide +kernel
theorem dX6_beginTest_167 : decode cX6_beginTest 167 = .ok (.iconst 0, 1) := by decide +kernel
theorem dX6_beginTest_168 : decode cX6_beginTest 168 = .ok (.iconst 0, 1) := by decide +kernel
theorem dX6_beginTest_169 : decode cX6_beginTest 169 = .ok (.iconst 0, 1) := by decide +kernel
theorem dX6_beginTest_170 : decode cX6_beginTest 170 = .ok (.invokevirtual 208, 3) := by decide +kernel
theorem dX6_beginTest_173 : decode cX6_beginTest 173 = .ok (.iastore, 1) := by decide +kernel
theorem dX6_beginTest_174 : decode cX6_beginTest 174 = .ok (.aload_n 0, 1) := by decide +kernel
theorem dX6_beginTest_175 : decode cX6_beginTest 175 = .ok (.dup, 1) := by decide +kernel
theorem dX6_beginTest_176 : decode cX6_beginTest 176 = .ok (.getfield 219, 3) := by decide +kernel
theorem dX6_beginTest_179 : decode cX6_beginTest 179 = .ok (.iconst 1, 1) := by decide +kernel
theorem dX6_beginTest_180 : decode cX6_beginTest 180 = .ok (.iadd, 1) := by decide +kernel
theorem dX6_beginTest_181 : decode cX6_beginTest 181 = .ok (.putfield 219, 3) := by decide +kernel
theorem dX6_beginTest_184 : decode cX6_beginTest 184 = .ok (.return_, 1) := by decide +kernel
theorem dX6_endFirst_0 : decode cX6_endFirst 0 = .ok (.aload_n 0, 1) := by decide +kernel
theorem dX6_endFirst_1 : decode cX6_endFirst 1 = .ok (.getfield 57, 3) := by decide +kernel
theorem dX6_endFirst_4 : decode cX6_endFirst 4 = .ok (.iload_n 1, 1) := by decide +kernel
theorem dX6_endFirst_5 : decode cX6_endFirst 5 = .ok (.iaload, 1) := by decide +kernel
theorem dX6_endFirst_6 : decode cX6_endFirst 6 = .ok (.istore_n 2, 1) := by decide +kernel
theorem dX6_endFirst_7 : decode cX6_endFirst 7 = .ok (.aload_n 0, 1) := by decide +kernel
theorem dX6_endFirst_8 : decode cX6_endFirst 8 = .ok (.getfield 34, 3) := by decide +kernel
theorem dX6_endFirst_11 : decode cX6_endFirst 11 = .ok (.iload_n 2, 1) := by decide +kernel
theorem dX6_endFirst_12 : decode cX6_endFirst 12 = .ok (.iaload, 1) := by decide +kernel
theorem dX6_endFirst_13 : decode cX6_endFirst 13 = .ok (.aload_n 0, 1) := by decide +kernel
theorem dX6_endFirst_14 : decode cX6_endFirst 14 = .ok (.getfield 31, 3) := by decide +kernel
theorem dX6_endFirst_17 : decode cX6_endFirst 17 = .ok (.iload_n 2, 1) := by decide +kernel
theorem dX6_endFirst_18 : decode cX6_endFirst 18 = .ok (.iaload, 1) := by decide +kernel
theorem dX6_endFirst_19 : decode cX6_endFirst 19 = .ok (.if_icmp .le 7, 3) := by decide +kernel
theorem dX6_endFirst_22 : decode cX6_endFirst 22 = .ok (.iconst 1, 1) := by decide +kernel
theorem dX6_endFirst_23 : decode cX6_endFirst 23 = .ok (.goto 4, 3) := by decide +kernel
theorem dX6_endFirst_26 : decode cX6_endFirst 26 = .ok (.iconst 0, 1) := by decide +kernel
theorem dX6_endFirst_27 : decode cX6_endFirst 27 = .ok (.istore_n 3, 1) := by decide +kernel
theorem dX6_endFirst_28 : decode cX6_endFirst 28 = .ok (.aload_n 0, 1) := by decide +kernel
theorem dX6_endFirst_29 : decode cX6_endFirst 29 = .ok (.getfield 60, 3) := by decide +kernel
theorem dX6_endFirst_32 : decode cX6_endFirst 32 = .ok (.iload_n 1, 1) := by decide +kernel
theorem dX6_endFirst_33 : decode cX6_endFirst 33 = .ok (.iconst 1, 1) := by decide +kernel
theorem dX6_endFirst_34 : decode cX6_endFirst 34 = .ok (.bastore, 1) := by decide +kernel
theorem dX6_endFirst_35 : decode cX6_endFirst 35 = .ok (.aload_n 0, 1) := by decide +kernel
theorem dX6_endFirst_36 : decode cX6_endFirst 36 = .ok (.iload_n 2, 1) := by decide +kernel
theorem dX6_endFirst_37 : decode cX6_endFirst 37 = .ok (.putfield 202, 3) := by decide +kernel
theorem dX6_endFirst_40 : decode cX6_endFirst 40 = .ok (.aload_n 0, 1) := by decide +kernel
theorem dX6_endFirst_41 : decode cX6_endFirst 41 = .ok (.getfield 63, 3) := by decide +kernel
theorem dX6_endFirst_44 : decode cX6_endFirst 44 = .ok (.iload_n 1, 1) := by decide +kernel
theorem dX6_endFirst_45 : decode cX6_endFirst 45 = .ok (.baload, 1) := by decide +kernel
theorem dX6_endFirst_46 : decode cX6_endFirst 46 = .ok (.ifCond .eq 107, 3) := by decide +kernel
theorem dX6_endFirst_49 : decode cX6_endFirst 49 = .ok (.iconst 0, 1) := by decide +kernel
theorem dX6_endFirst_50 : decode cX6_endFirst 50 = .ok (.istore 4, 2) := by decide +kernel
theorem dX6_endFirst_52 : decode cX6_endFirst 52 = .ok (.iload 4, 2) := by decide +kernel
theorem dX6_endFirst_54 : decode cX6_endFirst 54 = .ok (.bipush 16, 2) := by decide +kernel
theorem dX6_endFirst_56 : decode cX6_endFirst 56 = .ok (.if_icmp .ge 47, 3) := by decide +kernel
theorem dX6_endFirst_59 : decode cX6_endFirst 59 = .ok (.aload_n 0, 1) := by decide +kernel
theorem dX6_endFirst_60 : decode cX6_endFirst 60 = .ok (.getfield 78, 3) := by decide +kernel
theorem dX6_endFirst_63 : decode cX6_endFirst 63 = .ok (.bipush 16, 2) := by decide +kernel
theorem dX6_endFirst_65 : decode cX6_endFirst 65 = .ok (.iload_n 1, 1) := by decide +kernel
theorem dX6_endFirst_66 : decode cX6_endFirst 66 = .ok (.imul, 1) := by decide +kernel
theorem dX6_endFirst_67 : decode cX6_endFirst 67 = .ok (.iload 4, 2) := by decide +kernel
theorem dX6_endFirst_69 : decode cX6_endFirst 69 = .ok (.iadd, 1) := by decide +kernel
theorem dX6_endFirst_70 : decode cX6_endFirst 70 = .ok (.aload_n 0, 1) := by decide +kernel
theorem dX6_endFirst_71 : decode cX6_endFirst 71 = .ok (.getfield 54, 3) := by decide +kernel
theorem dX6_endFirst_74 : decode cX6_endFirst 74 = .ok (.iload 4, 2) := by decide +kernel
theorem dX6_endFirst_76 : decode cX6_endFirst 76 = .ok (.iaload, 1) := by decide +kernel
theorem dX6_endFirst_77 : decode cX6_endFirst 77 = .ok (.iastore, 1) := by decide +kernel
theorem dX6_endFirst_78 : decode cX6_endFirst 78 = .ok (.aload_n 0, 1) := by decide +kernel
theorem dX6_endFirst_79 : decode cX6_endFirst 79 = .ok (.getfield 54, 3) := by decide +kernel
theorem dX6_endFirst_82 : decode cX6_endFirst 82 = .ok (.iload 4, 2) := by decide +kernel
theorem dX6_endFirst_84 : decode cX6_endFirst 84 = .ok (.aload_n 0, 1) := by decide +kernel
theorem dX6_endFirst_85 : decode cX6_endFirst 85 = .ok (.getfield 75, 3) := by decide +kernel
theorem dX6_endFirst_88 : decode cX6_endFirst 88 = .ok (.bipush 16, 2) := by decide +kernel
theorem dX6_endFirst_90 : decode cX6_endFirst 90 = .ok (.iload_n 1, 1) := by decide +kernel
theorem dX6_endFirst_91 : decode cX6_endFirst 91 = .ok (.imul, 1) := by decide +kernel
theorem dX6_endFirst_92 : decode cX6_endFirst 92 = .ok (.iload 4, 2) := by decide +kernel
theorem dX6_endFirst_94 : decode cX6_endFirst 94 = .ok (.iadd, 1) := by decide +kernel
theorem dX6_endFirst_95 : decode cX6_endFirst 95 = .ok (.iaload, 1) := by decide +kernel
theorem dX6_endFirst_96 : decode cX6_endFirst 96 = .ok (.iastore, 1) := by decide +kernel
theorem dX6_endFirst_97 : decode cX6_endFirst 97 = .ok (.iinc 4 1, 3) := by decide +kernel
theorem dX6_endFirst_100 : decode cX6_endFirst 100 = .ok (.goto (-48), 3) := by decide +kernel
theorem dX6_endFirst_103 : decode cX6_endFirst 103 = .ok (.iload_n 3, 1) := by decide +kernel
theorem dX6_endFirst_104 : decode cX6_endFirst 104 = .ok (.ifCond .eq 48, 3) := by decide +kernel
theorem dX6_endFirst_107 : decode cX6_endFirst 107 = .ok (.aload_n 0, 1) := by decide +kernel
theorem dX6_endFirst_108 : decode cX6_endFirst 108 = .ok (.iconst 0, 1) := by decide +kernel
theorem dX6_endFirst_109 : decode cX6_endFirst 109 = .ok (.invokevirtual 216, 3) := by decide +kernel
theorem dX6_endFirst_112 : decode cX6_endFirst 112 = .ok (.istore 4, 2) := by decide +kernel
theorem dX6_endFirst_114 : decode cX6_endFirst 114 = .ok (.aload_n 0, 1) := by decide +kernel
theorem dX6_endFirst_115 : decode cX6_endFirst 115 = .ok (.invokevirtual 205, 3) := by decide +kernel
theorem dX6_endFirst_118 : decode cX6_endFirst 118 = .ok (.istore 5, 2) := by decide +kernel
theorem dX6_endFirst_120 : decode cX6_endFirst 120 = .ok (.aload_n 0, 1) := by decide +kernel
theorem dX6_endFirst_121 : decode cX6_endFirst 121 = .ok (.bipush 10, 2) := by decide +kernel
theorem dX6_endFirst_123 : decode cX6_endFirst 123 = .ok (.iload 5, 2) := by decide +kernel
theorem dX6_endFirst_125 : decode cX6_endFirst 125 = .ok (.aload_n 0, 1) := by decide +kernel
theorem dX6_endFirst_126 : decode cX6_endFirst 126 = .ok (.getfield 66, 3) := by decide +kernel
theorem dX6_endFirst_129 : decode cX6_endFirst 129 = .ok (.iload_n 1, 1) := by decide +kernel
theorem dX6_endFirst_130 : decode cX6_endFirst 130 = .ok (.iaload, 1) := by decide +kernel
theorem dX6_endFirst_131 : decode cX6_endFirst 131 = .ok (.iload 4, 2) := by decide +kernel
theorem dX6_endFirst_133 : decode cX6_endFirst 133 = .ok (.iconst 0, 1) := by decide +kernel
theorem dX6_endFirst_134 : decode cX6_endFirst 134 = .ok (.invokevirtual 208, 3) := by decide +kernel
theorem dX6_endFirst_137 : decode cX6_endFirst 137 = .ok (.istore 6, 2) := by decide +kernel
theorem dX6_endFirst_139 : decode cX6_endFirst 139 = .ok (.aload_n 0, 1) := by decide +kernel
theorem dX6_endFirst_140 : decode cX6_endFirst 140 = .ok (.getfield 69, 3) := by decide +kernel
theorem dX6_endFirst_143 : decode cX6_endFirst 143 = .ok (.iload_n 1, 1) := by decide +kernel
theorem dX6_endFirst_144 : decode cX6_endFirst 144 = .ok (.aload_n 0, 1) := by decide +kernel
theorem dX6_endFirst_145 : decode cX6_endFirst 145 = .ok (.iload_n 1, 1) := by decide +kernel
theorem dX6_endFirst_146 : decode cX6_endFirst 146 = .ok (.iload 5, 2) := by decide +kernel
theorem dX6_endFirst_148 : decode cX6_endFirst 148 = .ok (.invokevirtual 225, 3) := by decide +kernel
theorem dX6_endFirst_151 : decode cX6_endFirst 151 = .ok (.iastore, 1) := by decide +kernel
theorem dX6_endFirst_152 : decode cX6_endFirst 152 = .ok (.return_, 1) := by decide +kernel
theorem dX6_endFirst_153 : decode cX6_endFirst 153 = .ok (.iload_n 3, 1) := by decide +kernel
theorem dX6_endFirst_154 : decode cX6_endFirst 154 = .ok (.ifCond .eq 16, 3) := by decide +kernel
theorem dX6_endFirst_157 : decode cX6_endFirst 157 = .ok (.aload_n 0, 1) := by decide +kernel
theorem dX6_endFirst_158 : decode cX6_endFirst 158 = .ok (.bipush 16, 2) := by decide +kernel
theorem dX6_endFirst_160 : decode cX6_endFirst 160 = .ok (.iconst 0, 1) := by decide +kernel
theorem dX6_endFirst_161 : decode cX6_endFirst 161 = .ok (.iconst 0, 1) := by decide +kernel
theorem dX6_endFirst_162 : decode cX6_endFirst 162 = .ok (.iconst 0, 1) := by decide +kernel
theorem dX6_endFirst_163 : decode cX6_endFirst 163 = .ok (.iconst 0, 1) := by decide +kernel
theorem dX6_endFirst_164 : decode cX6_endFirst 164 = .ok (.invokevirtual 208, 3) := by decide +kernel
theorem dX6_endFirst_167 : decode cX6_endFirst 167 = .ok (.goto 4, 3) := by decide +kernel
theorem dX6_endFirst_170 : decode cX6_endFirst 170 = .ok (.iconst (-1), 1) := by decide +kernel
theorem dX6_endFirst_171 : decode cX6_endFirst 171 = .ok (.istore 4, 2) := by decide +kernel
theorem dX6_endFirst_173 : decode cX6_endFirst 173 = .ok (.aload_n 0, 1) := by decide +kernel
theorem dX6_endFirst_174 : decode cX6_endFirst 174 = .ok (.getfield 44, 3) := by decide +kernel
theorem dX6_endFirst_177 : decode cX6_endFirst 177 = .ok (.bipush 6, 2) := by decide +kernel
theorem dX6_endFirst_179 : decode cX6_endFirst 179 = .ok (.aload_n 0, 1) := by decide +kernel
theorem dX6_endFirst_180 : decode cX6_endFirst 180 = .ok (.getfield 72, 3) := by decide +kernel
theorem dX6_endFirst_183 : decode cX6_endFirst 183 = .ok (.iload_n 1, 1) := by decide +kernel
theorem dX6_endFirst_184 : decode cX6_endFirst 184 = .ok (.iaload, 1) := by decide +kernel
theorem dX6_endFirst_185 : decode cX6_endFirst 185 = .ok (.imul, 1) := by decide +kernel
theorem dX6_endFirst_186 : decode cX6_endFirst 186 = .ok (.iconst 2, 1) := by decide +kernel
theorem dX6_endFirst_187 : decode cX6_endFirst 187 = .ok (.iadd, 1) := by decide +kernel
theorem dX6_endFirst_188 : decode cX6_endFirst 188 = .ok (.aload_n 0, 1) := by decide +kernel
theorem dX6_endFirst_189 : decode cX6_endFirst 189 = .ok (.getfield 199, 3) := by decide +kernel
theorem dX6_endFirst_192 : decode cX6_endFirst 192 = .ok (.iastore, 1) := by decide +kernel
theorem dX6_endFirst_193 : decode cX6_endFirst 193 = .ok (.aload_n 0, 1) := by decide +kernel
theorem dX6_endFirst_194 : decode cX6_endFirst 194 = .ok (.getfield 72, 3) := by decide +kernel
theorem dX6_endFirst_197 : decode cX6_endFirst 197 = .ok (.iload_n 1, 1) := by decide +kernel
theorem dX6_endFirst_198 : decode cX6_endFirst 198 = .ok (.iload 4, 2) := by decide +kernel
theorem dX6_endFirst_200 : decode cX6_endFirst 200 = .ok (.iastore, 1) := by decide +kernel
theorem dX6_endFirst_201 : decode cX6_endFirst 201 = .ok (.return_, 1) := by decide +kernel
theorem dX6_endSecond_0 : decode cX6_endSecond 0 = .ok (.aload_n 0, 1) := by decide +kernel
theorem dX6_endSecond_1 : decode cX6_endSecond 1 = .ok (.aload_n 0, 1) := by decide +kernel
theorem dX6_endSecond_2 : decode cX6_endSecond 2 = .ok (.getfield 57, 3) := by decide +kernel
theorem dX6_endSecond_5 : decode cX6_endSecond 5 = .ok (.iload_n 1, 1) := by decide +kernel
theorem dX6_endSecond_6 : decode cX6_endSecond 6 = .ok (.iaload, 1) := by decide +kernel
theorem dX6_endSecond_7 : decode cX6_endSecond 7 = .ok (.putfield 202, 3) := by decide +kernel
theorem dX6_endSecond_10 : decode cX6_endSecond 10 = .ok (.aload_n 0, 1) := by decide +kernel
theorem dX6_endSecond_11 : decode cX6_endSecond 11 = .ok (.dup, 1) := by decide +kernel
theorem dX6_endSecond_12 : decode cX6_endSecond 12 = .ok (.getfield 219, 3) := by decide +kernel
theorem dX6_endSecond_15 : decode cX6_endSecond 15 = .ok (.iconst 1, 1) := by decide +kernel
theorem dX6_endSecond_16 : decode cX6_endSecond 16 = .ok (.isub, 1) := by decide +kernel
theorem dX6_endSecond_17 : decode cX6_endSecond 17 = .ok (.putfield 219, 3) := by decide +kernel
theorem dX6_endSecond_20 : decode cX6_endSecond 20 = .ok (.aload_n 0, 1) := by decide +kernel
theorem dX6_endSecond_21 : decode cX6_endSecond 21 = .ok (.getfield 63, 3) := by decide +kernel
theorem dX6_endSecond_24 : decode cX6_endSecond 24 = .ok (.iload_n 1, 1) := by decide +kernel
theorem dX6_endSecond_25 : decode cX6_endSecond 25 = .ok (.baload, 1) := by decide +kernel
theorem dX6_endSecond_26 : decode cX6_endSecond 26 = .ok (.ifCond .ne 34, 3) := by decide +kernel
theorem dX6_endSecond_29 : decode cX6_endSecond 29 = .ok (.aload_n 0, 1) := by decide +kernel
theorem dX6_endSecond_30 : decode cX6_endSecond 30 = .ok (.getfield 72, 3) := by decide +kernel
theorem dX6_endSecond_33 : decode cX6_endSecond 33 = .ok (.iload_n 1, 1) := by decide +kernel
theorem dX6_endSecond_34 : decode cX6_endSecond 34 = .ok (.iaload, 1) := by decide +kernel
theorem dX6_endSecond_35 : decode cX6_endSecond 35 = .ok (.iconst (-1), 1) := by decide +kernel
theorem dX6_endSecond_36 : decode cX6_endSecond 36 = .ok (.if_icmp .eq 23, 3) := by decide +kernel
theorem dX6_endSecond_39 : decode cX6_endSecond 39 = .ok (.aload_n 0, 1) := by decide +kernel
theorem dX6_endSecond_40 : decode cX6_endSecond 40 = .ok (.getfield 44, 3) := by decide +kernel
theorem dX6_endSecond_43 : decode cX6_endSecond 43 = .ok (.bipush 6, 2) := by decide +kernel
theorem dX6_endSecond_45 : decode cX6_endSecond 45 = .ok (.aload_n 0, 1) := by decide +kernel
theorem dX6_endSecond_46 : decode cX6_endSecond 46 = .ok (.getfield 72, 3) := by decide +kernel
theorem dX6_endSecond_49 : decode cX6_endSecond 49 = .ok (.iload_n 1, 1) := by decide +kernel
theorem dX6_endSecond_50 : decode cX6_endSecond 50 = .ok (.iaload, 1) := by decide +kernel
theorem dX6_endSecond_51 : decode cX6_endSecond 51 = .ok (.imul, 1) := by decide +kernel
theorem dX6_endSecond_52 : decode cX6_endSecond 52 = .ok (.iconst 1, 1) := by decide +kernel
theorem dX6_endSecond_53 : decode cX6_endSecond 53 = .ok (.iadd, 1) := by decide +kernel
theorem dX6_endSecond_54 : decode cX6_endSecond 54 = .ok (.aload_n 0, 1) := by decide +kernel
theorem dX6_endSecond_55 : decode cX6_endSecond 55 = .ok (.getfield 199, 3) := by decide +kernel
theorem dX6_endSecond_58 : decode cX6_endSecond 58 = .ok (.iastore, 1) := by decide +kernel
theorem dX6_endSecond_59 : decode cX6_endSecond 59 = .ok (.return_, 1) := by decide +kernel
theorem dX6_endSecond_60 : decode cX6_endSecond 60 = .ok (.iconst 0, 1) := by decide +kernel
theorem dX6_endSecond_61 : decode cX6_endSecond 61 = .ok (.istore_n 2, 1) := by decide +kernel
theorem dX6_endSecond_62 : decode cX6_endSecond 62 = .ok (.iload_n 2, 1) := by decide +kernel
theorem dX6_endSecond_63 : decode cX6_endSecond 63 = .ok (.bipush 16, 2) := by decide +kernel
theorem dX6_endSecond_65 : decode cX6_endSecond 65 = .ok (.if_icmp .ge 88, 3) := by decide +kernel
theorem dX6_endSecond_68 : decode cX6_endSecond 68 = .ok (.aload_n 0, 1) := by decide +kernel
theorem dX6_endSecond_69 : decode cX6_endSecond 69 = .ok (.getfield 78, 3) := by decide +kernel
theorem dX6_endSecond_72 : decode cX6_endSecond 72 = .ok (.bipush 16, 2) := by decide +kernel
theorem dX6_endSecond_74 : decode cX6_endSecond 74 = .ok (.iload_n 1, 1) := by decide +kernel
theorem dX6_endSecond_75 : decode cX6_endSecond 75 = .ok (.imul, 1) := by decide +kernel
theorem dX6_endSecond_76 : decode cX6_endSecond 76 = .ok (.iload_n 2, 1) := by decide +kernel
theorem dX6_endSecond_77 : decode cX6_endSecond 77 = .ok (.iadd, 1) := by decide +kernel
theorem dX6_endSecond_78 : decode cX6_endSecond 78 = .ok (.iaload, 1) := by decide +kernel
theorem dX6_endSecond_79 : decode cX6_endSecond 79 = .ok (.istore_n 3, 1) := by decide +kernel
theorem dX6_endSecond_80 : decode cX6_endSecond 80 = .ok (.aload_n 0, 1) := by decide +kernel
theorem dX6_endSecond_81 : decode cX6_endSecond 81 = .ok (.getfield 75, 3) := by decide +kernel
theorem dX6_endSecond_84 : decode cX6_endSecond 84 = .ok (.bipush 16, 2) := by decide +kernel
theorem dX6_endSecond_86 : decode cX6_endSecond 86 = .ok (.iload_n 1, 1) := by decide +kernel
theorem dX6_endSecond_87 : decode cX6_endSecond 87 = .ok (.imul, 1) := by decide +kernel
theorem dX6_endSecond_88 : decode cX6_endSecond 88 = .ok (.iload_n 2, 1) := by decide +kernel
theorem dX6_endSecond_89 : decode cX6_endSecond 89 = .ok (.iadd, 1) := by decide +kernel
theorem dX6_endSecond_90 : decode cX6_endSecond 90 = .ok (.iaload, 1) := by decide +kernel
theorem dX6_endSecond_91 : decode cX6_endSecond 91 = .ok (.istore 4, 2) := by decide +kernel
theorem dX6_endSecond_93 : decode cX6_endSecond 93 = .ok (.iload_n 3, 1) := by decide +kernel
theorem dX6_endSecond_94 : decode cX6_endSecond 94 = .ok (.iload 4, 2) := by decide +kernel
theorem dX6_endSecond_96 : decode cX6_endSecond 96 = .ok (.if_icmp .ne 14, 3) := by decide +kernel
theorem dX6_endSecond_99 : decode cX6_endSecond 99 = .ok (.aload_n 0, 1) := by decide +kernel
theorem dX6_endSecond_100 : decode cX6_endSecond 100 = .ok (.getfield 54, 3) := by decide +kernel
theorem dX6_endSecond_103 : decode cX6_endSecond 103 = .ok (.iload_n 2, 1) := by decide +kernel
theorem dX6_endSecond_104 : decode cX6_endSecond 104 = .ok (.iaload, 1) := by decide +kernel
theorem dX6_endSecond_105 : decode cX6_endSecond 105 = .ok (.iload 4, 2) := by decide +kernel
theorem dX6_endSecond_107 : decode cX6_endSecond 107 = .ok (.if_icmp .eq 40, 3) := by decide +kernel
theorem dX6_endSecond_110 : decode cX6_endSecond 110 = .ok (.aload_n 0, 1) := by decide +kernel
theorem dX6_endSecond_111 : decode cX6_endSecond 111 = .ok (.invokevirtual 205, 3) := by decide +kernel
theorem dX6_endSecond_114 : decode cX6_endSecond 114 = .ok (.istore 5, 2) := by decide +kernel
theorem dX6_endSecond_116 : decode cX6_endSecond 116 = .ok (.aload_n 0, 1) := by decide +kernel
theorem dX6_endSecond_117 : decode cX6_endSecond 117 = .ok (.bipush 13, 2) := by decide +kernel
theorem dX6_endSecond_119 : decode cX6_endSecond 119 = .ok (.iload 5, 2) := by decide +kernel
theorem dX6_endSecond_121 : decode cX6_endSecond 121 = .ok (.aload_n 0, 1) := by decide +kernel
theorem dX6_endSecond_122 : decode cX6_endSecond 122 = .ok (.getfield 66, 3) := by decide +kernel
theorem dX6_endSecond_125 : decode cX6_endSecond 125 = .ok (.iload_n 1, 1) := by decide +kernel
theorem dX6_endSecond_126 : decode cX6_endSecond 126 = .ok (.iaload, 1) := by decide +kernel
theorem dX6_endSecond_127 : decode cX6_endSecond 127 = .ok (.iload_n 3, 1) := by decide +kernel
theorem dX6_endSecond_128 : decode cX6_endSecond 128 = .ok (.aload_n 0, 1) := by decide +kernel
theorem dX6_endSecond_129 : decode cX6_endSecond 129 = .ok (.getfield 54, 3) := by decide +kernel
theorem dX6_endSecond_132 : decode cX6_endSecond 132 = .ok (.iload_n 2, 1) := by decide +kernel
theorem dX6_endSecond_133 : decode cX6_endSecond 133 = .ok (.iaload, 1) := by decide +kernel
theorem dX6_endSecond_134 : decode cX6_endSecond 134 = .ok (.invokevirtual 208, 3) := by decide +kernel
theorem dX6_endSecond_137 : decode cX6_endSecond 137 = .ok (.istore 6, 2) := by decide +kernel
theorem dX6_endSecond_139 : decode cX6_endSecond 139 = .ok (.aload_n 0, 1) := by decide +kernel
theorem dX6_endSecond_140 : decode cX6_endSecond 140 = .ok (.getfield 54, 3) := by decide +kernel
theorem dX6_endSecond_143 : decode cX6_endSecond 143 = .ok (.iload_n 2, 1) := by decide +kernel
theorem dX6_endSecond_144 : decode cX6_endSecond 144 = .ok (.iload 5, 2) := by decide +kernel
theorem dX6_endSecond_146 : decode cX6_endSecond 146 = .ok (.iastore, 1) := by decide +kernel
theorem dX6_endSecond_147 : decode cX6_endSecond 147 = .ok (.iinc 2 1, 3) := by decide +kernel
theorem dX6_endSecond_150 : decode cX6_endSecond 150 = .ok (.goto (-88), 3) := by decide +kernel
theorem dX6_endSecond_153 : decode cX6_endSecond 153 = .ok (.aload_n 0, 1) := by decide +kernel
theorem dX6_endSecond_154 : decode cX6_endSecond 154 = .ok (.invokevirtual 228, 3) := by decide +kernel
theorem dX6_endSecond_157 : decode cX6_endSecond 157 = .ok (.ifCond .ne 49, 3) := by decide +kernel
theorem dX6_endSecond_160 : decode cX6_endSecond 160 = .ok (.iconst 0, 1) := by decide +kernel
theorem dX6_endSecond_161 : decode cX6_endSecond 161 = .ok (.istore_n 2, 1) := by decide +kernel
theorem dX6_endSecond_162 : decode cX6_endSecond 162 = .ok (.iload_n 2, 1) := by decide +kernel
theorem dX6_endSecond_163 : decode cX6_endSecond 163 = .ok (.bipush 16, 2) := by decide +kernel
theorem dX6_endSecond_165 : decode cX6_endSecond 165 = .ok (.if_icmp .ge 41, 3) := by decide +kernel
theorem dX6_endSecond_168 : decode cX6_endSecond 168 = .ok (.aload_n 0, 1) := by decide +kernel
theorem dX6_endSecond_169 : decode cX6_endSecond 169 = .ok (.getfield 54, 3) := by decide +kernel
theorem dX6_endSecond_172 : decode cX6_endSecond 172 = .ok (.iload_n 2, 1) := by decide +kernel
theorem dX6_endSecond_173 : decode cX6_endSecond 173 = .ok (.iaload, 1) := by decide +kernel
theorem dX6_endSecond_174 : decode cX6_endSecond 174 = .ok (.iload_n 2, 1) := by decide +kernel
theorem dX6_endSecond_175 : decode cX6_endSecond 175 = .ok (.if_icmp .eq 25, 3) := by decide +kernel
theorem dX6_endSecond_178 : decode cX6_endSecond 178 = .ok (.aload_n 0, 1) := by decide +kernel
theorem dX6_endSecond_179 : decode cX6_endSecond 179 = .ok (.iconst 1, 1) := by decide +kernel
theorem dX6_endSecond_180 : decode cX6_endSecond 180 = .ok (.iload_n 2, 1) := by decide +kernel
theorem dX6_endSecond_181 : decode cX6_endSecond 181 = .ok (.aload_n 0, 1) := by decide +kernel
theorem dX6_endSecond_182 : decode cX6_endSecond 182 = .ok (.getfield 54, 3) := by decide +kernel
theorem dX6_endSecond_185 : decode cX6_endSecond 185 = .ok (.iload_n 2, 1) := by decide +kernel
theorem dX6_endSecond_186 : decode cX6_endSecond 186 = .ok (.iaload, 1) := by decide +kernel
theorem dX6_endSecond_187 : decode cX6_endSecond 187 = .ok (.iconst 0, 1) := by decide +kernel
theorem dX6_endSecond_188 : decode cX6_endSecond 188 = .ok (.iconst 0, 1) := by decide +kernel
theorem dX6_endSecond_189 : decode cX6_endSecond 189 = .ok (.invokevirtual 208, 3) := by decide +kernel
theorem dX6_endSecond_192 : decode cX6_endSecond 192 = .ok (.istore_n 3, 1) := by decide +kernel
theorem dX6_endSecond_193 : decode cX6_endSecond 193 = .ok (.aload_n 0, 1) := by decide +kernel
theorem dX6_endSecond_194 : decode cX6_endSecond 194 = .ok (.getfield 54, 3) := by decide +kernel
theorem dX6_endSecond_197 : decode cX6_endSecond 197 = .ok (.iload_n 2, 1) := by decide +kernel
theorem dX6_endSecond_198 : decode cX6_endSecond 198 = .ok (.iload_n 2, 1) := by decide +kernel
theorem dX6_endSecond_199 : decode cX6_endSecond 199 = .ok (.iastore, 1) := by decide +kernel
theorem dX6_endSecond_200 : decode cX6_endSecond 200 = .ok (.iinc 2 1, 3) := by decide +kernel
theorem dX6_endSecond_203 : decode cX6_endSecond 203 = .ok (.goto (-41), 3) := by decide +kernel
theorem dX6_endSecond_206 : decode cX6_endSecond 206 = .ok (.return_, 1) := by decide +kernel
theorem dX6_harmless_0 : decode cX6_harmless 0 = .ok (.aload_n 0, 1) := by decide +kernel
theorem dX6_harmless_1 : decode cX6_harmless 1 = .ok (.iload_n 2, 1) := by decide +kernel
theorem dX6_harmless_2 : decode cX6_harmless 2 = .ok (.invokevirtual 216, 3) := by decide +kernel
theorem dX6_harmless_5 : decode cX6_harmless 5 = .ok (.istore_n 3, 1) := by decide +kernel
theorem dX6_harmless_6 : decode cX6_harmless 6 = .ok (.aload_n 0, 1) := by decide +kernel
theorem dX6_harmless_7 : decode cX6_harmless 7 = .ok (.invokevirtual 205, 3) := by decide +kernel
theorem dX6_harmless_10 : decode cX6_harmless 10 = .ok (.istore 4, 2) := by decide +kernel
theorem dX6_harmless_12 : decode cX6_harmless 12 = .ok (.aload_n 0, 1) := by decide +kernel
theorem dX6_harmless_13 : decode cX6_harmless 13 = .ok (.bipush 13, 2) := by decide +kernel
theorem dX6_harmless_15 : decode cX6_harmless 15 = .ok (.iload 4, 2) := by decide +kernel
theorem dX6_harmless_17 : decode cX6_harmless 17 = .ok (.aload_n 0, 1) := by decide +kernel
theorem dX6_harmless_18 : decode cX6_harmless 18 = .ok (.getfield 69, 3) := by decide +kernel
theorem dX6_harmless_21 : decode cX6_harmless 21 = .ok (.aload_n 0, 1) := by decide +kernel
theorem dX6_harmless_22 : decode cX6_harmless 22 = .ok (.getfield 219, 3) := by decide +kernel
theorem dX6_harmless_25 : decode cX6_harmless 25 = .ok (.iconst 1, 1) := by decide +kernel
theorem dX6_harmless_26 : decode cX6_harmless 26 = .ok (.isub, 1) := by decide +kernel
theorem dX6_harmless_27 : decode cX6_harmless 27 = .ok (.iaload, 1) := by decide +kernel
theorem dX6_harmless_28 : decode cX6_harmless 28 = .ok (.iload_n 1, 1) := by decide +kernel
theorem dX6_harmless_29 : decode cX6_harmless 29 = .ok (.iload_n 3, 1) := by decide +kernel
theorem dX6_harmless_30 : decode cX6_harmless 30 = .ok (.invokevirtual 208, 3) := by decide +kernel
theorem dX6_harmless_33 : decode cX6_harmless 33 = .ok (.istore 5, 2) := by decide +kernel
theorem dX6_harmless_35 : decode cX6_harmless 35 = .ok (.iload 4, 2) := by decide +kernel
theorem dX6_harmless_37 : decode cX6_harmless 37 = .ok (.ireturn, 1) := by decide +kernel
theorem dX6_isPlainIndex_0 : decode cX6_isPlainIndex 0 = .ok (.aload_n 0, 1) := by decide +kernel
theorem dX6_isPlainIndex_1 : decode cX6_isPlainIndex 1 = .ok (.iload_n 1, 1) := by decide +kernel
theorem dX6_isPlainIndex_2 : decode cX6_isPlainIndex 2 = .ok (.iconst 3, 1) := by decide +kernel
theorem dX6_isPlainIndex_3 : decode cX6_isPlainIndex 3 = .ok (.invokevirtual 212, 3) := by decide +kernel
theorem dX6_isPlainIndex_6 : decode cX6_isPlainIndex 6 = .ok (.ifCond .ne 24, 3) := by decide +kernel
theorem dX6_isPlainIndex_9 : decode cX6_isPlainIndex 9 = .ok (.aload_n 0, 1) := by decide +kernel
theorem dX6_isPlainIndex_10 : decode cX6_isPlainIndex 10 = .ok (.iload_n 1, 1) := by decide +kernel
theorem dX6_isPlainIndex_11 : decode cX6_isPlainIndex 11 = .ok (.iconst 4, 1) := by decide +kernel
theorem dX6_isPlainIndex_12 : decode cX6_isPlainIndex 12 = .ok (.invokevirtual 212, 3) := by decide +kernel
theorem dX6_isPlainIndex_15 : decode cX6_isPlainIndex 15 = .ok (.i2l, 1) := by decide +kernel
theorem dX6_isPlainIndex_16 : decode cX6_isPlainIndex 16 = .ok (.lconst 0, 1) := by decide +kernel
theorem dX6_isPlainIndex_17 : decode cX6_isPlainIndex 17 = .ok (.ldc2_w 115, 3) := by decide +kernel
theorem dX6_isPlainIndex_20 : decode cX6_isPlainIndex 20 = .ok (.invokestatic 107, 3) := by decide +kernel
theorem dX6_isPlainIndex_23 : decode cX6_isPlainIndex 23 = .ok (.ifCond .eq 7, 3) := by decide +kernel
theorem dX6_isPlainIndex_26 : decode cX6_isPlainIndex 26 = .ok (.iconst 1, 1) := by decide +kernel
theorem dX6_isPlainIndex_27 : decode cX6_isPlainIndex 27 = .ok (.goto 4, 3) := by decide +kernel
theorem dX6_isPlainIndex_30 : decode cX6_isPlainIndex 30 = .ok (.iconst 0, 1) := by decide +kernel
theorem dX6_isPlainIndex_31 : decode cX6_isPlainIndex 31 = .ok (.ireturn, 1) := by decide +kernel
theorem dX6_target_0 : decode cX6_target 0 = .ok (.aload_n 0, 1) := by decide +kernel
theorem dX6_target_1 : decode cX6_target 1 = .ok (.iload_n 1, 1) := by decide +kernel
theorem dX6_target_2 : decode cX6_target 2 = .ok (.iconst 1, 1) := by decide +kernel
theorem dX6_target_3 : decode cX6_target 3 = .ok (.invokevirtual 212, 3) := by decide +kernel
theorem dX6_target_6 : decode cX6_target 6 = .ok (.istore_n 2, 1) := by decide +kernel
theorem dX6_target_7 : decode cX6_target 7 = .ok (.aload_n 0, 1) := by decide +kernel
theorem dX6_target_8 : decode cX6_target 8 = .ok (.invokevirtual 228, 3) := by decide +kernel
theorem dX6_target_11 : decode cX6_target 11 = .ok (.ifCond .ne 5, 3) := by decide +kernel
theorem dX6_target_14 : decode cX6_target 14 = .ok (.iload_n 2, 1) := by decide +kernel
theorem dX6_target_15 : decode cX6_target 15 = .ok (.ireturn, 1) := by decide +kernel
theorem dX6_target_16 : decode cX6_target 16 = .ok (.aload_n 0, 1) := by decide +kernel
theorem dX6_target_17 : decode cX6_target 17 = .ok (.getfield 54, 3) := by decide +kernel
theorem dX6_target_20 : decode cX6_target 20 = .ok (.iload_n 2, 1) := by decide +kernel
theorem dX6_target_21 : decode cX6_target 21 = .ok (.aload_n 0, 1) := by decide +kernel
theorem dX6_target_22 : decode cX6_target 22 = .ok (.invokevirtual 205, 3) := by decide +kernel
theorem dX6_target_25 : decode cX6_target 25 = .ok (.iastore, 1) := by decide +kernel
theorem dX6_target_26 : decode cX6_target 26 = .ok (.aload_n 0, 1) := by decide +kernel
theorem dX6_target_27 : decode cX6_target 27 = .ok (.getfield 54, 3) := by decide +kernel
theorem dX6_target_30 : decode cX6_target 30 = .ok (.iload_n 2, 1) := by decide +kernel
theorem dX6_target_31 : decode cX6_target 31 = .ok (.iaload, 1) := by decide +kernel
theorem dX6_target_32 : decode cX6_target 32 = .ok (.ireturn, 1) := by decide +kernel
theorem dX6_lowerSet_0 : decode cX6_lowerSet 0 = .ok (.aload_n 0, 1) := by decide +kernel
theorem dX6_lowerSet_1 : decode cX6_lowerSet 1 = .ok (.iload_n 1, 1) := by decide +kernel
theorem dX6_lowerSet_2 : decode cX6_lowerSet 2 = .ok (.iconst 3, 1) := by decide +kernel
theorem dX6_lowerSet_3 : decode cX6_lowerSet 3 = .ok (.invokevirtual 212, 3) := by decide +kernel
theorem dX6_lowerSet_6 : decode cX6_lowerSet 6 = .ok (.iconst 1, 1) := by decide +kernel
theorem dX6_lowerSet_7 : decode cX6_lowerSet 7 = .ok (.if_icmp .ne 7, 3) := by decide +kernel
theorem dX6_lowerSet_10 : decode cX6_lowerSet 10 = .ok (.iconst 1, 1) := by decide +kernel
theorem dX6_lowerSet_11 : decode cX6_lowerSet 11 = .ok (.goto 4, 3) := by decide +kernel
theorem dX6_lowerSet_14 : decode cX6_lowerSet 14 = .ok (.iconst 0, 1) := by decide +kernel
theorem dX6_lowerSet_15 : decode cX6_lowerSet 15 = .ok (.istore_n 2, 1) := by decide +kernel
theorem dX6_lowerSet_16 : decode cX6_lowerSet 16 = .ok (.iload_n 2, 1) := by decide +kernel
theorem dX6_lowerSet_17 : decode cX6_lowerSet 17 = .ok (.ifCond .eq 35, 3) := by decide +kernel
theorem dX6_lowerSet_20 : decode cX6_lowerSet 20 = .ok (.aload_n 0, 1) := by decide +kernel
theorem dX6_lowerSet_21 : decode cX6_lowerSet 21 = .ok (.invokevirtual 228, 3) := by decide +kernel
theorem dX6_lowerSet_24 : decode cX6_lowerSet 24 = .ok (.ifCond .eq 28, 3) := by decide +kernel
theorem dX6_lowerSet_27 : decode cX6_lowerSet 27 = .ok (.aload_n 0, 1) := by decide +kernel
theorem dX6_lowerSet_28 : decode cX6_lowerSet 28 = .ok (.getfield 54, 3) := by decide +kernel
theorem dX6_lowerSet_31 : decode cX6_lowerSet 31 = .ok (.aload_n 0, 1) := by decide +kernel
theorem dX6_lowerSet_32 : decode cX6_lowerSet 32 = .ok (.iload_n 1, 1) := by decide +kernel
theorem dX6_lowerSet_33 : decode cX6_lowerSet 33 = .ok (.iconst 1, 1) := by decide +kernel
theorem dX6_lowerSet_34 : decode cX6_lowerSet 34 = .ok (.invokevirtual 212, 3) := by decide +kernel
theorem dX6_lowerSet_37 : decode cX6_lowerSet 37 = .ok (.aload_n 0, 1) := by decide +kernel
theorem dX6_lowerSet_38 : decode cX6_lowerSet 38 = .ok (.getfield 54, 3) := by decide +kernel
theorem dX6_lowerSet_41 : decode cX6_lowerSet 41 = .ok (.aload_n 0, 1) := by decide +kernel
theorem dX6_lowerSet_42 : decode cX6_lowerSet 42 = .ok (.iload_n 1, 1) := by decide +kernel
theorem dX6_lowerSet_43 : decode cX6_lowerSet 43 = .ok (.iconst 4, 1) := by decide +kernel
theorem dX6_lowerSet_44 : decode cX6_lowerSet 44 = .ok (.invokevirtual 212, 3) := by decide +kernel
theorem dX6_lowerSet_47 : decode cX6_lowerSet 47 = .ok (.iaload, 1) := by decide +kernel
theorem dX6_lowerSet_48 : decode cX6_lowerSet 48 = .ok (.iastore, 1) := by decide +kernel
theorem dX6_lowerSet_49 : decode cX6_lowerSet 49 = .ok (.goto 57, 3) := by decide +kernel
theorem dX6_lowerSet_52 : decode cX6_lowerSet 52 = .ok (.iload_n 2, 1) := by decide +kernel
theorem dX6_lowerSet_53 : decode cX6_lowerSet 53 = .ok (.ifCond .eq 31, 3) := by decide +kernel
theorem dX6_lowerSet_56 : decode cX6_lowerSet 56 = .ok (.aload_n 0, 1) := by decide +kernel
theorem dX6_lowerSet_57 : decode cX6_lowerSet 57 = .ok (.iconst 1, 1) := by decide +kernel
theorem dX6_lowerSet_58 : decode cX6_lowerSet 58 = .ok (.aload_n 0, 1) := by decide +kernel
theorem dX6_lowerSet_59 : decode cX6_lowerSet 59 = .ok (.iload_n 1, 1) := by decide +kernel
theorem dX6_lowerSet_60 : decode cX6_lowerSet 60 = .ok (.iconst 1, 1) := by decide +kernel
theorem dX6_lowerSet_61 : decode cX6_lowerSet 61 = .ok (.invokevirtual 212, 3) := by decide +kernel
theorem dX6_lowerSet_64 : decode cX6_lowerSet 64 = .ok (.aload_n 0, 1) := by decide +kernel
theorem dX6_lowerSet_65 : decode cX6_lowerSet 65 = .ok (.getfield 54, 3) := by decide +kernel
theorem dX6_lowerSet_68 : decode cX6_lowerSet 68 = .ok (.aload_n 0, 1) := by decide +kernel
theorem dX6_lowerSet_69 : decode cX6_lowerSet 69 = .ok (.iload_n 1, 1) := by decide +kernel
theorem dX6_lowerSet_70 : decode cX6_lowerSet 70 = .ok (.iconst 4, 1) := by decide +kernel
theorem dX6_lowerSet_71 : decode cX6_lowerSet 71 = .ok (.invokevirtual 212, 3) := by decide +kernel
theorem dX6_lowerSet_74 : decode cX6_lowerSet 74 = .ok (.iaload, 1) := by decide +kernel
theorem dX6_lowerSet_75 : decode cX6_lowerSet 75 = .ok (.iconst 0, 1) := by decide +kernel
theorem dX6_lowerSet_76 : decode cX6_lowerSet 76 = .ok (.iconst 0, 1) := by decide +kernel
theorem dX6_lowerSet_77 : decode cX6_lowerSet 77 = .ok (.invokevirtual 208, 3) := by decide +kernel
theorem dX6_lowerSet_80 : decode cX6_lowerSet 80 = .ok (.istore_n 3, 1) := by decide +kernel
theorem dX6_lowerSet_81 : decode cX6_lowerSet 81 = .ok (.goto 25, 3) := by decide +kernel
theorem dX6_lowerSet_84 : decode cX6_lowerSet 84 = .ok (.aload_n 0, 1) := by decide +kernel
theorem dX6_lowerSet_85 : decode cX6_lowerSet 85 = .ok (.iload_n 1, 1) := by decide +kernel
theorem dX6_lowerSet_86 : decode cX6_lowerSet 86 = .ok (.invokevirtual 232, 3) := by decide +kernel
theorem dX6_lowerSet_89 : decode cX6_lowerSet 89 = .ok (.istore_n 3, 1) := by decide +kernel
theorem dX6_lowerSet_90 : decode cX6_lowerSet 90 = .ok (.aload_n 0, 1) := by decide +kernel
theorem dX6_lowerSet_91 : decode cX6_lowerSet 91 = .ok (.iconst 0, 1) := by decide +kernel
theorem dX6_lowerSet_92 : decode cX6_lowerSet 92 = .ok (.iload_n 3, 1) := by decide +kernel
theorem dX6_lowerSet_93 : decode cX6_lowerSet 93 = .ok (.aload_n 0, 1) := by decide +kernel
theorem dX6_lowerSet_94 : decode cX6_lowerSet 94 = .ok (.iload_n 1, 1) := by decide +kernel
theorem dX6_lowerSet_95 : decode cX6_lowerSet 95 = .ok (.iconst 4, 1) := by decide +kernel
theorem dX6_lowerSet_96 : decode cX6_lowerSet 96 = .ok (.invokevirtual 212, 3) := by decide +kernel
theorem dX6_lowerSet_99 : decode cX6_lowerSet 99 = .ok (.iconst 0, 1) := by decide +kernel
theorem dX6_lowerSet_100 : decode cX6_lowerSet 100 = .ok (.iconst 0, 1) := by decide +kernel
theorem dX6_lowerSet_101 : decode cX6_lowerSet 101 = .ok (.invokevirtual 208, 3) := by decide +kernel
theorem dX6_lowerSet_104 : decode cX6_lowerSet 104 = .ok (.istore 4, 2) := by decide +kernel
theorem dX6_lowerSet_106 : decode cX6_lowerSet 106 = .ok (.return_, 1) := by decide +kernel
theorem dX6_lowerOne_0 : decode cX6_lowerOne 0 = .ok (.aload_n 0, 1) := by decide +kernel
theorem dX6_lowerOne_1 : decode cX6_lowerOne 1 = .ok (.iload_n 1, 1) := by decide +kernel
theorem dX6_lowerOne_2 : decode cX6_lowerOne 2 = .ok (.putfield 202, 3) := by decide +kernel
theorem dX6_lowerOne_5 : decode cX6_lowerOne 5 = .ok (.aload_n 0, 1) := by decide +kernel
theorem dX6_lowerOne_6 : decode cX6_lowerOne 6 = .ok (.iload_n 1, 1) := by decide +kernel
theorem dX6_lowerOne_7 : decode cX6_lowerOne 7 = .ok (.iconst 0, 1) := by decide +kernel
theorem dX6_lowerOne_8 : decode cX6_lowerOne 8 = .ok (.invokevirtual 212, 3) := by decide +kernel
theorem dX6_lowerOne_11 : decode cX6_lowerOne 11 = .ok (.tableswitch 255 0 4 #[33, 41, 153, 209, 233], 33) := by decide +kernel
theorem dX6_lowerOne_44 : decode cX6_lowerOne 44 = .ok (.aload_n 0, 1) := by decide +kernel
theorem dX6_lowerOne_45 : decode cX6_lowerOne 45 = .ok (.iload_n 1, 1) := by decide +kernel
theorem dX6_lowerOne_46 : decode cX6_lowerOne 46 = .ok (.invokevirtual 235, 3) := by decide +kernel
theorem dX6_lowerOne_49 : decode cX6_lowerOne 49 = .ok (.goto 222, 3) := by decide +kernel
theorem dX6_lowerOne_52 : decode cX6_lowerOne 52 = .ok (.aload_n 0, 1) := by decide +kernel
theorem dX6_lowerOne_53 : decode cX6_lowerOne 53 = .ok (.iload_n 1, 1) := by decide +kernel
theorem dX6_lowerOne_54 : decode cX6_lowerOne 54 = .ok (.iconst 3, 1) := by decide +kernel
theorem dX6_lowerOne_55 : decode cX6_lowerOne 55 = .ok (.invokevirtual 222, 3) := by decide +kernel
theorem dX6_lowerOne_58 : decode cX6_lowerOne 58 = .ok (.istore_n 2, 1) := by decide +kernel
theorem dX6_lowerOne_59 : decode cX6_lowerOne 59 = .ok (.aload_n 0, 1) := by decide +kernel
theorem dX6_lowerOne_60 : decode cX6_lowerOne 60 = .ok (.iload_n 1, 1) := by decide +kernel
theorem dX6_lowerOne_61 : decode cX6_lowerOne 61 = .ok (.iconst 5, 1) := by decide +kernel
theorem dX6_lowerOne_62 : decode cX6_lowerOne 62 = .ok (.invokevirtual 222, 3) := by decide +kernel
theorem dX6_lowerOne_65 : decode cX6_lowerOne 65 = .ok (.istore_n 3, 1) := by decide +kernel
theorem dX6_lowerOne_66 : decode cX6_lowerOne 66 = .ok (.aload_n 0, 1) := by decide +kernel
theorem dX6_lowerOne_67 : decode cX6_lowerOne 67 = .ok (.iload_n 1, 1) := by decide +kernel
theorem dX6_lowerOne_68 : decode cX6_lowerOne 68 = .ok (.iconst 2, 1) := by decide +kernel
theorem dX6_lowerOne_69 : decode cX6_lowerOne 69 = .ok (.invokevirtual 212, 3) := by decide +kernel
theorem dX6_lowerOne_72 : decode cX6_lowerOne 72 = .ok (.iconst 5, 1) := by decide +kernel
theorem dX6_lowerOne_73 : decode cX6_lowerOne 73 = .ok (.if_icmp .eq 14, 3) := by decide +kernel
theorem dX6_lowerOne_76 : decode cX6_lowerOne 76 = .ok (.aload_n 0, 1) := by decide +kernel
theorem dX6_lowerOne_77 : decode cX6_lowerOne 77 = .ok (.iload_n 1, 1) := by decide +kernel
theorem dX6_lowerOne_78 : decode cX6_lowerOne 78 = .ok (.iconst 2, 1) := by decide +kernel
theorem dX6_lowerOne_79 : decode cX6_lowerOne 79 = .ok (.invokevirtual 212, 3) := by decide +kernel
theorem dX6_lowerOne_82 : decode cX6_lowerOne 82 = .ok (.bipush 6, 2) := by decide +kernel
theorem dX6_lowerOne_84 : decode cX6_lowerOne 84 = .ok (.if_icmp .ne 27, 3) := by decide +kernel
theorem dX6_lowerOne_87 : decode cX6_lowerOne 87 = .ok (.aload_n 0, 1) := by decide +kernel
theorem dX6_lowerOne_88 : decode cX6_lowerOne 88 = .ok (.iload_n 1, 1) := by decide +kernel
theorem dX6_lowerOne_89 : decode cX6_lowerOne 89 = .ok (.iconst 5, 1) := by decide +kernel
theorem dX6_lowerOne_90 : decode cX6_lowerOne 90 = .ok (.invokevirtual 212, 3) := by decide +kernel
theorem dX6_lowerOne_93 : decode cX6_lowerOne 93 = .ok (.iconst 1, 1) := by decide +kernel
theorem dX6_lowerOne_94 : decode cX6_lowerOne 94 = .ok (.if_icmp .eq 13, 3) := by decide +kernel
theorem dX6_lowerOne_97 : decode cX6_lowerOne 97 = .ok (.aload_n 0, 1) := by decide +kernel
theorem dX6_lowerOne_98 : decode cX6_lowerOne 98 = .ok (.iload_n 1, 1) := by decide +kernel
theorem dX6_lowerOne_99 : decode cX6_lowerOne 99 = .ok (.bipush 6, 2) := by decide +kernel
theorem dX6_lowerOne_101 : decode cX6_lowerOne 101 = .ok (.invokevirtual 212, 3) := by decide +kernel
theorem dX6_lowerOne_104 : decode cX6_lowerOne 104 = .ok (.ifCond .ne 7, 3) := by decide +kernel
theorem dX6_lowerOne_107 : decode cX6_lowerOne 107 = .ok (.iconst 1, 1) := by decide +kernel
theorem dX6_lowerOne_108 : decode cX6_lowerOne 108 = .ok (.goto 4, 3) := by decide +kernel
theorem dX6_lowerOne_111 : decode cX6_lowerOne 111 = .ok (.iconst 0, 1) := by decide +kernel
theorem dX6_lowerOne_112 : decode cX6_lowerOne 112 = .ok (.istore 5, 2) := by decide +kernel
theorem dX6_lowerOne_114 : decode cX6_lowerOne 114 = .ok (.aload_n 0, 1) := by decide +kernel
theorem dX6_lowerOne_115 : decode cX6_lowerOne 115 = .ok (.invokevirtual 228, 3) := by decide +kernel
theorem dX6_lowerOne_118 : decode cX6_lowerOne 118 = .ok (.ifCond .eq 17, 3) := by decide +kernel
theorem dX6_lowerOne_121 : decode cX6_lowerOne 121 = .ok (.iload 5, 2) := by decide +kernel
theorem dX6_lowerOne_123 : decode cX6_lowerOne 123 = .ok (.ifCond .eq 12, 3) := by decide +kernel
theorem dX6_lowerOne_126 : decode cX6_lowerOne 126 = .ok (.aload_n 0, 1) := by decide +kernel
theorem dX6_lowerOne_127 : decode cX6_lowerOne 127 = .ok (.iload_n 3, 1) := by decide +kernel
theorem dX6_lowerOne_128 : decode cX6_lowerOne 128 = .ok (.iconst 1, 1) := by decide +kernel
theorem dX6_lowerOne_129 : decode cX6_lowerOne 129 = .ok (.invokevirtual 238, 3) := by decide +kernel
theorem dX6_lowerOne_132 : decode cX6_lowerOne 132 = .ok (.goto 4, 3) := by decide +kernel
theorem dX6_lowerOne_135 : decode cX6_lowerOne 135 = .ok (.iload_n 3, 1) := by decide +kernel
theorem dX6_lowerOne_136 : decode cX6_lowerOne 136 = .ok (.istore_n 3, 1) := by decide +kernel
theorem dX6_lowerOne_137 : decode cX6_lowerOne 137 = .ok (.aload_n 0, 1) := by decide +kernel
theorem dX6_lowerOne_138 : decode cX6_lowerOne 138 = .ok (.iload_n 1, 1) := by decide +kernel
theorem dX6_lowerOne_139 : decode cX6_lowerOne 139 = .ok (.invokevirtual 232, 3) := by decide +kernel
theorem dX6_lowerOne_142 : decode cX6_lowerOne 142 = .ok (.istore 6, 2) := by decide +kernel
theorem dX6_lowerOne_144 : decode cX6_lowerOne 144 = .ok (.aload_n 0, 1) := by decide +kernel
theorem dX6_lowerOne_145 : decode cX6_lowerOne 145 = .ok (.aload_n 0, 1) := by decide +kernel
theorem dX6_lowerOne_146 : decode cX6_lowerOne 146 = .ok (.iload_n 1, 1) := by decide +kernel
theorem dX6_lowerOne_147 : decode cX6_lowerOne 147 = .ok (.iconst 2, 1) := by decide +kernel
theorem dX6_lowerOne_148 : decode cX6_lowerOne 148 = .ok (.invokevirtual 212, 3) := by decide +kernel
theorem dX6_lowerOne_151 : decode cX6_lowerOne 151 = .ok (.iload 6, 2) := by decide +kernel
theorem dX6_lowerOne_153 : decode cX6_lowerOne 153 = .ok (.iload_n 2, 1) := by decide +kernel
theorem dX6_lowerOne_154 : decode cX6_lowerOne 154 = .ok (.iload_n 3, 1) := by decide +kernel
theorem dX6_lowerOne_155 : decode cX6_lowerOne 155 = .ok (.iconst 0, 1) := by decide +kernel
theorem dX6_lowerOne_156 : decode cX6_lowerOne 156 = .ok (.invokevirtual 208, 3) := by decide +kernel
theorem dX6_lowerOne_159 : decode cX6_lowerOne 159 = .ok (.istore 4, 2) := by decide +kernel
theorem dX6_lowerOne_161 : decode cX6_lowerOne 161 = .ok (.goto 110, 3) := by decide +kernel
theorem dX6_lowerOne_164 : decode cX6_lowerOne 164 = .ok (.aload_n 0, 1) := by decide +kernel
theorem dX6_lowerOne_165 : decode cX6_lowerOne 165 = .ok (.iload_n 1, 1) := by decide +kernel
theorem dX6_lowerOne_166 : decode cX6_lowerOne 166 = .ok (.iconst 3, 1) := by decide +kernel
theorem dX6_lowerOne_167 : decode cX6_lowerOne 167 = .ok (.invokevirtual 222, 3) := by decide +kernel
theorem dX6_lowerOne_170 : decode cX6_lowerOne 170 = .ok (.istore_n 2, 1) := by decide +kernel
theorem dX6_lowerOne_171 : decode cX6_lowerOne 171 = .ok (.aload_n 0, 1) := by decide +kernel
theorem dX6_lowerOne_172 : decode cX6_lowerOne 172 = .ok (.invokevirtual 228, 3) := by decide +kernel
theorem dX6_lowerOne_175 : decode cX6_lowerOne 175 = .ok (.ifCond .eq 20, 3) := by decide +kernel
theorem dX6_lowerOne_178 : decode cX6_lowerOne 178 = .ok (.aload_n 0, 1) := by decide +kernel
theorem dX6_lowerOne_179 : decode cX6_lowerOne 179 = .ok (.iload_n 1, 1) := by decide +kernel
theorem dX6_lowerOne_180 : decode cX6_lowerOne 180 = .ok (.invokevirtual 241, 3) := by decide +kernel
theorem dX6_lowerOne_183 : decode cX6_lowerOne 183 = .ok (.ifCond .ne 12, 3) := by decide +kernel
theorem dX6_lowerOne_186 : decode cX6_lowerOne 186 = .ok (.aload_n 0, 1) := by decide +kernel
theorem dX6_lowerOne_187 : decode cX6_lowerOne 187 = .ok (.iload_n 2, 1) := by decide +kernel
theorem dX6_lowerOne_188 : decode cX6_lowerOne 188 = .ok (.iconst 0, 1) := by decide +kernel
theorem dX6_lowerOne_189 : decode cX6_lowerOne 189 = .ok (.invokevirtual 238, 3) := by decide +kernel
theorem dX6_lowerOne_192 : decode cX6_lowerOne 192 = .ok (.goto 4, 3) := by decide +kernel
theorem dX6_lowerOne_195 : decode cX6_lowerOne 195 = .ok (.iload_n 2, 1) := by decide +kernel
theorem dX6_lowerOne_196 : decode cX6_lowerOne 196 = .ok (.istore_n 2, 1) := by decide +kernel
theorem dX6_lowerOne_197 : decode cX6_lowerOne 197 = .ok (.aload_n 0, 1) := by decide +kernel
theorem dX6_lowerOne_198 : decode cX6_lowerOne 198 = .ok (.iload_n 1, 1) := by decide +kernel
theorem dX6_lowerOne_199 : decode cX6_lowerOne 199 = .ok (.invokevirtual 232, 3) := by decide +kernel
theorem dX6_lowerOne_202 : decode cX6_lowerOne 202 = .ok (.istore 7, 2) := by decide +kernel
theorem dX6_lowerOne_204 : decode cX6_lowerOne 204 = .ok (.aload_n 0, 1) := by decide +kernel
theorem dX6_lowerOne_205 : decode cX6_lowerOne 205 = .ok (.bipush 14, 2) := by decide +kernel
theorem dX6_lowerOne_207 : decode cX6_lowerOne 207 = .ok (.iload 7, 2) := by decide +kernel
theorem dX6_lowerOne_209 : decode cX6_lowerOne 209 = .ok (.iload_n 2, 1) := by decide +kernel
theorem dX6_lowerOne_210 : decode cX6_lowerOne 210 = .ok (.iconst 0, 1) := by decide +kernel
theorem dX6_lowerOne_211 : decode cX6_lowerOne 211 = .ok (.iconst 0, 1) := by decide +kernel
theorem dX6_lowerOne_212 : decode cX6_lowerOne 212 = .ok (.invokevirtual 208, 3) := by decide +kernel
theorem dX6_lowerOne_215 : decode cX6_lowerOne 215 = .ok (.istore 4, 2) := by decide +kernel
theorem dX6_lowerOne_217 : decode cX6_lowerOne 217 = .ok (.goto 54, 3) := by decide +kernel
theorem dX6_lowerOne_220 : decode cX6_lowerOne 220 = .ok (.aload_n 0, 1) := by decide +kernel
theorem dX6_lowerOne_221 : decode cX6_lowerOne 221 = .ok (.iload_n 1, 1) := by decide +kernel
theorem dX6_lowerOne_222 : decode cX6_lowerOne 222 = .ok (.iconst 3, 1) := by decide +kernel
theorem dX6_lowerOne_223 : decode cX6_lowerOne 223 = .ok (.invokevirtual 222, 3) := by decide +kernel
theorem dX6_lowerOne_226 : decode cX6_lowerOne 226 = .ok (.istore_n 2, 1) := by decide +kernel
theorem dX6_lowerOne_227 : decode cX6_lowerOne 227 = .ok (.aload_n 0, 1) := by decide +kernel
theorem dX6_lowerOne_228 : decode cX6_lowerOne 228 = .ok (.iload_n 1, 1) := by decide +kernel
theorem dX6_lowerOne_229 : decode cX6_lowerOne 229 = .ok (.iconst 5, 1) := by decide +kernel
theorem dX6_lowerOne_230 : decode cX6_lowerOne 230 = .ok (.invokevirtual 222, 3) := by decide +kernel
theorem dX6_lowerOne_233 : decode cX6_lowerOne 233 = .ok (.istore_n 3, 1) := by decide +kernel
theorem dX6_lowerOne_234 : decode cX6_lowerOne 234 = .ok (.aload_n 0, 1) := by decide +kernel
theorem dX6_lowerOne_235 : decode cX6_lowerOne 235 = .ok (.iload_n 1, 1) := by decide +kernel
theorem dX6_lowerOne_236 : decode cX6_lowerOne 236 = .ok (.iload_n 2, 1) := by decide +kernel
theorem dX6_lowerOne_237 : decode cX6_lowerOne 237 = .ok (.iload_n 3, 1) := by decide +kernel
theorem dX6_lowerOne_238 : decode cX6_lowerOne 238 = .ok (.invokevirtual 244, 3) := by decide +kernel
theorem dX6_lowerOne_241 : decode cX6_lowerOne 241 = .ok (.goto 30, 3) := by decide +kernel
theorem dX6_lowerOne_244 : decode cX6_lowerOne 244 = .ok (.aload_n 0, 1) := by decide +kernel
theorem dX6_lowerOne_245 : decode cX6_lowerOne 245 = .ok (.iload_n 1, 1) := by decide +kernel
theorem dX6_lowerOne_246 : decode cX6_lowerOne 246 = .ok (.iconst 3, 1) := by decide +kernel
theorem dX6_lowerOne_247 : decode cX6_lowerOne 247 = .ok (.invokevirtual 222, 3) := by decide +kernel
theorem dX6_lowerOne_250 : decode cX6_lowerOne 250 = .ok (.istore_n 2, 1) := by decide +kernel
theorem dX6_lowerOne_251 : decode cX6_lowerOne 251 = .ok (.aload_n 0, 1) := by decide +kernel
theorem dX6_lowerOne_252 : decode cX6_lowerOne 252 = .ok (.bipush 18, 2) := by decide +kernel
theorem dX6_lowerOne_254 : decode cX6_lowerOne 254 = .ok (.iload_n 2, 1) := by decide +kernel
theorem dX6_lowerOne_255 : decode cX6_lowerOne 255 = .ok (.iconst 0, 1) := by decide +kernel
theorem dX6_lowerOne_256 : decode cX6_lowerOne 256 = .ok (.iconst 0, 1) := by decide +kernel
theorem dX6_lowerOne_257 : decode cX6_lowerOne 257 = .ok (.iconst 0, 1) := by decide +kernel
theorem dX6_lowerOne_258 : decode cX6_lowerOne 258 = .ok (.invokevirtual 208, 3) := by decide +kernel
theorem dX6_lowerOne_261 : decode cX6_lowerOne 261 = .ok (.istore 4, 2) := by decide +kernel
theorem dX6_lowerOne_263 : decode cX6_lowerOne 263 = .ok (.goto 8, 3) := by decide +kernel
theorem dX6_lowerOne_266 : decode cX6_lowerOne 266 = .ok (.aload_n 0, 1) := by decide +kernel
theorem dX6_lowerOne_267 : decode cX6_lowerOne 267 = .ok (.iload_n 1, 1) := by decide +kernel
theorem dX6_lowerOne_268 : decode cX6_lowerOne 268 = .ok (.invokevirtual 248, 3) := by decide +kernel
theorem dX6_lowerOne_271 : decode cX6_lowerOne 271 = .ok (.return_, 1) := by decide +kernel
theorem dX6_lowerStore_0 : decode cX6_lowerStore 0 = .ok (.iload_n 2, 1) := by decide +kernel
theorem dX6_lowerStore_1 : decode cX6_lowerStore 1 = .ok (.istore 4, 2) := by decide +kernel
theorem dX6_lowerStore_3 : decode cX6_lowerStore 3 = .ok (.iload_n 3, 1) := by decide +kernel
theorem dX6_lowerStore_4 : decode cX6_lowerStore 4 = .ok (.istore 5, 2) := by decide +kernel
theorem dX6_lowerStore_6 : decode cX6_lowerStore 6 = .ok (.aload_n 0, 1) := by decide +kernel
theorem dX6_lowerStore_7 : decode cX6_lowerStore 7 = .ok (.invokevirtual 228, 3) := by decide +kernel
theorem dX6_lowerStore_10 : decode cX6_lowerStore 10 = .ok (.ifCond .eq 80, 3) := by decide +kernel
theorem dX6_lowerStore_13 : decode cX6_lowerStore 13 = .ok (.aload_n 0, 1) := by decide +kernel
theorem dX6_lowerStore_14 : decode cX6_lowerStore 14 = .ok (.iload_n 1, 1) := by decide +kernel
theorem dX6_lowerStore_15 : decode cX6_lowerStore 15 = .ok (.invokevirtual 241, 3) := by decide +kernel
theorem dX6_lowerStore_18 : decode cX6_lowerStore 18 = .ok (.ifCond .eq 8, 3) := by decide +kernel
theorem dX6_lowerStore_21 : decode cX6_lowerStore 21 = .ok (.iload 4, 2) := by decide +kernel
theorem dX6_lowerStore_23 : decode cX6_lowerStore 23 = .ok (.goto 10, 3) := by decide +kernel
theorem dX6_lowerStore_26 : decode cX6_lowerStore 26 = .ok (.aload_n 0, 1) := by decide +kernel
theorem dX6_lowerStore_27 : decode cX6_lowerStore 27 = .ok (.iload 4, 2) := by decide +kernel
theorem dX6_lowerStore_29 : decode cX6_lowerStore 29 = .ok (.iconst 0, 1) := by decide +kernel
theorem dX6_lowerStore_30 : decode cX6_lowerStore 30 = .ok (.invokevirtual 238, 3) := by decide +kernel
theorem dX6_lowerStore_33 : decode cX6_lowerStore 33 = .ok (.istore 4, 2) := by decide +kernel
theorem dX6_lowerStore_35 : decode cX6_lowerStore 35 = .ok (.aload_n 0, 1) := by decide +kernel
theorem dX6_lowerStore_36 : decode cX6_lowerStore 36 = .ok (.invokevirtual 205, 3) := by decide +kernel
theorem dX6_lowerStore_39 : decode cX6_lowerStore 39 = .ok (.istore 7, 2) := by decide +kernel
theorem dX6_lowerStore_41 : decode cX6_lowerStore 41 = .ok (.aload_n 0, 1) := by decide +kernel
theorem dX6_lowerStore_42 : decode cX6_lowerStore 42 = .ok (.bipush 14, 2) := by decide +kernel
theorem dX6_lowerStore_44 : decode cX6_lowerStore 44 = .ok (.iload 7, 2) := by decide +kernel
theorem dX6_lowerStore_46 : decode cX6_lowerStore 46 = .ok (.iload 4, 2) := by decide +kernel
theorem dX6_lowerStore_48 : decode cX6_lowerStore 48 = .ok (.iconst 0, 1) := by decide +kernel
theorem dX6_lowerStore_49 : decode cX6_lowerStore 49 = .ok (.iconst 0, 1) := by decide +kernel
theorem dX6_lowerStore_50 : decode cX6_lowerStore 50 = .ok (.invokevirtual 208, 3) := by decide +kernel
theorem dX6_lowerStore_53 : decode cX6_lowerStore 53 = .ok (.istore 6, 2) := by decide +kernel
theorem dX6_lowerStore_55 : decode cX6_lowerStore 55 = .ok (.aload_n 0, 1) := by decide +kernel
theorem dX6_lowerStore_56 : decode cX6_lowerStore 56 = .ok (.invokevirtual 205, 3) := by decide +kernel
theorem dX6_lowerStore_59 : decode cX6_lowerStore 59 = .ok (.istore 8, 2) := by decide +kernel
theorem dX6_lowerStore_61 : decode cX6_lowerStore 61 = .ok (.aload_n 0, 1) := by decide +kernel
theorem dX6_lowerStore_62 : decode cX6_lowerStore 62 = .ok (.bipush 13, 2) := by decide +kernel
theorem dX6_lowerStore_64 : decode cX6_lowerStore 64 = .ok (.iload 8, 2) := by decide +kernel
theorem dX6_lowerStore_66 : decode cX6_lowerStore 66 = .ok (.aload_n 0, 1) := by decide +kernel
theorem dX6_lowerStore_67 : decode cX6_lowerStore 67 = .ok (.getfield 69, 3) := by decide +kernel
theorem dX6_lowerStore_70 : decode cX6_lowerStore 70 = .ok (.aload_n 0, 1) := by decide +kernel
theorem dX6_lowerStore_71 : decode cX6_lowerStore 71 = .ok (.getfield 219, 3) := by decide +kernel
theorem dX6_lowerStore_74 : decode cX6_lowerStore 74 = .ok (.iconst 1, 1) := by decide +kernel
theorem dX6_lowerStore_75 : decode cX6_lowerStore 75 = .ok (.isub, 1) := by decide +kernel
theorem dX6_lowerStore_76 : decode cX6_lowerStore 76 = .ok (.iaload, 1) := by decide +kernel
theorem dX6_lowerStore_77 : decode cX6_lowerStore 77 = .ok (.iload 5, 2) := by decide +kernel
theorem dX6_lowerStore_79 : decode cX6_lowerStore 79 = .ok (.iload 7, 2) := by decide +kernel
theorem dX6_lowerStore_81 : decode cX6_lowerStore 81 = .ok (.invokevirtual 208, 3) := by decide +kernel
theorem dX6_lowerStore_84 : decode cX6_lowerStore 84 = .ok (.istore 6, 2) := by decide +kernel
theorem dX6_lowerStore_86 : decode cX6_lowerStore 86 = .ok (.iload 8, 2) := by decide +kernel
theorem dX6_lowerStore_88 : decode cX6_lowerStore 88 = .ok (.istore 5, 2) := by decide +kernel
theorem dX6_lowerStore_90 : decode cX6_lowerStore 90 = .ok (.aload_n 0, 1) := by decide +kernel
theorem dX6_lowerStore_91 : decode cX6_lowerStore 91 = .ok (.bipush 15, 2) := by decide +kernel
theorem dX6_lowerStore_93 : decode cX6_lowerStore 93 = .ok (.iload 4, 2) := by decide +kernel
theorem dX6_lowerStore_95 : decode cX6_lowerStore 95 = .ok (.iload 5, 2) := by decide +kernel
theorem dX6_lowerStore_97 : decode cX6_lowerStore 97 = .ok (.iconst 0, 1) := by decide +kernel
theorem dX6_lowerStore_98 : decode cX6_lowerStore 98 = .ok (.iconst 0, 1) := by decide +kernel
theorem dX6_lowerStore_99 : decode cX6_lowerStore 99 = .ok (.invokevirtual 208, 3) := by decide +kernel
theorem dX6_lowerStore_102 : decode cX6_lowerStore 102 = .ok (.istore 6, 2) := by decide +kernel
theorem dX6_lowerStore_104 : decode cX6_lowerStore 104 = .ok (.return_, 1) := by decide +kernel
theorem dX6_lowerAll_0 : decode cX6_lowerAll 0 = .ok (.aload_n 0, 1) := by decide +kernel
theorem dX6_lowerAll_1 : decode cX6_lowerAll 1 = .ok (.iconst 0, 1) := by decide +kernel
theorem dX6_lowerAll_2 : decode cX6_lowerAll 2 = .ok (.putfield 199, 3) := by decide +kernel
theorem dX6_lowerAll_5 : decode cX6_lowerAll 5 = .ok (.aload_n 0, 1) := by decide +kernel
theorem dX6_lowerAll_6 : decode cX6_lowerAll 6 = .ok (.bipush 16, 2) := by decide +kernel
theorem dX6_lowerAll_8 : decode cX6_lowerAll 8 = .ok (.putfield 47, 3) := by decide +kernel
theorem dX6_lowerAll_11 : decode cX6_lowerAll 11 = .ok (.aload_n 0, 1) := by decide +kernel
theorem dX6_lowerAll_12 : decode cX6_lowerAll 12 = .ok (.iconst 0, 1) := by decide +kernel
theorem dX6_lowerAll_13 : decode cX6_lowerAll 13 = .ok (.putfield 219, 3) := by decide +kernel
theorem dX6_lowerAll_16 : decode cX6_lowerAll 16 = .ok (.iconst 0, 1) := by decide +kernel
theorem dX6_lowerAll_17 : decode cX6_lowerAll 17 = .ok (.istore_n 3, 1) := by decide +kernel
theorem dX6_lowerAll_18 : decode cX6_lowerAll 18 = .ok (.iload_n 3, 1) := by decide +kernel
theorem dX6_lowerAll_19 : decode cX6_lowerAll 19 = .ok (.bipush 16, 2) := by decide +kernel
theorem dX6_lowerAll_21 : decode cX6_lowerAll 21 = .ok (.if_icmp .ge 16, 3) := by decide +kernel
theorem dX6_lowerAll_24 : decode cX6_lowerAll 24 = .ok (.aload_n 0, 1) := by decide +kernel
theorem dX6_lowerAll_25 : decode cX6_lowerAll 25 = .ok (.getfield 54, 3) := by decide +kernel
theorem dX6_lowerAll_28 : decode cX6_lowerAll 28 = .ok (.iload_n 3, 1) := by decide +kernel
theorem dX6_lowerAll_29 : decode cX6_lowerAll 29 = .ok (.iload_n 3, 1) := by decide +kernel
theorem dX6_lowerAll_30 : decode cX6_lowerAll 30 = .ok (.iastore, 1) := by decide +kernel
theorem dX6_lowerAll_31 : decode cX6_lowerAll 31 = .ok (.iinc 3 1, 3) := by decide +kernel
theorem dX6_lowerAll_34 : decode cX6_lowerAll 34 = .ok (.goto (-16), 3) := by decide +kernel
theorem dX6_lowerAll_37 : decode cX6_lowerAll 37 = .ok (.iload_n 1, 1) := by decide +kernel
theorem dX6_lowerAll_38 : decode cX6_lowerAll 38 = .ok (.istore_n 3, 1) := by decide +kernel
theorem dX6_lowerAll_39 : decode cX6_lowerAll 39 = .ok (.iconst 1, 1) := by decide +kernel
theorem dX6_lowerAll_40 : decode cX6_lowerAll 40 = .ok (.istore 4, 2) := by decide +kernel
theorem dX6_lowerAll_42 : decode cX6_lowerAll 42 = .ok (.iload 4, 2) := by decide +kernel
theorem dX6_lowerAll_44 : decode cX6_lowerAll 44 = .ok (.ifCond .eq 139, 3) := by decide +kernel
theorem dX6_lowerAll_47 : decode cX6_lowerAll 47 = .ok (.iconst 1, 1) := by decide +kernel
theorem dX6_lowerAll_48 : decode cX6_lowerAll 48 = .ok (.istore 5, 2) := by decide +kernel
theorem dX6_lowerAll_50 : decode cX6_lowerAll 50 = .ok (.iload 5, 2) := by decide +kernel
theorem dX6_lowerAll_52 : decode cX6_lowerAll 52 = .ok (.ifCond .eq 103, 3) := by decide +kernel
theorem dX6_lowerAll_55 : decode cX6_lowerAll 55 = .ok (.aload_n 0, 1) := by decide +kernel
theorem dX6_lowerAll_56 : decode cX6_lowerAll 56 = .ok (.getfield 219, 3) := by decide +kernel
theorem dX6_lowerAll_59 : decode cX6_lowerAll 59 = .ok (.ifCond .le 96, 3) := by decide +kernel
theorem dX6_lowerAll_62 : decode cX6_lowerAll 62 = .ok (.aload_n 0, 1) := by decide +kernel
theorem dX6_lowerAll_63 : decode cX6_lowerAll 63 = .ok (.getfield 219, 3) := by decide +kernel
theorem dX6_lowerAll_66 : decode cX6_lowerAll 66 = .ok (.iconst 1, 1) := by decide +kernel
theorem dX6_lowerAll_67 : decode cX6_lowerAll 67 = .ok (.isub, 1) := by decide +kernel
theorem dX6_lowerAll_68 : decode cX6_lowerAll 68 = .ok (.istore 6, 2) := by decide +kernel
theorem dX6_lowerAll_70 : decode cX6_lowerAll 70 = .ok (.aload_n 0, 1) := by decide +kernel
theorem dX6_lowerAll_71 : decode cX6_lowerAll 71 = .ok (.getfield 57, 3) := by decide +kernel
theorem dX6_lowerAll_74 : decode cX6_lowerAll 74 = .ok (.iload 6, 2) := by decide +kernel
theorem dX6_lowerAll_76 : decode cX6_lowerAll 76 = .ok (.iaload, 1) := by decide +kernel
theorem dX6_lowerAll_77 : decode cX6_lowerAll 77 = .ok (.istore 7, 2) := by decide +kernel
theorem dX6_lowerAll_79 : decode cX6_lowerAll 79 = .ok (.iload_n 3, 1) := by decide +kernel
theorem dX6_lowerAll_80 : decode cX6_lowerAll 80 = .ok (.aload_n 0, 1) := by decide +kernel
theorem dX6_lowerAll_81 : decode cX6_lowerAll 81 = .ok (.getfield 60, 3) := by decide +kernel
theorem dX6_lowerAll_84 : decode cX6_lowerAll 84 = .ok (.iload 6, 2) := by decide +kernel
theorem dX6_lowerAll_86 : decode cX6_lowerAll 86 = .ok (.baload, 1) := by decide +kernel
theorem dX6_lowerAll_87 : decode cX6_lowerAll 87 = .ok (.ifCond .eq 13, 3) := by decide +kernel
theorem dX6_lowerAll_90 : decode cX6_lowerAll 90 = .ok (.aload_n 0, 1) := by decide +kernel
theorem dX6_lowerAll_91 : decode cX6_lowerAll 91 = .ok (.getfield 34, 3) := by decide +kernel
theorem dX6_lowerAll_94 : decode cX6_lowerAll 94 = .ok (.iload 7, 2) := by decide +kernel
theorem dX6_lowerAll_96 : decode cX6_lowerAll 96 = .ok (.iaload, 1) := by decide +kernel
theorem dX6_lowerAll_97 : decode cX6_lowerAll 97 = .ok (.goto 10, 3) := by decide +kernel
theorem dX6_lowerAll_100 : decode cX6_lowerAll 100 = .ok (.aload_n 0, 1) := by decide +kernel
theorem dX6_lowerAll_101 : decode cX6_lowerAll 101 = .ok (.getfield 31, 3) := by decide +kernel
theorem dX6_lowerAll_104 : decode cX6_lowerAll 104 = .ok (.iload 7, 2) := by decide +kernel
theorem dX6_lowerAll_106 : decode cX6_lowerAll 106 = .ok (.iaload, 1) := by decide +kernel
theorem dX6_lowerAll_107 : decode cX6_lowerAll 107 = .ok (.if_icmp .ne 7, 3) := by decide +kernel
theorem dX6_lowerAll_110 : decode cX6_lowerAll 110 = .ok (.iconst 1, 1) := by decide +kernel
theorem dX6_lowerAll_111 : decode cX6_lowerAll 111 = .ok (.goto 4, 3) := by decide +kernel
theorem dX6_lowerAll_114 : decode cX6_lowerAll 114 = .ok (.iconst 0, 1) := by decide +kernel
theorem dX6_lowerAll_115 : decode cX6_lowerAll 115 = .ok (.istore 5, 2) := by decide +kernel
theorem dX6_lowerAll_117 : decode cX6_lowerAll 117 = .ok (.iload 5, 2) := by decide +kernel
theorem dX6_lowerAll_119 : decode cX6_lowerAll 119 = .ok (.ifCond .eq 22, 3) := by decide +kernel
theorem dX6_lowerAll_122 : decode cX6_lowerAll 122 = .ok (.aload_n 0, 1) := by decide +kernel
theorem dX6_lowerAll_123 : decode cX6_lowerAll 123 = .ok (.getfield 60, 3) := by decide +kernel
theorem dX6_lowerAll_126 : decode cX6_lowerAll 126 = .ok (.iload 6, 2) := by decide +kernel
theorem dX6_lowerAll_128 : decode cX6_lowerAll 128 = .ok (.baload, 1) := by decide +kernel
theorem dX6_lowerAll_129 : decode cX6_lowerAll 129 = .ok (.ifCond .eq 12, 3) := by decide +kernel
theorem dX6_lowerAll_132 : decode cX6_lowerAll 132 = .ok (.aload_n 0, 1) := by decide +kernel
theorem dX6_lowerAll_133 : decode cX6_lowerAll 133 = .ok (.iload 6, 2) := by decide +kernel
theorem dX6_lowerAll_135 : decode cX6_lowerAll 135 = .ok (.invokevirtual 251, 3) := by decide +kernel
theorem dX6_lowerAll_138 : decode cX6_lowerAll 138 = .ok (.goto 14, 3) := by decide +kernel
theorem dX6_lowerAll_141 : decode cX6_lowerAll 141 = .ok (.iload 5, 2) := by decide +kernel
theorem dX6_lowerAll_143 : decode cX6_lowerAll 143 = .ok (.ifCond .eq 9, 3) := by decide +kernel
theorem dX6_lowerAll_146 : decode cX6_lowerAll 146 = .ok (.aload_n 0, 1) := by decide +kernel
theorem dX6_lowerAll_147 : decode cX6_lowerAll 147 = .ok (.iload 6, 2) := by decide +kernel
theorem dX6_lowerAll_149 : decode cX6_lowerAll 149 = .ok (.invokevirtual 254, 3) := by decide +kernel
theorem dX6_lowerAll_152 : decode cX6_lowerAll 152 = .ok (.goto (-102), 3) := by decide +kernel
theorem dX6_lowerAll_155 : decode cX6_lowerAll 155 = .ok (.iload_n 3, 1) := by decide +kernel
theorem dX6_lowerAll_156 : decode cX6_lowerAll 156 = .ok (.iload_n 2, 1) := by decide +kernel
theorem dX6_lowerAll_157 : decode cX6_lowerAll 157 = .ok (.if_icmp .ge 7, 3) := by decide +kernel
theorem dX6_lowerAll_160 : decode cX6_lowerAll 160 = .ok (.iconst 1, 1) := by decide +kernel
theorem dX6_lowerAll_161 : decode cX6_lowerAll 161 = .ok (.goto 4, 3) := by decide +kernel
theorem dX6_lowerAll_164 : decode cX6_lowerAll 164 = .ok (.iconst 0, 1) := by decide +kernel
theorem dX6_lowerAll_165 : decode cX6_lowerAll 165 = .ok (.istore 4, 2) := by decide +kernel
theorem dX6_lowerAll_167 : decode cX6_lowerAll 167 = .ok (.iload 4, 2) := by decide +kernel
theorem dX6_lowerAll_169 : decode cX6_lowerAll 169 = .ok (.ifCond .eq 11, 3) := by decide +kernel
theorem dX6_lowerAll_172 : decode cX6_lowerAll 172 = .ok (.aload_n 0, 1) := by decide +kernel
theorem dX6_lowerAll_173 : decode cX6_lowerAll 173 = .ok (.iload_n 3, 1) := by decide +kernel
theorem dX6_lowerAll_174 : decode cX6_lowerAll 174 = .ok (.invokevirtual 257, 3) := by decide +kernel
theorem dX6_lowerAll_177 : decode cX6_lowerAll 177 = .ok (.iinc 3 1, 3) := by decide +kernel
theorem dX6_lowerAll_180 : decode cX6_lowerAll 180 = .ok (.goto (-138), 3) := by decide +kernel
theorem dX6_lowerAll_183 : decode cX6_lowerAll 183 = .ok (.return_, 1) := by decide +kernel
theorem dX6_mayConvert_0 : decode cX6_mayConvert 0 = .ok (.iconst 1, 1) := by decide +kernel
theorem dX6_mayConvert_1 : decode cX6_mayConvert 1 = .ok (.istore_n 3, 1) := by decide +kernel
theorem dX6_mayConvert_2 : decode cX6_mayConvert 2 = .ok (.iload_n 1, 1) := by decide +kernel
theorem dX6_mayConvert_3 : decode cX6_mayConvert 3 = .ok (.iconst 1, 1) := by decide +kernel
theorem dX6_mayConvert_4 : decode cX6_mayConvert 4 = .ok (.iadd, 1) := by decide +kernel
theorem dX6_mayConvert_5 : decode cX6_mayConvert 5 = .ok (.istore 4, 2) := by decide +kernel
theorem dX6_mayConvert_7 : decode cX6_mayConvert 7 = .ok (.iload 4, 2) := by decide +kernel
theorem dX6_mayConvert_9 : decode cX6_mayConvert 9 = .ok (.aload_n 0, 1) := by decide +kernel
theorem dX6_mayConvert_10 : decode cX6_mayConvert 10 = .ok (.getfield 34, 3) := by decide +kernel
theorem dX6_mayConvert_13 : decode cX6_mayConvert 13 = .ok (.iload_n 1, 1) := by decide +kernel
theorem dX6_mayConvert_14 : decode cX6_mayConvert 14 = .ok (.iaload, 1) := by decide +kernel
theorem dX6_mayConvert_15 : decode cX6_mayConvert 15 = .ok (.if_icmp .ge 51, 3) := by decide +kernel
theorem dX6_mayConvert_18 : decode cX6_mayConvert 18 = .ok (.iload_n 3, 1) := by decide +kernel
theorem dX6_mayConvert_19 : decode cX6_mayConvert 19 = .ok (.ifCond .eq 39, 3) := by decide +kernel
theorem dX6_mayConvert_22 : decode cX6_mayConvert 22 = .ok (.aload_n 0, 1) := by decide +kernel
theorem dX6_mayConvert_23 : decode cX6_mayConvert 23 = .ok (.iload 4, 2) := by decide +kernel
theorem dX6_mayConvert_25 : decode cX6_mayConvert 25 = .ok (.iconst 0, 1) := by decide +kernel
theorem dX6_mayConvert_26 : decode cX6_mayConvert 26 = .ok (.invokevirtual 212, 3) := by decide +kernel
theorem dX6_mayConvert_29 : decode cX6_mayConvert 29 = .ok (.iconst 4, 1) := by decide +kernel
theorem dX6_mayConvert_30 : decode cX6_mayConvert 30 = .ok (.if_icmp .eq 28, 3) := by decide +kernel
theorem dX6_mayConvert_33 : decode cX6_mayConvert 33 = .ok (.aload_n 0, 1) := by decide +kernel
theorem dX6_mayConvert_34 : decode cX6_mayConvert 34 = .ok (.iload 4, 2) := by decide +kernel
theorem dX6_mayConvert_36 : decode cX6_mayConvert 36 = .ok (.iconst 0, 1) := by decide +kernel
theorem dX6_mayConvert_37 : decode cX6_mayConvert 37 = .ok (.invokevirtual 212, 3) := by decide +kernel
theorem dX6_mayConvert_40 : decode cX6_mayConvert 40 = .ok (.iconst 5, 1) := by decide +kernel
theorem dX6_mayConvert_41 : decode cX6_mayConvert 41 = .ok (.if_icmp .ne 13, 3) := by decide +kernel
theorem dX6_mayConvert_44 : decode cX6_mayConvert 44 = .ok (.aload_n 0, 1) := by decide +kernel
theorem dX6_mayConvert_45 : decode cX6_mayConvert 45 = .ok (.getfield 51, 3) := by decide +kernel
theorem dX6_mayConvert_48 : decode cX6_mayConvert 48 = .ok (.iload 4, 2) := by decide +kernel
theorem dX6_mayConvert_50 : decode cX6_mayConvert 50 = .ok (.baload, 1) := by decide +kernel
theorem dX6_mayConvert_51 : decode cX6_mayConvert 51 = .ok (.ifCond .eq 7, 3) := by decide +kernel
theorem dX6_mayConvert_54 : decode cX6_mayConvert 54 = .ok (.iconst 1, 1) := by decide +kernel
theorem dX6_mayConvert_55 : decode cX6_mayConvert 55 = .ok (.goto 4, 3) := by decide +kernel
theorem dX6_mayConvert_58 : decode cX6_mayConvert 58 = .ok (.iconst 0, 1) := by decide +kernel
theorem dX6_mayConvert_59 : decode cX6_mayConvert 59 = .ok (.istore_n 3, 1) := by decide +kernel
theorem dX6_mayConvert_60 : decode cX6_mayConvert 60 = .ok (.iinc 4 1, 3) := by decide +kernel
theorem dX6_mayConvert_63 : decode cX6_mayConvert 63 = .ok (.goto (-56), 3) := by decide +kernel
theorem dX6_mayConvert_66 : decode cX6_mayConvert 66 = .ok (.iload_n 3, 1) := by decide +kernel
theorem dX6_mayConvert_67 : decode cX6_mayConvert 67 = .ok (.ifCond .ne 5, 3) := by decide +kernel
theorem dX6_mayConvert_70 : decode cX6_mayConvert 70 = .ok (.iconst 0, 1) := by decide +kernel
theorem dX6_mayConvert_71 : decode cX6_mayConvert 71 = .ok (.ireturn, 1) := by decide +kernel
theorem dX6_mayConvert_72 : decode cX6_mayConvert 72 = .ok (.aload_n 0, 1) := by decide +kernel
theorem dX6_mayConvert_73 : decode cX6_mayConvert 73 = .ok (.getfield 51, 3) := by decide +kernel
theorem dX6_mayConvert_76 : decode cX6_mayConvert 76 = .ok (.iload_n 1, 1) := by decide +kernel
theorem dX6_mayConvert_77 : decode cX6_mayConvert 77 = .ok (.iconst 1, 1) := by decide +kernel
theorem dX6_mayConvert_78 : decode cX6_mayConvert 78 = .ok (.bastore, 1) := by decide +kernel
theorem dX6_mayConvert_79 : decode cX6_mayConvert 79 = .ok (.aload_n 0, 1) := by decide +kernel
theorem dX6_mayConvert_80 : decode cX6_mayConvert 80 = .ok (.iload_n 1, 1) := by decide +kernel
theorem dX6_mayConvert_81 : decode cX6_mayConvert 81 = .ok (.aload_n 0, 1) := by decide +kernel
theorem dX6_mayConvert_82 : decode cX6_mayConvert 82 = .ok (.getfield 34, 3) := by decide +kernel
theorem dX6_mayConvert_85 : decode cX6_mayConvert 85 = .ok (.iload_n 1, 1) := by decide +kernel
theorem dX6_mayConvert_86 : decode cX6_mayConvert 86 = .ok (.iaload, 1) := by decide +kernel
theorem dX6_mayConvert_87 : decode cX6_mayConvert 87 = .ok (.invokevirtual 260, 3) := by decide +kernel
theorem dX6_mayConvert_90 : decode cX6_mayConvert 90 = .ok (.aload_n 0, 1) := by decide +kernel
theorem dX6_mayConvert_91 : decode cX6_mayConvert 91 = .ok (.getfield 199, 3) := by decide +kernel
theorem dX6_mayConvert_94 : decode cX6_mayConvert 94 = .ok (.iload_n 2, 1) := by decide +kernel
theorem dX6_mayConvert_95 : decode cX6_mayConvert 95 = .ok (.if_icmp .gt 7, 3) := by decide +kernel
theorem dX6_mayConvert_98 : decode cX6_mayConvert 98 = .ok (.iconst 1, 1) := by decide +kernel
theorem dX6_mayConvert_99 : decode cX6_mayConvert 99 = .ok (.goto 4, 3) := by decide +kernel
theorem dX6_mayConvert_102 : decode cX6_mayConvert 102 = .ok (.iconst 0, 1) := by decide +kernel
theorem dX6_mayConvert_103 : decode cX6_mayConvert 103 = .ok (.ireturn, 1) := by decide +kernel
theorem dX6_lower_0 : decode cX6_lower 0 = .ok (.aload_n 0, 1) := by decide +kernel
theorem dX6_lower_1 : decode cX6_lower 1 = .ok (.iload_n 1, 1) := by decide +kernel
theorem dX6_lower_2 : decode cX6_lower 2 = .ok (.i2l, 1) := by decide +kernel
theorem dX6_lower_3 : decode cX6_lower 3 = .ok (.lconst 0, 1) := by decide +kernel
theorem dX6_lower_4 : decode cX6_lower 4 = .ok (.ldc2_w 263, 3) := by decide +kernel
theorem dX6_lower_7 : decode cX6_lower 7 = .ok (.invokestatic 107, 3) := by decide +kernel
theorem dX6_lower_10 : decode cX6_lower 10 = .ok (.iconst 1, 1) := by decide +kernel
theorem dX6_lower_11 : decode cX6_lower 11 = .ok (.invokevirtual 111, 3) := by decide +kernel
theorem dX6_lower_14 : decode cX6_lower 14 = .ok (.ifCond .ne 5, 3) := by decide +kernel
theorem dX6_lower_17 : decode cX6_lower 17 = .ok (.iconst 0, 1) := by decide +kernel
theorem dX6_lower_18 : decode cX6_lower 18 = .ok (.ireturn, 1) := by decide +kernel
theorem dX6_lower_19 : decode cX6_lower 19 = .ok (.aload_n 0, 1) := by decide +kernel
theorem dX6_lower_20 : decode cX6_lower 20 = .ok (.getfield 192, 3) := by decide +kernel
theorem dX6_lower_23 : decode cX6_lower 23 = .ok (.iconst 1, 1) := by decide +kernel
theorem dX6_lower_24 : decode cX6_lower 24 = .ok (.isub, 1) := by decide +kernel
theorem dX6_lower_25 : decode cX6_lower 25 = .ok (.istore_n 2, 1) := by decide +kernel
theorem dX6_lower_26 : decode cX6_lower 26 = .ok (.iload_n 2, 1) := by decide +kernel
theorem dX6_lower_27 : decode cX6_lower 27 = .ok (.ifCond .lt 39, 3) := by decide +kernel
theorem dX6_lower_30 : decode cX6_lower 30 = .ok (.aload_n 0, 1) := by decide +kernel
theorem dX6_lower_31 : decode cX6_lower 31 = .ok (.getfield 51, 3) := by decide +kernel
theorem dX6_lower_34 : decode cX6_lower 34 = .ok (.iload_n 2, 1) := by decide +kernel
theorem dX6_lower_35 : decode cX6_lower 35 = .ok (.aload_n 0, 1) := by decide +kernel
theorem dX6_lower_36 : decode cX6_lower 36 = .ok (.iload_n 2, 1) := by decide +kernel
theorem dX6_lower_37 : decode cX6_lower 37 = .ok (.iconst 0, 1) := by decide +kernel
theorem dX6_lower_38 : decode cX6_lower 38 = .ok (.invokevirtual 212, 3) := by decide +kernel
theorem dX6_lower_41 : decode cX6_lower 41 = .ok (.iconst 5, 1) := by decide +kernel
theorem dX6_lower_42 : decode cX6_lower 42 = .ok (.if_icmp .ne 16, 3) := by decide +kernel
theorem dX6_lower_45 : decode cX6_lower 45 = .ok (.aload_n 0, 1) := by decide +kernel
theorem dX6_lower_46 : decode cX6_lower 46 = .ok (.iload_n 2, 1) := by decide +kernel
theorem dX6_lower_47 : decode cX6_lower 47 = .ok (.iload_n 1, 1) := by decide +kernel
theorem dX6_lower_48 : decode cX6_lower 48 = .ok (.invokevirtual 265, 3) := by decide +kernel
theorem dX6_lower_51 : decode cX6_lower 51 = .ok (.ifCond .eq 7, 3) := by decide +kernel
theorem dX6_lower_54 : decode cX6_lower 54 = .ok (.iconst 1, 1) := by decide +kernel
theorem dX6_lower_55 : decode cX6_lower 55 = .ok (.goto 4, 3) := by decide +kernel
theorem dX6_lower_58 : decode cX6_lower 58 = .ok (.iconst 0, 1) := by decide +kernel
theorem dX6_lower_59 : decode cX6_lower 59 = .ok (.bastore, 1) := by decide +kernel
theorem dX6_lower_60 : decode cX6_lower 60 = .ok (.iinc 2 (-1), 3) := by decide +kernel
theorem dX6_lower_63 : decode cX6_lower 63 = .ok (.goto (-37), 3) := by decide +kernel
theorem dX6_lower_66 : decode cX6_lower 66 = .ok (.aload_n 0, 1) := by decide +kernel
theorem dX6_lower_67 : decode cX6_lower 67 = .ok (.iconst 0, 1) := by decide +kernel
theorem dX6_lower_68 : decode cX6_lower 68 = .ok (.aload_n 0, 1) := by decide +kernel
theorem dX6_lower_69 : decode cX6_lower 69 = .ok (.getfield 192, 3) := by decide +kernel
theorem dX6_lower_72 : decode cX6_lower 72 = .ok (.invokevirtual 260, 3) := by decide +kernel
theorem dX6_lower_75 : decode cX6_lower 75 = .ok (.aload_n 0, 1) := by decide +kernel
theorem dX6_lower_76 : decode cX6_lower 76 = .ok (.iconst 1, 1) := by decide +kernel
theorem dX6_lower_77 : decode cX6_lower 77 = .ok (.putfield 195, 3) := by decide +kernel
theorem dX6_lower_80 : decode cX6_lower 80 = .ok (.aload_n 0, 1) := by decide +kernel
theorem dX6_lower_81 : decode cX6_lower 81 = .ok (.getfield 199, 3) := by decide +kernel
theorem dX6_lower_84 : decode cX6_lower 84 = .ok (.ireturn, 1) := by decide +kernel
theorem dX6_names_0 : decode cX6_names 0 = .ok (.bipush 6, 2) := by decide +kernel
theorem dX6_names_2 : decode cX6_names 2 = .ok (.iload_n 1, 1) := by decide +kernel
theorem dX6_names_3 : decode cX6_names 3 = .ok (.imul, 1) := by decide +kernel
theorem dX6_names_4 : decode cX6_names 4 = .ok (.istore_n 3, 1) := by decide +kernel
theorem dX6_names_5 : decode cX6_names 5 = .ok (.aload_n 0, 1) := by decide +kernel
theorem dX6_names_6 : decode cX6_names 6 = .ok (.getfield 44, 3) := by decide +kernel
theorem dX6_names_9 : decode cX6_names 9 = .ok (.iload_n 3, 1) := by decide +kernel
theorem dX6_names_10 : decode cX6_names 10 = .ok (.iaload, 1) := by decide +kernel
theorem dX6_names_11 : decode cX6_names 11 = .ok (.istore 4, 2) := by decide +kernel
theorem dX6_names_13 : decode cX6_names 13 = .ok (.iload 4, 2) := by decide +kernel
theorem dX6_names_15 : decode cX6_names 15 = .ok (.tableswitch 199 0 18 #[89, 139, 199, 199, 199, 199, 199, 199, 199, 199, 199, 199, 199, 157, 139, 109, 89, 91, 91], 89) := by decide +kernel
theorem dX6_names_104 : decode cX6_names 104 = .ok (.iconst 0, 1) := by decide +kernel
theorem dX6_names_105 : decode cX6_names 105 = .ok (.ireturn, 1) := by decide +kernel
theorem dX6_names_106 : decode cX6_names 106 = .ok (.aload_n 0, 1) := by decide +kernel
theorem dX6_names_107 : decode cX6_names 107 = .ok (.getfield 44, 3) := by decide +kernel
theorem dX6_names_110 : decode cX6_names 110 = .ok (.iload_n 3, 1) := by decide +kernel
theorem dX6_names_111 : decode cX6_names 111 = .ok (.iconst 1, 1) := by decide +kernel
theorem dX6_names_112 : decode cX6_names 112 = .ok (.iadd, 1) := by decide +kernel
theorem dX6_names_113 : decode cX6_names 113 = .ok (.iaload, 1) := by decide +kernel
theorem dX6_names_114 : decode cX6_names 114 = .ok (.iload_n 2, 1) := by decide +kernel
theorem dX6_names_115 : decode cX6_names 115 = .ok (.if_icmp .ne 7, 3) := by decide +kernel
theorem dX6_names_118 : decode cX6_names 118 = .ok (.iconst 1, 1) := by decide +kernel
theorem dX6_names_119 : decode cX6_names 119 = .ok (.goto 4, 3) := by decide +kernel
theorem dX6_names_122 : decode cX6_names 122 = .ok (.iconst 0, 1) := by decide +kernel
theorem dX6_names_123 : decode cX6_names 123 = .ok (.ireturn, 1) := by decide +kernel
theorem dX6_names_124 : decode cX6_names 124 = .ok (.aload_n 0, 1) := by decide +kernel
theorem dX6_names_125 : decode cX6_names 125 = .ok (.getfield 44, 3) := by decide +kernel
theorem dX6_names_128 : decode cX6_names 128 = .ok (.iload_n 3, 1) := by decide +kernel
theorem dX6_names_129 : decode cX6_names 129 = .ok (.iconst 1, 1) := by decide +kernel
theorem dX6_names_130 : decode cX6_names 130 = .ok (.iadd, 1) := by decide +kernel
theorem dX6_names_131 : decode cX6_names 131 = .ok (.iaload, 1) := by decide +kernel
theorem dX6_names_132 : decode cX6_names 132 = .ok (.iload_n 2, 1) := by decide +kernel
theorem dX6_names_133 : decode cX6_names 133 = .ok (.if_icmp .eq 15, 3) := by decide +kernel
theorem dX6_names_136 : decode cX6_names 136 = .ok (.aload_n 0, 1) := by decide +kernel
theorem dX6_names_137 : decode cX6_names 137 = .ok (.getfield 44, 3) := by decide +kernel
theorem dX6_names_140 : decode cX6_names 140 = .ok (.iload_n 3, 1) := by decide +kernel
theorem dX6_names_141 : decode cX6_names 141 = .ok (.iconst 2, 1) := by decide +kernel
theorem dX6_names_142 : decode cX6_names 142 = .ok (.iadd, 1) := by decide +kernel
theorem dX6_names_143 : decode cX6_names 143 = .ok (.iaload, 1) := by decide +kernel
theorem dX6_names_144 : decode cX6_names 144 = .ok (.iload_n 2, 1) := by decide +kernel
theorem dX6_names_145 : decode cX6_names 145 = .ok (.if_icmp .ne 7, 3) := by decide +kernel
theorem dX6_names_148 : decode cX6_names 148 = .ok (.iconst 1, 1) := by decide +kernel
theorem dX6_names_149 : decode cX6_names 149 = .ok (.goto 4, 3) := by decide +kernel
theorem dX6_names_152 : decode cX6_names 152 = .ok (.iconst 0, 1) := by decide +kernel
theorem dX6_names_153 : decode cX6_names 153 = .ok (.ireturn, 1) := by decide +kernel
theorem dX6_names_154 : decode cX6_names 154 = .ok (.aload_n 0, 1) := by decide +kernel
theorem dX6_names_155 : decode cX6_names 155 = .ok (.getfield 44, 3) := by decide +kernel
theorem dX6_names_158 : decode cX6_names 158 = .ok (.iload_n 3, 1) := by decide +kernel
theorem dX6_names_159 : decode cX6_names 159 = .ok (.iconst 2, 1) := by decide +kernel
theorem dX6_names_160 : decode cX6_names 160 = .ok (.iadd, 1) := by decide +kernel
theorem dX6_names_161 : decode cX6_names 161 = .ok (.iaload, 1) := by decide +kernel
theorem dX6_names_162 : decode cX6_names 162 = .ok (.iload_n 2, 1) := by decide +kernel
theorem dX6_names_163 : decode cX6_names 163 = .ok (.if_icmp .ne 7, 3) := by decide +kernel
theorem dX6_names_166 : decode cX6_names 166 = .ok (.iconst 1, 1) := by decide +kernel
theorem dX6_names_167 : decode cX6_names 167 = .ok (.goto 4, 3) := by decide +kernel
theorem dX6_names_170 : decode cX6_names 170 = .ok (.iconst 0, 1) := by decide +kernel
theorem dX6_names_171 : decode cX6_names 171 = .ok (.ireturn, 1) := by decide +kernel
theorem dX6_names_172 : decode cX6_names 172 = .ok (.aload_n 0, 1) := by decide +kernel
theorem dX6_names_173 : decode cX6_names 173 = .ok (.getfield 44, 3) := by decide +kernel
theorem dX6_names_176 : decode cX6_names 176 = .ok (.iload_n 3, 1) := by decide +kernel
theorem dX6_names_177 : decode cX6_names 177 = .ok (.iconst 2, 1) := by decide +kernel
theorem dX6_names_178 : decode cX6_names 178 = .ok (.iadd, 1) := by decide +kernel
theorem dX6_names_179 : decode cX6_names 179 = .ok (.iaload, 1) := by decide +kernel
theorem dX6_names_180 : decode cX6_names 180 = .ok (.iload_n 2, 1) := by decide +kernel
theorem dX6_names_181 : decode cX6_names 181 = .ok (.if_icmp .eq 27, 3) := by decide +kernel
theorem dX6_names_184 : decode cX6_names 184 = .ok (.aload_n 0, 1) := by decide +kernel
theorem dX6_names_185 : decode cX6_names 185 = .ok (.getfield 44, 3) := by decide +kernel
