theorem dX6_names_188 : decode cX6_names 188 = .ok (.iload_n 3, 1) := by decide +kernel
theorem dX6_names_189 : decode cX6_names 189 = .ok (.iconst 3, 1) := by decide +kernel
theorem dX6_names_190 : decode cX6_names 190 = .ok (.iadd, 1) := by decide +kernel
theorem dX6_names_191 : decode cX6_names 191 = .ok (.iaload, 1) := by decide +kernel
theorem dX6_names_192 : decode cX6_names 192 = .ok (.iload_n 2, 1) := by decide +kernel
theorem dX6_names_193 : decode cX6_names 193 = .ok (.if_icmp .eq 15, 3) := by decide +kernel
theorem dX6_names_196 : decode cX6_names 196 = .ok (.aload_n 0, 1) := by decide +kernel
theorem dX6_names_197 : decode cX6_names 197 = .ok (.getfield 44, 3) := by decide +kernel
theorem dX6_names_200 : decode cX6_names 200 = .ok (.iload_n 3, 1) := by decide +kernel
theorem dX6_names_201 : decode cX6_names 201 = .ok (.iconst 4, 1) := by decide +kernel
theorem dX6_names_202 : decode cX6_names 202 = .ok (.iadd, 1) := by decide +kernel
theorem dX6_names_203 : decode cX6_names 203 = .ok (.iaload, 1) := by decide +kernel
theorem dX6_names_204 : decode cX6_names 204 = .ok (.iload_n 2, 1) := by decide +kernel
theorem dX6_names_205 : decode cX6_names 205 = .ok (.if_icmp .ne 7, 3) := by decide +kernel
theorem dX6_names_208 : decode cX6_names 208 = .ok (.iconst 1, 1) := by decide +kernel
theorem dX6_names_209 : decode cX6_names 209 = .ok (.goto 4, 3) := by decide +kernel
theorem dX6_names_212 : decode cX6_names 212 = .ok (.iconst 0, 1) := by decide +kernel
theorem dX6_names_213 : decode cX6_names 213 = .ok (.ireturn, 1) := by decide +kernel
theorem dX6_names_214 : decode cX6_names 214 = .ok (.aload_n 0, 1) := by decide +kernel
theorem dX6_names_215 : decode cX6_names 215 = .ok (.getfield 44, 3) := by decide +kernel
theorem dX6_names_218 : decode cX6_names 218 = .ok (.iload_n 3, 1) := by decide +kernel
theorem dX6_names_219 : decode cX6_names 219 = .ok (.iconst 2, 1) := by decide +kernel
theorem dX6_names_220 : decode cX6_names 220 = .ok (.iadd, 1) := by decide +kernel
theorem dX6_names_221 : decode cX6_names 221 = .ok (.iaload, 1) := by decide +kernel
theorem dX6_names_222 : decode cX6_names 222 = .ok (.iload_n 2, 1) := by decide +kernel
theorem dX6_names_223 : decode cX6_names 223 = .ok (.if_icmp .eq 15, 3) := by decide +kernel
theorem dX6_names_226 : decode cX6_names 226 = .ok (.aload_n 0, 1) := by decide +kernel
theorem dX6_names_227 : decode cX6_names 227 = .ok (.getfield 44, 3) := by decide +kernel
theorem dX6_names_230 : decode cX6_names 230 = .ok (.iload_n 3, 1) := by decide +kernel
theorem dX6_names_231 : decode cX6_names 231 = .ok (.iconst 3, 1) := by decide +kernel
theorem dX6_names_232 : decode cX6_names 232 = .ok (.iadd, 1) := by decide +kernel
theorem dX6_names_233 : decode cX6_names 233 = .ok (.iaload, 1) := by decide +kernel
theorem dX6_names_234 : decode cX6_names 234 = .ok (.iload_n 2, 1) := by decide +kernel
theorem dX6_names_235 : decode cX6_names 235 = .ok (.if_icmp .ne 7, 3) := by decide +kernel
theorem dX6_names_238 : decode cX6_names 238 = .ok (.iconst 1, 1) := by decide +kernel
theorem dX6_names_239 : decode cX6_names 239 = .ok (.goto 4, 3) := by decide +kernel
theorem dX6_names_242 : decode cX6_names 242 = .ok (.iconst 0, 1) := by decide +kernel
theorem dX6_names_243 : decode cX6_names 243 = .ok (.ireturn, 1) := by decide +kernel
theorem dX6_isUseless_0 : decode cX6_isUseless 0 = .ok (.aload_n 0, 1) := by decide +kernel
theorem dX6_isUseless_1 : decode cX6_isUseless 1 = .ok (.getfield 44, 3) := by decide +kernel
theorem dX6_isUseless_4 : decode cX6_isUseless 4 = .ok (.bipush 6, 2) := by decide +kernel
theorem dX6_isUseless_6 : decode cX6_isUseless 6 = .ok (.iload_n 1, 1) := by decide +kernel
theorem dX6_isUseless_7 : decode cX6_isUseless 7 = .ok (.imul, 1) := by decide +kernel
theorem dX6_isUseless_8 : decode cX6_isUseless 8 = .ok (.iaload, 1) := by decide +kernel
theorem dX6_isUseless_9 : decode cX6_isUseless 9 = .ok (.istore_n 2, 1) := by decide +kernel
theorem dX6_isUseless_10 : decode cX6_isUseless 10 = .ok (.aload_n 0, 1) := by decide +kernel
theorem dX6_isUseless_11 : decode cX6_isUseless 11 = .ok (.getfield 44, 3) := by decide +kernel
theorem dX6_isUseless_14 : decode cX6_isUseless 14 = .ok (.bipush 6, 2) := by decide +kernel
theorem dX6_isUseless_16 : decode cX6_isUseless 16 = .ok (.iload_n 1, 1) := by decide +kernel
theorem dX6_isUseless_17 : decode cX6_isUseless 17 = .ok (.imul, 1) := by decide +kernel
theorem dX6_isUseless_18 : decode cX6_isUseless 18 = .ok (.iconst 1, 1) := by decide +kernel
theorem dX6_isUseless_19 : decode cX6_isUseless 19 = .ok (.iadd, 1) := by decide +kernel
theorem dX6_isUseless_20 : decode cX6_isUseless 20 = .ok (.iaload, 1) := by decide +kernel
theorem dX6_isUseless_21 : decode cX6_isUseless 21 = .ok (.istore_n 3, 1) := by decide +kernel
theorem dX6_isUseless_22 : decode cX6_isUseless 22 = .ok (.iload_n 2, 1) := by decide +kernel
theorem dX6_isUseless_23 : decode cX6_isUseless 23 = .ok (.bipush 15, 2) := by decide +kernel
theorem dX6_isUseless_25 : decode cX6_isUseless 25 = .ok (.if_icmp .eq 38, 3) := by decide +kernel
theorem dX6_isUseless_28 : decode cX6_isUseless 28 = .ok (.iload_n 2, 1) := by decide +kernel
theorem dX6_isUseless_29 : decode cX6_isUseless 29 = .ok (.bipush 16, 2) := by decide +kernel
theorem dX6_isUseless_31 : decode cX6_isUseless 31 = .ok (.if_icmp .eq 32, 3) := by decide +kernel
theorem dX6_isUseless_34 : decode cX6_isUseless 34 = .ok (.iload_n 2, 1) := by decide +kernel
theorem dX6_isUseless_35 : decode cX6_isUseless 35 = .ok (.bipush 17, 2) := by decide +kernel
theorem dX6_isUseless_37 : decode cX6_isUseless 37 = .ok (.if_icmp .eq 26, 3) := by decide +kernel
theorem dX6_isUseless_40 : decode cX6_isUseless 40 = .ok (.iload_n 2, 1) := by decide +kernel
theorem dX6_isUseless_41 : decode cX6_isUseless 41 = .ok (.bipush 18, 2) := by decide +kernel
theorem dX6_isUseless_43 : decode cX6_isUseless 43 = .ok (.if_icmp .eq 20, 3) := by decide +kernel
theorem dX6_isUseless_46 : decode cX6_isUseless 46 = .ok (.iload_n 2, 1) := by decide +kernel
theorem dX6_isUseless_47 : decode cX6_isUseless 47 = .ok (.iconst 5, 1) := by decide +kernel
theorem dX6_isUseless_48 : decode cX6_isUseless 48 = .ok (.if_icmp .eq 15, 3) := by decide +kernel
theorem dX6_isUseless_51 : decode cX6_isUseless 51 = .ok (.iload_n 2, 1) := by decide +kernel
theorem dX6_isUseless_52 : decode cX6_isUseless 52 = .ok (.bipush 6, 2) := by decide +kernel
theorem dX6_isUseless_54 : decode cX6_isUseless 54 = .ok (.if_icmp .eq 9, 3) := by decide +kernel
theorem dX6_isUseless_57 : decode cX6_isUseless 57 = .ok (.iload_n 2, 1) := by decide +kernel
theorem dX6_isUseless_58 : decode cX6_isUseless 58 = .ok (.bipush 14, 2) := by decide +kernel
theorem dX6_isUseless_60 : decode cX6_isUseless 60 = .ok (.if_icmp .ne 7, 3) := by decide +kernel
theorem dX6_isUseless_63 : decode cX6_isUseless 63 = .ok (.iconst 1, 1) := by decide +kernel
theorem dX6_isUseless_64 : decode cX6_isUseless 64 = .ok (.goto 4, 3) := by decide +kernel
theorem dX6_isUseless_67 : decode cX6_isUseless 67 = .ok (.iconst 0, 1) := by decide +kernel
theorem dX6_isUseless_68 : decode cX6_isUseless 68 = .ok (.istore 4, 2) := by decide +kernel
theorem dX6_isUseless_70 : decode cX6_isUseless 70 = .ok (.aload_n 0, 1) := by decide +kernel
theorem dX6_isUseless_71 : decode cX6_isUseless 71 = .ok (.getfield 81, 3) := by decide +kernel
theorem dX6_isUseless_74 : decode cX6_isUseless 74 = .ok (.iload_n 1, 1) := by decide +kernel
theorem dX6_isUseless_75 : decode cX6_isUseless 75 = .ok (.baload, 1) := by decide +kernel
theorem dX6_isUseless_76 : decode cX6_isUseless 76 = .ok (.ifCond .ne 14, 3) := by decide +kernel
theorem dX6_isUseless_79 : decode cX6_isUseless 79 = .ok (.iload 4, 2) := by decide +kernel
theorem dX6_isUseless_81 : decode cX6_isUseless 81 = .ok (.ifCond .ne 9, 3) := by decide +kernel
theorem dX6_isUseless_84 : decode cX6_isUseless 84 = .ok (.iload_n 3, 1) := by decide +kernel
theorem dX6_isUseless_85 : decode cX6_isUseless 85 = .ok (.bipush 16, 2) := by decide +kernel
theorem dX6_isUseless_87 : decode cX6_isUseless 87 = .ok (.if_icmp .ge 5, 3) := by decide +kernel
theorem dX6_isUseless_90 : decode cX6_isUseless 90 = .ok (.iconst 0, 1) := by decide +kernel
theorem dX6_isUseless_91 : decode cX6_isUseless 91 = .ok (.ireturn, 1) := by decide +kernel
theorem dX6_isUseless_92 : decode cX6_isUseless 92 = .ok (.iconst 0, 1) := by decide +kernel
theorem dX6_isUseless_93 : decode cX6_isUseless 93 = .ok (.istore 5, 2) := by decide +kernel
theorem dX6_isUseless_95 : decode cX6_isUseless 95 = .ok (.iload 5, 2) := by decide +kernel
theorem dX6_isUseless_97 : decode cX6_isUseless 97 = .ok (.aload_n 0, 1) := by decide +kernel
theorem dX6_isUseless_98 : decode cX6_isUseless 98 = .ok (.getfield 199, 3) := by decide +kernel
theorem dX6_isUseless_101 : decode cX6_isUseless 101 = .ok (.if_icmp .ge 37, 3) := by decide +kernel
theorem dX6_isUseless_104 : decode cX6_isUseless 104 = .ok (.iload 5, 2) := by decide +kernel
theorem dX6_isUseless_106 : decode cX6_isUseless 106 = .ok (.iload_n 1, 1) := by decide +kernel
theorem dX6_isUseless_107 : decode cX6_isUseless 107 = .ok (.if_icmp .eq 25, 3) := by decide +kernel
theorem dX6_isUseless_110 : decode cX6_isUseless 110 = .ok (.aload_n 0, 1) := by decide +kernel
theorem dX6_isUseless_111 : decode cX6_isUseless 111 = .ok (.getfield 81, 3) := by decide +kernel
theorem dX6_isUseless_114 : decode cX6_isUseless 114 = .ok (.iload 5, 2) := by decide +kernel
theorem dX6_isUseless_116 : decode cX6_isUseless 116 = .ok (.baload, 1) := by decide +kernel
theorem dX6_isUseless_117 : decode cX6_isUseless 117 = .ok (.ifCond .ne 15, 3) := by decide +kernel
theorem dX6_isUseless_120 : decode cX6_isUseless 120 = .ok (.aload_n 0, 1) := by decide +kernel
theorem dX6_isUseless_121 : decode cX6_isUseless 121 = .ok (.iload 5, 2) := by decide +kernel
theorem dX6_isUseless_123 : decode cX6_isUseless 123 = .ok (.iload_n 3, 1) := by decide +kernel
theorem dX6_isUseless_124 : decode cX6_isUseless 124 = .ok (.invokevirtual 269, 3) := by decide +kernel
theorem dX6_isUseless_127 : decode cX6_isUseless 127 = .ok (.ifCond .eq 5, 3) := by decide +kernel
theorem dX6_isUseless_130 : decode cX6_isUseless 130 = .ok (.iconst 0, 1) := by decide +kernel
theorem dX6_isUseless_131 : decode cX6_isUseless 131 = .ok (.ireturn, 1) := by decide +kernel
theorem dX6_isUseless_132 : decode cX6_isUseless 132 = .ok (.iinc 5 1, 3) := by decide +kernel
theorem dX6_isUseless_135 : decode cX6_isUseless 135 = .ok (.goto (-40), 3) := by decide +kernel
theorem dX6_isUseless_138 : decode cX6_isUseless 138 = .ok (.iconst 1, 1) := by decide +kernel
theorem dX6_isUseless_139 : decode cX6_isUseless 139 = .ok (.ireturn, 1) := by decide +kernel
theorem dX6_trim_0 : decode cX6_trim 0 = .ok (.aload_n 0, 1) := by decide +kernel
theorem dX6_trim_1 : decode cX6_trim 1 = .ok (.iconst 0, 1) := by decide +kernel
theorem dX6_trim_2 : decode cX6_trim 2 = .ok (.putfield 102, 3) := by decide +kernel
theorem dX6_trim_5 : decode cX6_trim 5 = .ok (.iconst 0, 1) := by decide +kernel
theorem dX6_trim_6 : decode cX6_trim 6 = .ok (.istore_n 1, 1) := by decide +kernel
theorem dX6_trim_7 : decode cX6_trim 7 = .ok (.iload_n 1, 1) := by decide +kernel
theorem dX6_trim_8 : decode cX6_trim 8 = .ok (.aload_n 0, 1) := by decide +kernel
theorem dX6_trim_9 : decode cX6_trim 9 = .ok (.getfield 199, 3) := by decide +kernel
theorem dX6_trim_12 : decode cX6_trim 12 = .ok (.if_icmp .ge 16, 3) := by decide +kernel
theorem dX6_trim_15 : decode cX6_trim 15 = .ok (.aload_n 0, 1) := by decide +kernel
theorem dX6_trim_16 : decode cX6_trim 16 = .ok (.getfield 81, 3) := by decide +kernel
theorem dX6_trim_19 : decode cX6_trim 19 = .ok (.iload_n 1, 1) := by decide +kernel
theorem dX6_trim_20 : decode cX6_trim 20 = .ok (.iconst 0, 1) := by decide +kernel
theorem dX6_trim_21 : decode cX6_trim 21 = .ok (.bastore, 1) := by decide +kernel
theorem dX6_trim_22 : decode cX6_trim 22 = .ok (.iinc 1 1, 3) := by decide +kernel
theorem dX6_trim_25 : decode cX6_trim 25 = .ok (.goto (-18), 3) := by decide +kernel
theorem dX6_trim_28 : decode cX6_trim 28 = .ok (.iconst 0, 1) := by decide +kernel
theorem dX6_trim_29 : decode cX6_trim 29 = .ok (.istore_n 1, 1) := by decide +kernel
theorem dX6_trim_30 : decode cX6_trim 30 = .ok (.iconst 1, 1) := by decide +kernel
theorem dX6_trim_31 : decode cX6_trim 31 = .ok (.istore_n 2, 1) := by decide +kernel
theorem dX6_trim_32 : decode cX6_trim 32 = .ok (.iload_n 2, 1) := by decide +kernel
theorem dX6_trim_33 : decode cX6_trim 33 = .ok (.ifCond .eq 44, 3) := by decide +kernel
theorem dX6_trim_36 : decode cX6_trim 36 = .ok (.iconst 0, 1) := by decide +kernel
theorem dX6_trim_37 : decode cX6_trim 37 = .ok (.istore_n 2, 1) := by decide +kernel
theorem dX6_trim_38 : decode cX6_trim 38 = .ok (.iconst 0, 1) := by decide +kernel
theorem dX6_trim_39 : decode cX6_trim 39 = .ok (.istore_n 3, 1) := by decide +kernel
theorem dX6_trim_40 : decode cX6_trim 40 = .ok (.iload_n 3, 1) := by decide +kernel
theorem dX6_trim_41 : decode cX6_trim 41 = .ok (.aload_n 0, 1) := by decide +kernel
theorem dX6_trim_42 : decode cX6_trim 42 = .ok (.getfield 199, 3) := by decide +kernel
theorem dX6_trim_45 : decode cX6_trim 45 = .ok (.if_icmp .ge 29, 3) := by decide +kernel
theorem dX6_trim_48 : decode cX6_trim 48 = .ok (.aload_n 0, 1) := by decide +kernel
theorem dX6_trim_49 : decode cX6_trim 49 = .ok (.iload_n 3, 1) := by decide +kernel
theorem dX6_trim_50 : decode cX6_trim 50 = .ok (.invokevirtual 272, 3) := by decide +kernel
theorem dX6_trim_53 : decode cX6_trim 53 = .ok (.ifCond .eq 15, 3) := by decide +kernel
theorem dX6_trim_56 : decode cX6_trim 56 = .ok (.aload_n 0, 1) := by decide +kernel
theorem dX6_trim_57 : decode cX6_trim 57 = .ok (.getfield 81, 3) := by decide +kernel
theorem dX6_trim_60 : decode cX6_trim 60 = .ok (.iload_n 3, 1) := by decide +kernel
theorem dX6_trim_61 : decode cX6_trim 61 = .ok (.iconst 1, 1) := by decide +kernel
theorem dX6_trim_62 : decode cX6_trim 62 = .ok (.bastore, 1) := by decide +kernel
theorem dX6_trim_63 : decode cX6_trim 63 = .ok (.iinc 1 1, 3) := by decide +kernel
theorem dX6_trim_66 : decode cX6_trim 66 = .ok (.iconst 1, 1) := by decide +kernel
theorem dX6_trim_67 : decode cX6_trim 67 = .ok (.istore_n 2, 1) := by decide +kernel
theorem dX6_trim_68 : decode cX6_trim 68 = .ok (.iinc 3 1, 3) := by decide +kernel
theorem dX6_trim_71 : decode cX6_trim 71 = .ok (.goto (-31), 3) := by decide +kernel
theorem dX6_trim_74 : decode cX6_trim 74 = .ok (.goto (-42), 3) := by decide +kernel
theorem dX6_trim_77 : decode cX6_trim 77 = .ok (.iconst 0, 1) := by decide +kernel
theorem dX6_trim_78 : decode cX6_trim 78 = .ok (.istore_n 3, 1) := by decide +kernel
theorem dX6_trim_79 : decode cX6_trim 79 = .ok (.iload_n 3, 1) := by decide +kernel
theorem dX6_trim_80 : decode cX6_trim 80 = .ok (.aload_n 0, 1) := by decide +kernel
theorem dX6_trim_81 : decode cX6_trim 81 = .ok (.getfield 199, 3) := by decide +kernel
theorem dX6_trim_84 : decode cX6_trim 84 = .ok (.if_icmp .ge 84, 3) := by decide +kernel
theorem dX6_trim_87 : decode cX6_trim 87 = .ok (.aload_n 0, 1) := by decide +kernel
theorem dX6_trim_88 : decode cX6_trim 88 = .ok (.getfield 44, 3) := by decide +kernel
theorem dX6_trim_91 : decode cX6_trim 91 = .ok (.bipush 6, 2) := by decide +kernel
theorem dX6_trim_93 : decode cX6_trim 93 = .ok (.iload_n 3, 1) := by decide +kernel
theorem dX6_trim_94 : decode cX6_trim 94 = .ok (.imul, 1) := by decide +kernel
theorem dX6_trim_95 : decode cX6_trim 95 = .ok (.iaload, 1) := by decide +kernel
theorem dX6_trim_96 : decode cX6_trim 96 = .ok (.bipush 16, 2) := by decide +kernel
theorem dX6_trim_98 : decode cX6_trim 98 = .ok (.if_icmp .ne 7, 3) := by decide +kernel
theorem dX6_trim_101 : decode cX6_trim 101 = .ok (.iconst 1, 1) := by decide +kernel
theorem dX6_trim_102 : decode cX6_trim 102 = .ok (.goto 22, 3) := by decide +kernel
theorem dX6_trim_105 : decode cX6_trim 105 = .ok (.aload_n 0, 1) := by decide +kernel
theorem dX6_trim_106 : decode cX6_trim 106 = .ok (.getfield 44, 3) := by decide +kernel
theorem dX6_trim_109 : decode cX6_trim 109 = .ok (.bipush 6, 2) := by decide +kernel
theorem dX6_trim_111 : decode cX6_trim 111 = .ok (.iload_n 3, 1) := by decide +kernel
theorem dX6_trim_112 : decode cX6_trim 112 = .ok (.imul, 1) := by decide +kernel
theorem dX6_trim_113 : decode cX6_trim 113 = .ok (.iaload, 1) := by decide +kernel
theorem dX6_trim_114 : decode cX6_trim 114 = .ok (.bipush 17, 2) := by decide +kernel
theorem dX6_trim_116 : decode cX6_trim 116 = .ok (.if_icmp .ne 7, 3) := by decide +kernel
theorem dX6_trim_119 : decode cX6_trim 119 = .ok (.iconst 2, 1) := by decide +kernel
theorem dX6_trim_120 : decode cX6_trim 120 = .ok (.goto 4, 3) := by decide +kernel
theorem dX6_trim_123 : decode cX6_trim 123 = .ok (.iconst 0, 1) := by decide +kernel
theorem dX6_trim_124 : decode cX6_trim 124 = .ok (.istore 4, 2) := by decide +kernel
theorem dX6_trim_126 : decode cX6_trim 126 = .ok (.iload 4, 2) := by decide +kernel
theorem dX6_trim_128 : decode cX6_trim 128 = .ok (.ifCond .le 34, 3) := by decide +kernel
theorem dX6_trim_131 : decode cX6_trim 131 = .ok (.aload_n 0, 1) := by decide +kernel
theorem dX6_trim_132 : decode cX6_trim 132 = .ok (.getfield 44, 3) := by decide +kernel
theorem dX6_trim_135 : decode cX6_trim 135 = .ok (.bipush 6, 2) := by decide +kernel
theorem dX6_trim_137 : decode cX6_trim 137 = .ok (.iload_n 3, 1) := by decide +kernel
theorem dX6_trim_138 : decode cX6_trim 138 = .ok (.imul, 1) := by decide +kernel
theorem dX6_trim_139 : decode cX6_trim 139 = .ok (.iload 4, 2) := by decide +kernel
theorem dX6_trim_141 : decode cX6_trim 141 = .ok (.iadd, 1) := by decide +kernel
theorem dX6_trim_142 : decode cX6_trim 142 = .ok (.dup2, 1) := by decide +kernel
theorem dX6_trim_143 : decode cX6_trim 143 = .ok (.iaload, 1) := by decide +kernel
theorem dX6_trim_144 : decode cX6_trim 144 = .ok (.aload_n 0, 1) := by decide +kernel
theorem dX6_trim_145 : decode cX6_trim 145 = .ok (.aload_n 0, 1) := by decide +kernel
theorem dX6_trim_146 : decode cX6_trim 146 = .ok (.getfield 44, 3) := by decide +kernel
theorem dX6_trim_149 : decode cX6_trim 149 = .ok (.bipush 6, 2) := by decide +kernel
theorem dX6_trim_151 : decode cX6_trim 151 = .ok (.iload_n 3, 1) := by decide +kernel
theorem dX6_trim_152 : decode cX6_trim 152 = .ok (.imul, 1) := by decide +kernel
theorem dX6_trim_153 : decode cX6_trim 153 = .ok (.iload 4, 2) := by decide +kernel
theorem dX6_trim_155 : decode cX6_trim 155 = .ok (.iadd, 1) := by decide +kernel
theorem dX6_trim_156 : decode cX6_trim 156 = .ok (.iaload, 1) := by decide +kernel
theorem dX6_trim_157 : decode cX6_trim 157 = .ok (.invokevirtual 275, 3) := by decide +kernel
theorem dX6_trim_160 : decode cX6_trim 160 = .ok (.isub, 1) := by decide +kernel
theorem dX6_trim_161 : decode cX6_trim 161 = .ok (.iastore, 1) := by decide +kernel
theorem dX6_trim_162 : decode cX6_trim 162 = .ok (.iinc 3 1, 3) := by decide +kernel
theorem dX6_trim_165 : decode cX6_trim 165 = .ok (.goto (-86), 3) := by decide +kernel
theorem dX6_trim_168 : decode cX6_trim 168 = .ok (.iconst 0, 1) := by decide +kernel
theorem dX6_trim_169 : decode cX6_trim 169 = .ok (.istore_n 3, 1) := by decide +kernel
theorem dX6_trim_170 : decode cX6_trim 170 = .ok (.iconst 0, 1) := by decide +kernel
theorem dX6_trim_171 : decode cX6_trim 171 = .ok (.istore 4, 2) := by decide +kernel
theorem dX6_trim_173 : decode cX6_trim 173 = .ok (.iload 4, 2) := by decide +kernel
theorem dX6_trim_175 : decode cX6_trim 175 = .ok (.aload_n 0, 1) := by decide +kernel
theorem dX6_trim_176 : decode cX6_trim 176 = .ok (.getfield 199, 3) := by decide +kernel
theorem dX6_trim_179 : decode cX6_trim 179 = .ok (.if_icmp .ge 63, 3) := by decide +kernel
theorem dX6_trim_182 : decode cX6_trim 182 = .ok (.aload_n 0, 1) := by decide +kernel
theorem dX6_trim_183 : decode cX6_trim 183 = .ok (.getfield 81, 3) := by decide +kernel
theorem dX6_trim_186 : decode cX6_trim 186 = .ok (.iload 4, 2) := by decide +kernel
theorem dX6_trim_188 : decode cX6_trim 188 = .ok (.baload, 1) := by decide +kernel
theorem dX6_trim_189 : decode cX6_trim 189 = .ok (.ifCond .ne 47, 3) := by decide +kernel
theorem dX6_trim_192 : decode cX6_trim 192 = .ok (.iconst 0, 1) := by decide +kernel
theorem dX6_trim_193 : decode cX6_trim 193 = .ok (.istore 5, 2) := by decide +kernel
theorem dX6_trim_195 : decode cX6_trim 195 = .ok (.iload 5, 2) := by decide +kernel
theorem dX6_trim_197 : decode cX6_trim 197 = .ok (.bipush 6, 2) := by decide +kernel
theorem dX6_trim_199 : decode cX6_trim 199 = .ok (.if_icmp .ge 34, 3) := by decide +kernel
theorem dX6_trim_202 : decode cX6_trim 202 = .ok (.aload_n 0, 1) := by decide +kernel
theorem dX6_trim_203 : decode cX6_trim 203 = .ok (.getfield 44, 3) := by decide +kernel
theorem dX6_trim_206 : decode cX6_trim 206 = .ok (.bipush 6, 2) := by decide +kernel
theorem dX6_trim_208 : decode cX6_trim 208 = .ok (.iload_n 3, 1) := by decide +kernel
theorem dX6_trim_209 : decode cX6_trim 209 = .ok (.imul, 1) := by decide +kernel
theorem dX6_trim_210 : decode cX6_trim 210 = .ok (.iload 5, 2) := by decide +kernel
theorem dX6_trim_212 : decode cX6_trim 212 = .ok (.iadd, 1) := by decide +kernel
theorem dX6_trim_213 : decode cX6_trim 213 = .ok (.aload_n 0, 1) := by decide +kernel
theorem dX6_trim_214 : decode cX6_trim 214 = .ok (.getfield 44, 3) := by decide +kernel
theorem dX6_trim_217 : decode cX6_trim 217 = .ok (.bipush 6, 2) := by decide +kernel
theorem dX6_trim_219 : decode cX6_trim 219 = .ok (.iload 4, 2) := by decide +kernel
theorem dX6_trim_221 : decode cX6_trim 221 = .ok (.imul, 1) := by decide +kernel
theorem dX6_trim_222 : decode cX6_trim 222 = .ok (.iload 5, 2) := by decide +kernel
theorem dX6_trim_224 : decode cX6_trim 224 = .ok (.iadd, 1) := by decide +kernel
theorem dX6_trim_225 : decode cX6_trim 225 = .ok (.iaload, 1) := by decide +kernel
theorem dX6_trim_226 : decode cX6_trim 226 = .ok (.iastore, 1) := by decide +kernel
theorem dX6_trim_227 : decode cX6_trim 227 = .ok (.iinc 5 1, 3) := by decide +kernel
theorem dX6_trim_230 : decode cX6_trim 230 = .ok (.goto (-35), 3) := by decide +kernel
theorem dX6_trim_233 : decode cX6_trim 233 = .ok (.iinc 3 1, 3) := by decide +kernel
theorem dX6_trim_236 : decode cX6_trim 236 = .ok (.iinc 4 1, 3) := by decide +kernel
theorem dX6_trim_239 : decode cX6_trim 239 = .ok (.goto (-66), 3) := by decide +kernel
theorem dX6_trim_242 : decode cX6_trim 242 = .ok (.aload_n 0, 1) := by decide +kernel
theorem dX6_trim_243 : decode cX6_trim 243 = .ok (.iload_n 3, 1) := by decide +kernel
theorem dX6_trim_244 : decode cX6_trim 244 = .ok (.putfield 199, 3) := by decide +kernel
theorem dX6_trim_247 : decode cX6_trim 247 = .ok (.iload_n 1, 1) := by decide +kernel
theorem dX6_trim_248 : decode cX6_trim 248 = .ok (.ireturn, 1) := by decide +kernel
theorem dX6_goneBefore_0 : decode cX6_goneBefore 0 = .ok (.iconst 0, 1) := by decide +kernel
theorem dX6_goneBefore_1 : decode cX6_goneBefore 1 = .ok (.istore_n 2, 1) := by decide +kernel
theorem dX6_goneBefore_2 : decode cX6_goneBefore 2 = .ok (.iconst 0, 1) := by decide +kernel
theorem dX6_goneBefore_3 : decode cX6_goneBefore 3 = .ok (.istore_n 3, 1) := by decide +kernel
theorem dX6_goneBefore_4 : decode cX6_goneBefore 4 = .ok (.iload_n 3, 1) := by decide +kernel
theorem dX6_goneBefore_5 : decode cX6_goneBefore 5 = .ok (.iload_n 1, 1) := by decide +kernel
theorem dX6_goneBefore_6 : decode cX6_goneBefore 6 = .ok (.if_icmp .ge 26, 3) := by decide +kernel
theorem dX6_goneBefore_9 : decode cX6_goneBefore 9 = .ok (.iload_n 2, 1) := by decide +kernel
theorem dX6_goneBefore_10 : decode cX6_goneBefore 10 = .ok (.aload_n 0, 1) := by decide +kernel
theorem dX6_goneBefore_11 : decode cX6_goneBefore 11 = .ok (.getfield 81, 3) := by decide +kernel
theorem dX6_goneBefore_14 : decode cX6_goneBefore 14 = .ok (.iload_n 3, 1) := by decide +kernel
theorem dX6_goneBefore_15 : decode cX6_goneBefore 15 = .ok (.baload, 1) := by decide +kernel
theorem dX6_goneBefore_16 : decode cX6_goneBefore 16 = .ok (.ifCond .eq 7, 3) := by decide +kernel
theorem dX6_goneBefore_19 : decode cX6_goneBefore 19 = .ok (.iconst 1, 1) := by decide +kernel
theorem dX6_goneBefore_20 : decode cX6_goneBefore 20 = .ok (.goto 4, 3) := by decide +kernel
theorem dX6_goneBefore_23 : decode cX6_goneBefore 23 = .ok (.iconst 0, 1) := by decide +kernel
theorem dX6_goneBefore_24 : decode cX6_goneBefore 24 = .ok (.iadd, 1) := by decide +kernel
theorem dX6_goneBefore_25 : decode cX6_goneBefore 25 = .ok (.istore_n 2, 1) := by decide +kernel
theorem dX6_goneBefore_26 : decode cX6_goneBefore 26 = .ok (.iinc 3 1, 3) := by decide +kernel
theorem dX6_goneBefore_29 : decode cX6_goneBefore 29 = .ok (.goto (-25), 3) := by decide +kernel
theorem dX6_goneBefore_32 : decode cX6_goneBefore 32 = .ok (.iload_n 2, 1) := by decide +kernel
theorem dX6_goneBefore_33 : decode cX6_goneBefore 33 = .ok (.ireturn, 1) := by decide +kernel
theorem dX6_step_0 : decode cX6_step 0 = .ok (.aload_n 0, 1) := by decide +kernel
theorem dX6_step_1 : decode cX6_step 1 = .ok (.iload_n 1, 1) := by decide +kernel
theorem dX6_step_2 : decode cX6_step 2 = .ok (.i2l, 1) := by decide +kernel
theorem dX6_step_3 : decode cX6_step 3 = .ok (.lconst 0, 1) := by decide +kernel
theorem dX6_step_4 : decode cX6_step 4 = .ok (.aload_n 0, 1) := by decide +kernel
theorem dX6_step_5 : decode cX6_step 5 = .ok (.getfield 199, 3) := by decide +kernel
theorem dX6_step_8 : decode cX6_step 8 = .ok (.iconst 1, 1) := by decide +kernel
theorem dX6_step_9 : decode cX6_step 9 = .ok (.isub, 1) := by decide +kernel
theorem dX6_step_10 : decode cX6_step 10 = .ok (.i2l, 1) := by decide +kernel
theorem dX6_step_11 : decode cX6_step 11 = .ok (.invokestatic 107, 3) := by decide +kernel
theorem dX6_step_14 : decode cX6_step 14 = .ok (.iload_n 2, 1) := by decide +kernel
theorem dX6_step_15 : decode cX6_step 15 = .ok (.i2l, 1) := by decide +kernel
theorem dX6_step_16 : decode cX6_step 16 = .ok (.lconst 0, 1) := by decide +kernel
theorem dX6_step_17 : decode cX6_step 17 = .ok (.ldc2_w 278, 3) := by decide +kernel
theorem dX6_step_20 : decode cX6_step 20 = .ok (.invokestatic 107, 3) := by decide +kernel
theorem dX6_step_23 : decode cX6_step 23 = .ok (.invokevirtual 111, 3) := by decide +kernel
theorem dX6_step_26 : decode cX6_step 26 = .ok (.ifCond .ne 5, 3) := by decide +kernel
theorem dX6_step_29 : decode cX6_step 29 = .ok (.iconst 0, 1) := by decide +kernel
theorem dX6_step_30 : decode cX6_step 30 = .ok (.ireturn, 1) := by decide +kernel
theorem dX6_step_31 : decode cX6_step 31 = .ok (.aload_n 0, 1) := by decide +kernel
theorem dX6_step_32 : decode cX6_step 32 = .ok (.getfield 44, 3) := by decide +kernel
theorem dX6_step_35 : decode cX6_step 35 = .ok (.bipush 6, 2) := by decide +kernel
theorem dX6_step_37 : decode cX6_step 37 = .ok (.iload_n 1, 1) := by decide +kernel
theorem dX6_step_38 : decode cX6_step 38 = .ok (.imul, 1) := by decide +kernel
theorem dX6_step_39 : decode cX6_step 39 = .ok (.iload_n 2, 1) := by decide +kernel
theorem dX6_step_40 : decode cX6_step 40 = .ok (.iadd, 1) := by decide +kernel
theorem dX6_step_41 : decode cX6_step 41 = .ok (.iaload, 1) := by decide +kernel
theorem dX6_step_42 : decode cX6_step 42 = .ok (.ireturn, 1) := by decide +kernel
theorem dX6_statement_0 : decode cX6_statement 0 = .ok (.aload_n 0, 1) := by decide +kernel
theorem dX6_statement_1 : decode cX6_statement 1 = .ok (.iload_n 1, 1) := by decide +kernel
theorem dX6_statement_2 : decode cX6_statement 2 = .ok (.i2l, 1) := by decide +kernel
theorem dX6_statement_3 : decode cX6_statement 3 = .ok (.lconst 0, 1) := by decide +kernel
theorem dX6_statement_4 : decode cX6_statement 4 = .ok (.aload_n 0, 1) := by decide +kernel
theorem dX6_statement_5 : decode cX6_statement 5 = .ok (.getfield 192, 3) := by decide +kernel
theorem dX6_statement_8 : decode cX6_statement 8 = .ok (.iconst 1, 1) := by decide +kernel
theorem dX6_statement_9 : decode cX6_statement 9 = .ok (.isub, 1) := by decide +kernel
theorem dX6_statement_10 : decode cX6_statement 10 = .ok (.i2l, 1) := by decide +kernel
theorem dX6_statement_11 : decode cX6_statement 11 = .ok (.invokestatic 107, 3) := by decide +kernel
theorem dX6_statement_14 : decode cX6_statement 14 = .ok (.iload_n 2, 1) := by decide +kernel
theorem dX6_statement_15 : decode cX6_statement 15 = .ok (.i2l, 1) := by decide +kernel
theorem dX6_statement_16 : decode cX6_statement 16 = .ok (.lconst 0, 1) := by decide +kernel
theorem dX6_statement_17 : decode cX6_statement 17 = .ok (.ldc2_w 280, 3) := by decide +kernel
theorem dX6_statement_20 : decode cX6_statement 20 = .ok (.invokestatic 107, 3) := by decide +kernel
theorem dX6_statement_23 : decode cX6_statement 23 = .ok (.invokevirtual 111, 3) := by decide +kernel
theorem dX6_statement_26 : decode cX6_statement 26 = .ok (.ifCond .ne 5, 3) := by decide +kernel
theorem dX6_statement_29 : decode cX6_statement 29 = .ok (.iconst 0, 1) := by decide +kernel
theorem dX6_statement_30 : decode cX6_statement 30 = .ok (.ireturn, 1) := by decide +kernel
theorem dX6_statement_31 : decode cX6_statement 31 = .ok (.iload_n 2, 1) := by decide +kernel
theorem dX6_statement_32 : decode cX6_statement 32 = .ok (.ifCond .ne 10, 3) := by decide +kernel
theorem dX6_statement_35 : decode cX6_statement 35 = .ok (.aload_n 0, 1) := by decide +kernel
theorem dX6_statement_36 : decode cX6_statement 36 = .ok (.iload_n 1, 1) := by decide +kernel
theorem dX6_statement_37 : decode cX6_statement 37 = .ok (.iconst 0, 1) := by decide +kernel
theorem dX6_statement_38 : decode cX6_statement 38 = .ok (.invokevirtual 212, 3) := by decide +kernel
theorem dX6_statement_41 : decode cX6_statement 41 = .ok (.ireturn, 1) := by decide +kernel
theorem dX6_statement_42 : decode cX6_statement 42 = .ok (.iload_n 2, 1) := by decide +kernel
theorem dX6_statement_43 : decode cX6_statement 43 = .ok (.iconst 1, 1) := by decide +kernel
theorem dX6_statement_44 : decode cX6_statement 44 = .ok (.if_icmp .ne 11, 3) := by decide +kernel
theorem dX6_statement_47 : decode cX6_statement 47 = .ok (.aload_n 0, 1) := by decide +kernel
theorem dX6_statement_48 : decode cX6_statement 48 = .ok (.iload_n 1, 1) := by decide +kernel
theorem dX6_statement_49 : decode cX6_statement 49 = .ok (.bipush 7, 2) := by decide +kernel
theorem dX6_statement_51 : decode cX6_statement 51 = .ok (.invokevirtual 212, 3) := by decide +kernel
theorem dX6_statement_54 : decode cX6_statement 54 = .ok (.ireturn, 1) := by decide +kernel
theorem dX6_statement_55 : decode cX6_statement 55 = .ok (.iload_n 2, 1) := by decide +kernel
theorem dX6_statement_56 : decode cX6_statement 56 = .ok (.iconst 2, 1) := by decide +kernel
theorem dX6_statement_57 : decode cX6_statement 57 = .ok (.if_icmp .ne 18, 3) := by decide +kernel
theorem dX6_statement_60 : decode cX6_statement 60 = .ok (.aload_n 0, 1) := by decide +kernel
theorem dX6_statement_61 : decode cX6_statement 61 = .ok (.getfield 51, 3) := by decide +kernel
theorem dX6_statement_64 : decode cX6_statement 64 = .ok (.iload_n 1, 1) := by decide +kernel
theorem dX6_statement_65 : decode cX6_statement 65 = .ok (.baload, 1) := by decide +kernel
theorem dX6_statement_66 : decode cX6_statement 66 = .ok (.ifCond .eq 7, 3) := by decide +kernel
theorem dX6_statement_69 : decode cX6_statement 69 = .ok (.iconst 1, 1) := by decide +kernel
theorem dX6_statement_70 : decode cX6_statement 70 = .ok (.goto 4, 3) := by decide +kernel
theorem dX6_statement_73 : decode cX6_statement 73 = .ok (.iconst 0, 1) := by decide +kernel
theorem dX6_statement_74 : decode cX6_statement 74 = .ok (.ireturn, 1) := by decide +kernel
theorem dX6_statement_75 : decode cX6_statement 75 = .ok (.iconst 0, 1) := by decide +kernel
theorem dX6_statement_76 : decode cX6_statement 76 = .ok (.istore_n 3, 1) := by decide +kernel
theorem dX6_statement_77 : decode cX6_statement 77 = .ok (.iconst 0, 1) := by decide +kernel
theorem dX6_statement_78 : decode cX6_statement 78 = .ok (.istore 4, 2) := by decide +kernel
theorem dX6_statement_80 : decode cX6_statement 80 = .ok (.iload 4, 2) := by decide +kernel
theorem dX6_statement_82 : decode cX6_statement 82 = .ok (.aload_n 0, 1) := by decide +kernel
theorem dX6_statement_83 : decode cX6_statement 83 = .ok (.getfield 199, 3) := by decide +kernel
theorem dX6_statement_86 : decode cX6_statement 86 = .ok (.if_icmp .ge 33, 3) := by decide +kernel
theorem dX6_statement_89 : decode cX6_statement 89 = .ok (.iload_n 3, 1) := by decide +kernel
theorem dX6_statement_90 : decode cX6_statement 90 = .ok (.aload_n 0, 1) := by decide +kernel
theorem dX6_statement_91 : decode cX6_statement 91 = .ok (.getfield 44, 3) := by decide +kernel
theorem dX6_statement_94 : decode cX6_statement 94 = .ok (.bipush 6, 2) := by decide +kernel
theorem dX6_statement_96 : decode cX6_statement 96 = .ok (.iload 4, 2) := by decide +kernel
theorem dX6_statement_98 : decode cX6_statement 98 = .ok (.imul, 1) := by decide +kernel
theorem dX6_statement_99 : decode cX6_statement 99 = .ok (.iconst 5, 1) := by decide +kernel
theorem dX6_statement_100 : decode cX6_statement 100 = .ok (.iadd, 1) := by decide +kernel
theorem dX6_statement_101 : decode cX6_statement 101 = .ok (.iaload, 1) := by decide +kernel
theorem dX6_statement_102 : decode cX6_statement 102 = .ok (.iload_n 1, 1) := by decide +kernel
theorem dX6_statement_103 : decode cX6_statement 103 = .ok (.if_icmp .ne 7, 3) := by decide +kernel
theorem dX6_statement_106 : decode cX6_statement 106 = .ok (.iconst 1, 1) := by decide +kernel
theorem dX6_statement_107 : decode cX6_statement 107 = .ok (.goto 4, 3) := by decide +kernel
theorem dX6_statement_110 : decode cX6_statement 110 = .ok (.iconst 0, 1) := by decide +kernel
theorem dX6_statement_111 : decode cX6_statement 111 = .ok (.iadd, 1) := by decide +kernel
theorem dX6_statement_112 : decode cX6_statement 112 = .ok (.istore_n 3, 1) := by decide +kernel
theorem dX6_statement_113 : decode cX6_statement 113 = .ok (.iinc 4 1, 3) := by decide +kernel
theorem dX6_statement_116 : decode cX6_statement 116 = .ok (.goto (-36), 3) := by decide +kernel
theorem dX6_statement_119 : decode cX6_statement 119 = .ok (.iload_n 3, 1) := by decide +kernel
theorem dX6_statement_120 : decode cX6_statement 120 = .ok (.ireturn, 1) := by decide +kernel
theorem dX6_begin_0 : decode cX6_begin 0 = .ok (.iconst 0, 1) := by decide +kernel
theorem dX6_begin_1 : decode cX6_begin 1 = .ok (.istore_n 1, 1) := by decide +kernel
theorem dX6_begin_2 : decode cX6_begin 2 = .ok (.iload_n 1, 1) := by decide +kernel
theorem dX6_begin_3 : decode cX6_begin 3 = .ok (.bipush 16, 2) := by decide +kernel
theorem dX6_begin_5 : decode cX6_begin 5 = .ok (.if_icmp .ge 21, 3) := by decide +kernel
theorem dX6_begin_8 : decode cX6_begin 8 = .ok (.aload_n 0, 1) := by decide +kernel
theorem dX6_begin_9 : decode cX6_begin 9 = .ok (.getfield 96, 3) := by decide +kernel
theorem dX6_begin_12 : decode cX6_begin 12 = .ok (.iload_n 1, 1) := by decide +kernel
theorem dX6_begin_13 : decode cX6_begin 13 = .ok (.aload_n 0, 1) := by decide +kernel
theorem dX6_begin_14 : decode cX6_begin 14 = .ok (.getfield 7, 3) := by decide +kernel
theorem dX6_begin_17 : decode cX6_begin 17 = .ok (.iload_n 1, 1) := by decide +kernel
theorem dX6_begin_18 : decode cX6_begin 18 = .ok (.iaload, 1) := by decide +kernel
theorem dX6_begin_19 : decode cX6_begin 19 = .ok (.iastore, 1) := by decide +kernel
theorem dX6_begin_20 : decode cX6_begin 20 = .ok (.iinc 1 1, 3) := by decide +kernel
theorem dX6_begin_23 : decode cX6_begin 23 = .ok (.goto (-21), 3) := by decide +kernel
theorem dX6_begin_26 : decode cX6_begin 26 = .ok (.iconst 0, 1) := by decide +kernel
theorem dX6_begin_27 : decode cX6_begin 27 = .ok (.istore_n 1, 1) := by decide +kernel
theorem dX6_begin_28 : decode cX6_begin 28 = .ok (.iload_n 1, 1) := by decide +kernel
theorem dX6_begin_29 : decode cX6_begin 29 = .ok (.bipush 32, 2) := by decide +kernel
theorem dX6_begin_31 : decode cX6_begin 31 = .ok (.if_icmp .ge 21, 3) := by decide +kernel
theorem dX6_begin_34 : decode cX6_begin 34 = .ok (.aload_n 0, 1) := by decide +kernel
theorem dX6_begin_35 : decode cX6_begin 35 = .ok (.getfield 87, 3) := by decide +kernel
theorem dX6_begin_38 : decode cX6_begin 38 = .ok (.iload_n 1, 1) := by decide +kernel
theorem dX6_begin_39 : decode cX6_begin 39 = .ok (.aload_n 0, 1) := by decide +kernel
theorem dX6_begin_40 : decode cX6_begin 40 = .ok (.getfield 13, 3) := by decide +kernel
theorem dX6_begin_43 : decode cX6_begin 43 = .ok (.iload_n 1, 1) := by decide +kernel
theorem dX6_begin_44 : decode cX6_begin 44 = .ok (.iaload, 1) := by decide +kernel
theorem dX6_begin_45 : decode cX6_begin 45 = .ok (.iastore, 1) := by decide +kernel
theorem dX6_begin_46 : decode cX6_begin 46 = .ok (.iinc 1 1, 3) := by decide +kernel
theorem dX6_begin_49 : decode cX6_begin 49 = .ok (.goto (-21), 3) := by decide +kernel
theorem dX6_begin_52 : decode cX6_begin 52 = .ok (.aload_n 0, 1) := by decide +kernel
theorem dX6_begin_53 : decode cX6_begin 53 = .ok (.iconst 0, 1) := by decide +kernel
theorem dX6_begin_54 : decode cX6_begin 54 = .ok (.putfield 282, 3) := by decide +kernel
theorem dX6_begin_57 : decode cX6_begin 57 = .ok (.aload_n 0, 1) := by decide +kernel
theorem dX6_begin_58 : decode cX6_begin 58 = .ok (.iconst (-1), 1) := by decide +kernel
theorem dX6_begin_59 : decode cX6_begin 59 = .ok (.putfield 93, 3) := by decide +kernel
theorem dX6_begin_62 : decode cX6_begin 62 = .ok (.aload_n 0, 1) := by decide +kernel
theorem dX6_begin_63 : decode cX6_begin 63 = .ok (.iconst 0, 1) := by decide +kernel
theorem dX6_begin_64 : decode cX6_begin 64 = .ok (.putfield 285, 3) := by decide +kernel
theorem dX6_begin_67 : decode cX6_begin 67 = .ok (.aload_n 0, 1) := by decide +kernel
theorem dX6_begin_68 : decode cX6_begin 68 = .ok (.iconst 0, 1) := by decide +kernel
theorem dX6_begin_69 : decode cX6_begin 69 = .ok (.putfield 288, 3) := by decide +kernel
theorem dX6_begin_72 : decode cX6_begin 72 = .ok (.return_, 1) := by decide +kernel
theorem dX6_leave_0 : decode cX6_leave 0 = .ok (.iconst 0, 1) := by decide +kernel
theorem dX6_leave_1 : decode cX6_leave 1 = .ok (.istore_n 1, 1) := by decide +kernel
theorem dX6_leave_2 : decode cX6_leave 2 = .ok (.iload_n 1, 1) := by decide +kernel
theorem dX6_leave_3 : decode cX6_leave 3 = .ok (.bipush 16, 2) := by decide +kernel
theorem dX6_leave_5 : decode cX6_leave 5 = .ok (.if_icmp .ge 21, 3) := by decide +kernel
theorem dX6_leave_8 : decode cX6_leave 8 = .ok (.aload_n 0, 1) := by decide +kernel
theorem dX6_leave_9 : decode cX6_leave 9 = .ok (.getfield 84, 3) := by decide +kernel
theorem dX6_leave_12 : decode cX6_leave 12 = .ok (.iload_n 1, 1) := by decide +kernel
theorem dX6_leave_13 : decode cX6_leave 13 = .ok (.aload_n 0, 1) := by decide +kernel
theorem dX6_leave_14 : decode cX6_leave 14 = .ok (.getfield 96, 3) := by decide +kernel
theorem dX6_leave_17 : decode cX6_leave 17 = .ok (.iload_n 1, 1) := by decide +kernel
theorem dX6_leave_18 : decode cX6_leave 18 = .ok (.iaload, 1) := by decide +kernel
theorem dX6_leave_19 : decode cX6_leave 19 = .ok (.iastore, 1) := by decide +kernel
theorem dX6_leave_20 : decode cX6_leave 20 = .ok (.iinc 1 1, 3) := by decide +kernel
theorem dX6_leave_23 : decode cX6_leave 23 = .ok (.goto (-21), 3) := by decide +kernel
theorem dX6_leave_26 : decode cX6_leave 26 = .ok (.return_, 1) := by decide +kernel
theorem dX6_stop_0 : decode cX6_stop 0 = .ok (.aload_n 0, 1) := by decide +kernel
theorem dX6_stop_1 : decode cX6_stop 1 = .ok (.iload_n 1, 1) := by decide +kernel
theorem dX6_stop_2 : decode cX6_stop 2 = .ok (.putfield 288, 3) := by decide +kernel
theorem dX6_stop_5 : decode cX6_stop 5 = .ok (.aload_n 0, 1) := by decide +kernel
theorem dX6_stop_6 : decode cX6_stop 6 = .ok (.iload_n 2, 1) := by decide +kernel
theorem dX6_stop_7 : decode cX6_stop 7 = .ok (.putfield 93, 3) := by decide +kernel
theorem dX6_stop_10 : decode cX6_stop 10 = .ok (.return_, 1) := by decide +kernel
theorem dX6_reach_0 : decode cX6_reach 0 = .ok (.iload_n 1, 1) := by decide +kernel
theorem dX6_reach_1 : decode cX6_reach 1 = .ok (.tableswitch 141 2 11 #[55, 59, 63, 67, 67, 107, 111, 115, 119, 130], 55) := by decide +kernel
theorem dX6_reach_56 : decode cX6_reach 56 = .ok (.iload_n 2, 1) := by decide +kernel
theorem dX6_reach_57 : decode cX6_reach 57 = .ok (.iload_n 3, 1) := by decide +kernel
theorem dX6_reach_58 : decode cX6_reach 58 = .ok (.iadd, 1) := by decide +kernel
theorem dX6_reach_59 : decode cX6_reach 59 = .ok (.ireturn, 1) := by decide +kernel
theorem dX6_reach_60 : decode cX6_reach 60 = .ok (.iload_n 2, 1) := by decide +kernel
theorem dX6_reach_61 : decode cX6_reach 61 = .ok (.iload_n 3, 1) := by decide +kernel
theorem dX6_reach_62 : decode cX6_reach 62 = .ok (.isub, 1) := by decide +kernel
theorem dX6_reach_63 : decode cX6_reach 63 = .ok (.ireturn, 1) := by decide +kernel
theorem dX6_reach_64 : decode cX6_reach 64 = .ok (.iload_n 2, 1) := by decide +kernel
theorem dX6_reach_65 : decode cX6_reach 65 = .ok (.iload_n 3, 1) := by decide +kernel
theorem dX6_reach_66 : decode cX6_reach 66 = .ok (.imul, 1) := by decide +kernel
theorem dX6_reach_67 : decode cX6_reach 67 = .ok (.ireturn, 1) := by decide +kernel
theorem dX6_reach_68 : decode cX6_reach 68 = .ok (.iload_n 3, 1) := by decide +kernel
theorem dX6_reach_69 : decode cX6_reach 69 = .ok (.ifCond .ne 12, 3) := by decide +kernel
theorem dX6_reach_72 : decode cX6_reach 72 = .ok (.aload_n 0, 1) := by decide +kernel
theorem dX6_reach_73 : decode cX6_reach 73 = .ok (.iconst 1, 1) := by decide +kernel
theorem dX6_reach_74 : decode cX6_reach 74 = .ok (.iload 4, 2) := by decide +kernel
theorem dX6_reach_76 : decode cX6_reach 76 = .ok (.invokevirtual 291, 3) := by decide +kernel
theorem dX6_reach_79 : decode cX6_reach 79 = .ok (.iconst 0, 1) := by decide +kernel
theorem dX6_reach_80 : decode cX6_reach 80 = .ok (.ireturn, 1) := by decide +kernel
theorem dX6_reach_81 : decode cX6_reach 81 = .ok (.iload_n 2, 1) := by decide +kernel
theorem dX6_reach_82 : decode cX6_reach 82 = .ok (.i2l, 1) := by decide +kernel
theorem dX6_reach_83 : decode cX6_reach 83 = .ok (.iload_n 3, 1) := by decide +kernel
theorem dX6_reach_84 : decode cX6_reach 84 = .ok (.i2l, 1) := by decide +kernel
theorem dX6_reach_85 : decode cX6_reach 85 = .ok (.ldiv, 1) := by decide +kernel
theorem dX6_reach_86 : decode cX6_reach 86 = .ok (.lstore 5, 2) := by decide +kernel
theorem dX6_reach_88 : decode cX6_reach 88 = .ok (.iload_n 1, 1) := by decide +kernel
theorem dX6_reach_89 : decode cX6_reach 89 = .ok (.iconst 5, 1) := by decide +kernel
theorem dX6_reach_90 : decode cX6_reach 90 = .ok (.if_icmp .ne 8, 3) := by decide +kernel
theorem dX6_reach_93 : decode cX6_reach 93 = .ok (.lload 5, 2) := by decide +kernel
theorem dX6_reach_95 : decode cX6_reach 95 = .ok (.goto 11, 3) := by decide +kernel
theorem dX6_reach_98 : decode cX6_reach 98 = .ok (.iload_n 2, 1) := by decide +kernel
theorem dX6_reach_99 : decode cX6_reach 99 = .ok (.i2l, 1) := by decide +kernel
theorem dX6_reach_100 : decode cX6_reach 100 = .ok (.lload 5, 2) := by decide +kernel
theorem dX6_reach_102 : decode cX6_reach 102 = .ok (.iload_n 3, 1) := by decide +kernel
theorem dX6_reach_103 : decode cX6_reach 103 = .ok (.i2l, 1) := by decide +kernel
theorem dX6_reach_104 : decode cX6_reach 104 = .ok (.lmul, 1) := by decide +kernel
theorem dX6_reach_105 : decode cX6_reach 105 = .ok (.lsub, 1) := by decide +kernel
theorem dX6_reach_106 : decode cX6_reach 106 = .ok (.l2i, 1) := by decide +kernel
theorem dX6_reach_107 : decode cX6_reach 107 = .ok (.ireturn, 1) := by decide +kernel
theorem dX6_reach_108 : decode cX6_reach 108 = .ok (.iload_n 2, 1) := by decide +kernel
theorem dX6_reach_109 : decode cX6_reach 109 = .ok (.iload_n 3, 1) := by decide +kernel
theorem dX6_reach_110 : decode cX6_reach 110 = .ok (.iand, 1) := by decide +kernel
theorem dX6_reach_111 : decode cX6_reach 111 = .ok (.ireturn, 1) := by decide +kernel
theorem dX6_reach_112 : decode cX6_reach 112 = .ok (.iload_n 2, 1) := by decide +kernel
theorem dX6_reach_113 : decode cX6_reach 113 = .ok (.iload_n 3, 1) := by decide +kernel
theorem dX6_reach_114 : decode cX6_reach 114 = .ok (.ior, 1) := by decide +kernel
theorem dX6_reach_115 : decode cX6_reach 115 = .ok (.ireturn, 1) := by decide +kernel
theorem dX6_reach_116 : decode cX6_reach 116 = .ok (.iload_n 2, 1) := by decide +kernel
theorem dX6_reach_117 : decode cX6_reach 117 = .ok (.iload_n 3, 1) := by decide +kernel
theorem dX6_reach_118 : decode cX6_reach 118 = .ok (.ixor, 1) := by decide +kernel
theorem dX6_reach_119 : decode cX6_reach 119 = .ok (.ireturn, 1) := by decide +kernel
theorem dX6_reach_120 : decode cX6_reach 120 = .ok (.iload_n 2, 1) := by decide +kernel
theorem dX6_reach_121 : decode cX6_reach 121 = .ok (.iload_n 3, 1) := by decide +kernel
theorem dX6_reach_122 : decode cX6_reach 122 = .ok (.if_icmp .ne 7, 3) := by decide +kernel
theorem dX6_reach_125 : decode cX6_reach 125 = .ok (.iconst 1, 1) := by decide +kernel
theorem dX6_reach_126 : decode cX6_reach 126 = .ok (.goto 4, 3) := by decide +kernel
theorem dX6_reach_129 : decode cX6_reach 129 = .ok (.iconst 0, 1) := by decide +kernel
theorem dX6_reach_130 : decode cX6_reach 130 = .ok (.ireturn, 1) := by decide +kernel
theorem dX6_reach_131 : decode cX6_reach 131 = .ok (.iload_n 2, 1) := by decide +kernel
theorem dX6_reach_132 : decode cX6_reach 132 = .ok (.iload_n 3, 1) := by decide +kernel
theorem dX6_reach_133 : decode cX6_reach 133 = .ok (.if_icmp .eq 7, 3) := by decide +kernel
theorem dX6_reach_136 : decode cX6_reach 136 = .ok (.iconst 1, 1) := by decide +kernel
theorem dX6_reach_137 : decode cX6_reach 137 = .ok (.goto 4, 3) := by decide +kernel
theorem dX6_reach_140 : decode cX6_reach 140 = .ok (.iconst 0, 1) := by decide +kernel
theorem dX6_reach_141 : decode cX6_reach 141 = .ok (.ireturn, 1) := by decide +kernel
theorem dX6_reach_142 : decode cX6_reach 142 = .ok (.iload_n 2, 1) := by decide +kernel
theorem dX6_reach_143 : decode cX6_reach 143 = .ok (.iload_n 3, 1) := by decide +kernel
theorem dX6_reach_144 : decode cX6_reach 144 = .ok (.if_icmp .ge 7, 3) := by decide +kernel
theorem dX6_reach_147 : decode cX6_reach 147 = .ok (.iconst 1, 1) := by decide +kernel
theorem dX6_reach_148 : decode cX6_reach 148 = .ok (.goto 4, 3) := by decide +kernel
theorem dX6_reach_151 : decode cX6_reach 151 = .ok (.iconst 0, 1) := by decide +kernel
theorem dX6_reach_152 : decode cX6_reach 152 = .ok (.ireturn, 1) := by decide +kernel
theorem dX6_isWord_0 : decode cX6_isWord 0 = .ok (.iload_n 1, 1) := by decide +kernel
theorem dX6_isWord_1 : decode cX6_isWord 1 = .ok (.i2l, 1) := by decide +kernel
theorem dX6_isWord_2 : decode cX6_isWord 2 = .ok (.lconst 0, 1) := by decide +kernel
theorem dX6_isWord_3 : decode cX6_isWord 3 = .ok (.ldc2_w 115, 3) := by decide +kernel
theorem dX6_isWord_6 : decode cX6_isWord 6 = .ok (.invokestatic 107, 3) := by decide +kernel
theorem dX6_isWord_9 : decode cX6_isWord 9 = .ok (.istore_n 3, 1) := by decide +kernel
theorem dX6_isWord_10 : decode cX6_isWord 10 = .ok (.iload_n 3, 1) := by decide +kernel
theorem dX6_isWord_11 : decode cX6_isWord 11 = .ok (.ifCond .ne 9, 3) := by decide +kernel
theorem dX6_isWord_14 : decode cX6_isWord 14 = .ok (.aload_n 0, 1) := by decide +kernel
theorem dX6_isWord_15 : decode cX6_isWord 15 = .ok (.iconst 2, 1) := by decide +kernel
theorem dX6_isWord_16 : decode cX6_isWord 16 = .ok (.iload_n 2, 1) := by decide +kernel
theorem dX6_isWord_17 : decode cX6_isWord 17 = .ok (.invokevirtual 291, 3) := by decide +kernel
theorem dX6_isWord_20 : decode cX6_isWord 20 = .ok (.iload_n 3, 1) := by decide +kernel
theorem dX6_isWord_21 : decode cX6_isWord 21 = .ok (.ireturn, 1) := by decide +kernel
theorem dX6_toldValue_0 : decode cX6_toldValue 0 = .ok (.aload_n 0, 1) := by decide +kernel
theorem dX6_toldValue_1 : decode cX6_toldValue 1 = .ok (.iload_n 1, 1) := by decide +kernel
theorem dX6_toldValue_2 : decode cX6_toldValue 2 = .ok (.iload_n 2, 1) := by decide +kernel
theorem dX6_toldValue_3 : decode cX6_toldValue 3 = .ok (.invokevirtual 212, 3) := by decide +kernel
theorem dX6_toldValue_6 : decode cX6_toldValue 6 = .ok (.iconst 1, 1) := by decide +kernel
theorem dX6_toldValue_7 : decode cX6_toldValue 7 = .ok (.if_icmp .ne 19, 3) := by decide +kernel
theorem dX6_toldValue_10 : decode cX6_toldValue 10 = .ok (.aload_n 0, 1) := by decide +kernel
theorem dX6_toldValue_11 : decode cX6_toldValue 11 = .ok (.getfield 96, 3) := by decide +kernel
theorem dX6_toldValue_14 : decode cX6_toldValue 14 = .ok (.aload_n 0, 1) := by decide +kernel
theorem dX6_toldValue_15 : decode cX6_toldValue 15 = .ok (.iload_n 1, 1) := by decide +kernel
theorem dX6_toldValue_16 : decode cX6_toldValue 16 = .ok (.iload_n 2, 1) := by decide +kernel
theorem dX6_toldValue_17 : decode cX6_toldValue 17 = .ok (.iconst 1, 1) := by decide +kernel
theorem dX6_toldValue_18 : decode cX6_toldValue 18 = .ok (.iadd, 1) := by decide +kernel
theorem dX6_toldValue_19 : decode cX6_toldValue 19 = .ok (.invokevirtual 212, 3) := by decide +kernel
theorem dX6_toldValue_22 : decode cX6_toldValue 22 = .ok (.iaload, 1) := by decide +kernel
theorem dX6_toldValue_23 : decode cX6_toldValue 23 = .ok (.goto 11, 3) := by decide +kernel
theorem dX6_toldValue_26 : decode cX6_toldValue 26 = .ok (.aload_n 0, 1) := by decide +kernel
theorem dX6_toldValue_27 : decode cX6_toldValue 27 = .ok (.iload_n 1, 1) := by decide +kernel
theorem dX6_toldValue_28 : decode cX6_toldValue 28 = .ok (.iload_n 2, 1) := by decide +kernel
theorem dX6_toldValue_29 : decode cX6_toldValue 29 = .ok (.iconst 1, 1) := by decide +kernel
theorem dX6_toldValue_30 : decode cX6_toldValue 30 = .ok (.iadd, 1) := by decide +kernel
theorem dX6_toldValue_31 : decode cX6_toldValue 31 = .ok (.invokevirtual 212, 3) := by decide +kernel
theorem dX6_toldValue_34 : decode cX6_toldValue 34 = .ok (.ireturn, 1) := by decide +kernel
theorem dX6_doStatement_0 : decode cX6_doStatement 0 = .ok (.aload_n 0, 1) := by decide +kernel
theorem dX6_doStatement_1 : decode cX6_doStatement 1 = .ok (.iload_n 1, 1) := by decide +kernel
theorem dX6_doStatement_2 : decode cX6_doStatement 2 = .ok (.iconst 3, 1) := by decide +kernel
theorem dX6_doStatement_3 : decode cX6_doStatement 3 = .ok (.invokevirtual 294, 3) := by decide +kernel
theorem dX6_doStatement_6 : decode cX6_doStatement 6 = .ok (.istore_n 2, 1) := by decide +kernel
theorem dX6_doStatement_7 : decode cX6_doStatement 7 = .ok (.aload_n 0, 1) := by decide +kernel
theorem dX6_doStatement_8 : decode cX6_doStatement 8 = .ok (.iload_n 1, 1) := by decide +kernel
theorem dX6_doStatement_9 : decode cX6_doStatement 9 = .ok (.iconst 5, 1) := by decide +kernel
theorem dX6_doStatement_10 : decode cX6_doStatement 10 = .ok (.invokevirtual 294, 3) := by decide +kernel
theorem dX6_doStatement_13 : decode cX6_doStatement 13 = .ok (.istore_n 3, 1) := by decide +kernel
theorem dX6_doStatement_14 : decode cX6_doStatement 14 = .ok (.aload_n 0, 1) := by decide +kernel
theorem dX6_doStatement_15 : decode cX6_doStatement 15 = .ok (.iload_n 1, 1) := by decide +kernel
theorem dX6_doStatement_16 : decode cX6_doStatement 16 = .ok (.iconst 1, 1) := by decide +kernel
theorem dX6_doStatement_17 : decode cX6_doStatement 17 = .ok (.invokevirtual 212, 3) := by decide +kernel
theorem dX6_doStatement_20 : decode cX6_doStatement 20 = .ok (.istore 4, 2) := by decide +kernel
theorem dX6_doStatement_22 : decode cX6_doStatement 22 = .ok (.aload_n 0, 1) := by decide +kernel
theorem dX6_doStatement_23 : decode cX6_doStatement 23 = .ok (.iload_n 1, 1) := by decide +kernel
theorem dX6_doStatement_24 : decode cX6_doStatement 24 = .ok (.iconst 0, 1) := by decide +kernel
theorem dX6_doStatement_25 : decode cX6_doStatement 25 = .ok (.invokevirtual 212, 3) := by decide +kernel
theorem dX6_doStatement_28 : decode cX6_doStatement 28 = .ok (.tableswitch 158 0 4 #[36, 47, 91, 116, 135], 36) := by decide +kernel
theorem dX6_doStatement_64 : decode cX6_doStatement 64 = .ok (.aload_n 0, 1) := by decide +kernel
theorem dX6_doStatement_65 : decode cX6_doStatement 65 = .ok (.getfield 96, 3) := by decide +kernel
theorem dX6_doStatement_68 : decode cX6_doStatement 68 = .ok (.iload 4, 2) := by decide +kernel
theorem dX6_doStatement_70 : decode cX6_doStatement 70 = .ok (.iload_n 2, 1) := by decide +kernel
theorem dX6_doStatement_71 : decode cX6_doStatement 71 = .ok (.iastore, 1) := by decide +kernel
theorem dX6_doStatement_72 : decode cX6_doStatement 72 = .ok (.goto 164, 3) := by decide +kernel
theorem dX6_doStatement_75 : decode cX6_doStatement 75 = .ok (.aload_n 0, 1) := by decide +kernel
theorem dX6_doStatement_76 : decode cX6_doStatement 76 = .ok (.aload_n 0, 1) := by decide +kernel
theorem dX6_doStatement_77 : decode cX6_doStatement 77 = .ok (.iload_n 1, 1) := by decide +kernel
theorem dX6_doStatement_78 : decode cX6_doStatement 78 = .ok (.iconst 2, 1) := by decide +kernel
theorem dX6_doStatement_79 : decode cX6_doStatement 79 = .ok (.invokevirtual 212, 3) := by decide +kernel
theorem dX6_doStatement_82 : decode cX6_doStatement 82 = .ok (.iload_n 2, 1) := by decide +kernel
theorem dX6_doStatement_83 : decode cX6_doStatement 83 = .ok (.iload_n 3, 1) := by decide +kernel
theorem dX6_doStatement_84 : decode cX6_doStatement 84 = .ok (.iload_n 1, 1) := by decide +kernel
theorem dX6_doStatement_85 : decode cX6_doStatement 85 = .ok (.invokevirtual 297, 3) := by decide +kernel
theorem dX6_doStatement_88 : decode cX6_doStatement 88 = .ok (.istore 5, 2) := by decide +kernel
theorem dX6_doStatement_90 : decode cX6_doStatement 90 = .ok (.aload_n 0, 1) := by decide +kernel
theorem dX6_doStatement_91 : decode cX6_doStatement 91 = .ok (.getfield 96, 3) := by decide +kernel
theorem dX6_doStatement_94 : decode cX6_doStatement 94 = .ok (.iload 4, 2) := by decide +kernel
theorem dX6_doStatement_96 : decode cX6_doStatement 96 = .ok (.aload_n 0, 1) := by decide +kernel
theorem dX6_doStatement_97 : decode cX6_doStatement 97 = .ok (.getfield 288, 3) := by decide +kernel
theorem dX6_doStatement_100 : decode cX6_doStatement 100 = .ok (.ifCond .ne 8, 3) := by decide +kernel
theorem dX6_doStatement_103 : decode cX6_doStatement 103 = .ok (.iload 5, 2) := by decide +kernel
theorem dX6_doStatement_105 : decode cX6_doStatement 105 = .ok (.goto 10, 3) := by decide +kernel
theorem dX6_doStatement_108 : decode cX6_doStatement 108 = .ok (.aload_n 0, 1) := by decide +kernel
theorem dX6_doStatement_109 : decode cX6_doStatement 109 = .ok (.getfield 96, 3) := by decide +kernel
theorem dX6_doStatement_112 : decode cX6_doStatement 112 = .ok (.iload 4, 2) := by decide +kernel
theorem dX6_doStatement_114 : decode cX6_doStatement 114 = .ok (.iaload, 1) := by decide +kernel
theorem dX6_doStatement_115 : decode cX6_doStatement 115 = .ok (.iastore, 1) := by decide +kernel
theorem dX6_doStatement_116 : decode cX6_doStatement 116 = .ok (.goto 120, 3) := by decide +kernel
theorem dX6_doStatement_119 : decode cX6_doStatement 119 = .ok (.aload_n 0, 1) := by decide +kernel
theorem dX6_doStatement_120 : decode cX6_doStatement 120 = .ok (.iload_n 2, 1) := by decide +kernel
theorem dX6_doStatement_121 : decode cX6_doStatement 121 = .ok (.iload_n 1, 1) := by decide +kernel
theorem dX6_doStatement_122 : decode cX6_doStatement 122 = .ok (.invokevirtual 301, 3) := by decide +kernel
theorem dX6_doStatement_125 : decode cX6_doStatement 125 = .ok (.ifCond .eq 111, 3) := by decide +kernel
theorem dX6_doStatement_128 : decode cX6_doStatement 128 = .ok (.aload_n 0, 1) := by decide +kernel
theorem dX6_doStatement_129 : decode cX6_doStatement 129 = .ok (.getfield 96, 3) := by decide +kernel
theorem dX6_doStatement_132 : decode cX6_doStatement 132 = .ok (.iload 4, 2) := by decide +kernel
theorem dX6_doStatement_134 : decode cX6_doStatement 134 = .ok (.aload_n 0, 1) := by decide +kernel
theorem dX6_doStatement_135 : decode cX6_doStatement 135 = .ok (.getfield 87, 3) := by decide +kernel
theorem dX6_doStatement_138 : decode cX6_doStatement 138 = .ok (.iload_n 2, 1) := by decide +kernel
theorem dX6_doStatement_139 : decode cX6_doStatement 139 = .ok (.iaload, 1) := by decide +kernel
theorem dX6_doStatement_140 : decode cX6_doStatement 140 = .ok (.iastore, 1) := by decide +kernel
theorem dX6_doStatement_141 : decode cX6_doStatement 141 = .ok (.goto 95, 3) := by decide +kernel
theorem dX6_doStatement_144 : decode cX6_doStatement 144 = .ok (.aload_n 0, 1) := by decide +kernel
theorem dX6_doStatement_145 : decode cX6_doStatement 145 = .ok (.iload_n 2, 1) := by decide +kernel
theorem dX6_doStatement_146 : decode cX6_doStatement 146 = .ok (.iload_n 1, 1) := by decide +kernel
theorem dX6_doStatement_147 : decode cX6_doStatement 147 = .ok (.invokevirtual 301, 3) := by decide +kernel
theorem dX6_doStatement_150 : decode cX6_doStatement 150 = .ok (.ifCond .eq 86, 3) := by decide +kernel
theorem dX6_doStatement_153 : decode cX6_doStatement 153 = .ok (.aload_n 0, 1) := by decide +kernel
theorem dX6_doStatement_154 : decode cX6_doStatement 154 = .ok (.getfield 87, 3) := by decide +kernel
theorem dX6_doStatement_157 : decode cX6_doStatement 157 = .ok (.iload_n 2, 1) := by decide +kernel
theorem dX6_doStatement_158 : decode cX6_doStatement 158 = .ok (.iload_n 3, 1) := by decide +kernel
theorem dX6_doStatement_159 : decode cX6_doStatement 159 = .ok (.iastore, 1) := by decide +kernel
theorem dX6_doStatement_160 : decode cX6_doStatement 160 = .ok (.goto 76, 3) := by decide +kernel
theorem dX6_doStatement_163 : decode cX6_doStatement 163 = .ok (.aload_n 0, 1) := by decide +kernel
theorem dX6_doStatement_164 : decode cX6_doStatement 164 = .ok (.getfield 90, 3) := by decide +kernel
theorem dX6_doStatement_167 : decode cX6_doStatement 167 = .ok (.aload_n 0, 1) := by decide +kernel
theorem dX6_doStatement_168 : decode cX6_doStatement 168 = .ok (.getfield 282, 3) := by decide +kernel
theorem dX6_doStatement_171 : decode cX6_doStatement 171 = .ok (.iload_n 2, 1) := by decide +kernel
theorem dX6_doStatement_172 : decode cX6_doStatement 172 = .ok (.iastore, 1) := by decide +kernel
theorem dX6_doStatement_173 : decode cX6_doStatement 173 = .ok (.aload_n 0, 1) := by decide +kernel
theorem dX6_doStatement_174 : decode cX6_doStatement 174 = .ok (.dup, 1) := by decide +kernel
theorem dX6_doStatement_175 : decode cX6_doStatement 175 = .ok (.getfield 282, 3) := by decide +kernel
theorem dX6_doStatement_178 : decode cX6_doStatement 178 = .ok (.iconst 1, 1) := by decide +kernel
theorem dX6_doStatement_179 : decode cX6_doStatement 179 = .ok (.iadd, 1) := by decide +kernel
theorem dX6_doStatement_180 : decode cX6_doStatement 180 = .ok (.putfield 282, 3) := by decide +kernel
theorem dX6_doStatement_183 : decode cX6_doStatement 183 = .ok (.goto 53, 3) := by decide +kernel
theorem dX6_doStatement_186 : decode cX6_doStatement 186 = .ok (.aload_n 0, 1) := by decide +kernel
theorem dX6_doStatement_187 : decode cX6_doStatement 187 = .ok (.getfield 99, 3) := by decide +kernel
theorem dX6_doStatement_190 : decode cX6_doStatement 190 = .ok (.iload_n 1, 1) := by decide +kernel
theorem dX6_doStatement_191 : decode cX6_doStatement 191 = .ok (.aload_n 0, 1) := by decide +kernel
theorem dX6_doStatement_192 : decode cX6_doStatement 192 = .ok (.aload_n 0, 1) := by decide +kernel
theorem dX6_doStatement_193 : decode cX6_doStatement 193 = .ok (.iload_n 1, 1) := by decide +kernel
theorem dX6_doStatement_194 : decode cX6_doStatement 194 = .ok (.iconst 2, 1) := by decide +kernel
theorem dX6_doStatement_195 : decode cX6_doStatement 195 = .ok (.invokevirtual 212, 3) := by decide +kernel
theorem dX6_doStatement_198 : decode cX6_doStatement 198 = .ok (.iload_n 2, 1) := by decide +kernel
theorem dX6_doStatement_199 : decode cX6_doStatement 199 = .ok (.iload_n 3, 1) := by decide +kernel
theorem dX6_doStatement_200 : decode cX6_doStatement 200 = .ok (.iload_n 1, 1) := by decide +kernel
theorem dX6_doStatement_201 : decode cX6_doStatement 201 = .ok (.invokevirtual 297, 3) := by decide +kernel
theorem dX6_doStatement_204 : decode cX6_doStatement 204 = .ok (.iconst 1, 1) := by decide +kernel
theorem dX6_doStatement_205 : decode cX6_doStatement 205 = .ok (.if_icmp .ne 7, 3) := by decide +kernel
theorem dX6_doStatement_208 : decode cX6_doStatement 208 = .ok (.iconst 1, 1) := by decide +kernel
theorem dX6_doStatement_209 : decode cX6_doStatement 209 = .ok (.goto 4, 3) := by decide +kernel
theorem dX6_doStatement_212 : decode cX6_doStatement 212 = .ok (.iconst 0, 1) := by decide +kernel
theorem dX6_doStatement_213 : decode cX6_doStatement 213 = .ok (.bastore, 1) := by decide +kernel
theorem dX6_doStatement_214 : decode cX6_doStatement 214 = .ok (.aload_n 0, 1) := by decide +kernel
theorem dX6_doStatement_215 : decode cX6_doStatement 215 = .ok (.getfield 99, 3) := by decide +kernel
theorem dX6_doStatement_218 : decode cX6_doStatement 218 = .ok (.iload_n 1, 1) := by decide +kernel
theorem dX6_doStatement_219 : decode cX6_doStatement 219 = .ok (.baload, 1) := by decide +kernel
theorem dX6_doStatement_220 : decode cX6_doStatement 220 = .ok (.ifCond .eq 9, 3) := by decide +kernel
theorem dX6_doStatement_223 : decode cX6_doStatement 223 = .ok (.iload_n 1, 1) := by decide +kernel
theorem dX6_doStatement_224 : decode cX6_doStatement 224 = .ok (.iconst 1, 1) := by decide +kernel
theorem dX6_doStatement_225 : decode cX6_doStatement 225 = .ok (.iadd, 1) := by decide +kernel
theorem dX6_doStatement_226 : decode cX6_doStatement 226 = .ok (.goto 9, 3) := by decide +kernel
theorem dX6_doStatement_229 : decode cX6_doStatement 229 = .ok (.aload_n 0, 1) := by decide +kernel
theorem dX6_doStatement_230 : decode cX6_doStatement 230 = .ok (.getfield 31, 3) := by decide +kernel
theorem dX6_doStatement_233 : decode cX6_doStatement 233 = .ok (.iload_n 1, 1) := by decide +kernel
theorem dX6_doStatement_234 : decode cX6_doStatement 234 = .ok (.iaload, 1) := by decide +kernel
theorem dX6_doStatement_235 : decode cX6_doStatement 235 = .ok (.ireturn, 1) := by decide +kernel
theorem dX6_doStatement_236 : decode cX6_doStatement 236 = .ok (.iload_n 1, 1) := by decide +kernel
theorem dX6_doStatement_237 : decode cX6_doStatement 237 = .ok (.iconst 1, 1) := by decide +kernel
theorem dX6_doStatement_238 : decode cX6_doStatement 238 = .ok (.iadd, 1) := by decide +kernel
theorem dX6_doStatement_239 : decode cX6_doStatement 239 = .ok (.ireturn, 1) := by decide +kernel
theorem dX6_tell_0 : decode cX6_tell 0 = .ok (.aload_n 0, 1) := by decide +kernel
theorem dX6_tell_1 : decode cX6_tell 1 = .ok (.iconst 0, 1) := by decide +kernel
theorem dX6_tell_2 : decode cX6_tell 2 = .ok (.putfield 102, 3) := by decide +kernel
theorem dX6_tell_5 : decode cX6_tell 5 = .ok (.aload_n 0, 1) := by decide +kernel
theorem dX6_tell_6 : decode cX6_tell 6 = .ok (.invokevirtual 304, 3) := by decide +kernel
theorem dX6_tell_9 : decode cX6_tell 9 = .ok (.iconst 0, 1) := by decide +kernel
theorem dX6_tell_10 : decode cX6_tell 10 = .ok (.istore_n 1, 1) := by decide +kernel
theorem dX6_tell_11 : decode cX6_tell 11 = .ok (.iload_n 1, 1) := by decide +kernel
theorem dX6_tell_12 : decode cX6_tell 12 = .ok (.aload_n 0, 1) := by decide +kernel
theorem dX6_tell_13 : decode cX6_tell 13 = .ok (.getfield 192, 3) := by decide +kernel
theorem dX6_tell_16 : decode cX6_tell 16 = .ok (.if_icmp .ge 33, 3) := by decide +kernel
theorem dX6_tell_19 : decode cX6_tell 19 = .ok (.aload_n 0, 1) := by decide +kernel
theorem dX6_tell_20 : decode cX6_tell 20 = .ok (.getfield 288, 3) := by decide +kernel
theorem dX6_tell_23 : decode cX6_tell 23 = .ok (.ifCond .ne 26, 3) := by decide +kernel
theorem dX6_tell_26 : decode cX6_tell 26 = .ok (.aload_n 0, 1) := by decide +kernel
theorem dX6_tell_27 : decode cX6_tell 27 = .ok (.dup, 1) := by decide +kernel
theorem dX6_tell_28 : decode cX6_tell 28 = .ok (.getfield 285, 3) := by decide +kernel
theorem dX6_tell_31 : decode cX6_tell 31 = .ok (.iconst 1, 1) := by decide +kernel
theorem dX6_tell_32 : decode cX6_tell 32 = .ok (.iadd, 1) := by decide +kernel
theorem dX6_tell_33 : decode cX6_tell 33 = .ok (.putfield 285, 3) := by decide +kernel
theorem dX6_tell_36 : decode cX6_tell 36 = .ok (.aload_n 0, 1) := by decide +kernel
theorem dX6_tell_37 : decode cX6_tell 37 = .ok (.aload_n 0, 1) := by decide +kernel
theorem dX6_tell_38 : decode cX6_tell 38 = .ok (.iload_n 1, 1) := by decide +kernel
theorem dX6_tell_39 : decode cX6_tell 39 = .ok (.invokevirtual 307, 3) := by decide +kernel
theorem dX6_tell_42 : decode cX6_tell 42 = .ok (.invokevirtual 310, 3) := by decide +kernel
theorem dX6_tell_45 : decode cX6_tell 45 = .ok (.istore_n 1, 1) := by decide +kernel
theorem dX6_tell_46 : decode cX6_tell 46 = .ok (.goto (-35), 3) := by decide +kernel
theorem dX6_tell_49 : decode cX6_tell 49 = .ok (.aload_n 0, 1) := by decide +kernel
theorem dX6_tell_50 : decode cX6_tell 50 = .ok (.invokevirtual 313, 3) := by decide +kernel
theorem dX6_tell_53 : decode cX6_tell 53 = .ok (.aload_n 0, 1) := by decide +kernel
theorem dX6_tell_54 : decode cX6_tell 54 = .ok (.getfield 288, 3) := by decide +kernel
theorem dX6_tell_57 : decode cX6_tell 57 = .ok (.ireturn, 1) := by decide +kernel
theorem dX6_behind_0 : decode cX6_behind 0 = .ok (.iload_n 1, 1) := by decide +kernel
theorem dX6_behind_1 : decode cX6_behind 1 = .ok (.istore_n 2, 1) := by decide +kernel
theorem dX6_behind_2 : decode cX6_behind 2 = .ok (.iconst 1, 1) := by decide +kernel
theorem dX6_behind_3 : decode cX6_behind 3 = .ok (.istore_n 3, 1) := by decide +kernel
theorem dX6_behind_4 : decode cX6_behind 4 = .ok (.iload_n 3, 1) := by decide +kernel
theorem dX6_behind_5 : decode cX6_behind 5 = .ok (.ifCond .eq 83, 3) := by decide +kernel
theorem dX6_behind_8 : decode cX6_behind 8 = .ok (.iconst 0, 1) := by decide +kernel
theorem dX6_behind_9 : decode cX6_behind 9 = .ok (.istore_n 3, 1) := by decide +kernel
theorem dX6_behind_10 : decode cX6_behind 10 = .ok (.iconst 0, 1) := by decide +kernel
theorem dX6_behind_11 : decode cX6_behind 11 = .ok (.istore 4, 2) := by decide +kernel
theorem dX6_behind_13 : decode cX6_behind 13 = .ok (.iload 4, 2) := by decide +kernel
theorem dX6_behind_15 : decode cX6_behind 15 = .ok (.aload_n 0, 1) := by decide +kernel
theorem dX6_behind_16 : decode cX6_behind 16 = .ok (.getfield 192, 3) := by decide +kernel
theorem dX6_behind_19 : decode cX6_behind 19 = .ok (.if_icmp .ge 66, 3) := by decide +kernel
theorem dX6_behind_22 : decode cX6_behind 22 = .ok (.iload_n 3, 1) := by decide +kernel
theorem dX6_behind_23 : decode cX6_behind 23 = .ok (.ifCond .ne 62, 3) := by decide +kernel
theorem dX6_behind_26 : decode cX6_behind 26 = .ok (.aload_n 0, 1) := by decide +kernel
theorem dX6_behind_27 : decode cX6_behind 27 = .ok (.iload 4, 2) := by decide +kernel
theorem dX6_behind_29 : decode cX6_behind 29 = .ok (.iconst 0, 1) := by decide +kernel
theorem dX6_behind_30 : decode cX6_behind 30 = .ok (.invokevirtual 212, 3) := by decide +kernel
theorem dX6_behind_33 : decode cX6_behind 33 = .ok (.iconst 5, 1) := by decide +kernel
theorem dX6_behind_34 : decode cX6_behind 34 = .ok (.if_icmp .ne 45, 3) := by decide +kernel
theorem dX6_behind_37 : decode cX6_behind 37 = .ok (.aload_n 0, 1) := by decide +kernel
theorem dX6_behind_38 : decode cX6_behind 38 = .ok (.getfield 31, 3) := by decide +kernel
theorem dX6_behind_41 : decode cX6_behind 41 = .ok (.iload 4, 2) := by decide +kernel
theorem dX6_behind_43 : decode cX6_behind 43 = .ok (.iaload, 1) := by decide +kernel
theorem dX6_behind_44 : decode cX6_behind 44 = .ok (.iload_n 2, 1) := by decide +kernel
theorem dX6_behind_45 : decode cX6_behind 45 = .ok (.if_icmp .ne 34, 3) := by decide +kernel
theorem dX6_behind_48 : decode cX6_behind 48 = .ok (.aload_n 0, 1) := by decide +kernel
theorem dX6_behind_49 : decode cX6_behind 49 = .ok (.getfield 34, 3) := by decide +kernel
theorem dX6_behind_52 : decode cX6_behind 52 = .ok (.iload 4, 2) := by decide +kernel
theorem dX6_behind_54 : decode cX6_behind 54 = .ok (.iaload, 1) := by decide +kernel
theorem dX6_behind_55 : decode cX6_behind 55 = .ok (.iload_n 2, 1) := by decide +kernel
theorem dX6_behind_56 : decode cX6_behind 56 = .ok (.if_icmp .le 23, 3) := by decide +kernel
theorem dX6_behind_59 : decode cX6_behind 59 = .ok (.aload_n 0, 1) := by decide +kernel
theorem dX6_behind_60 : decode cX6_behind 60 = .ok (.getfield 99, 3) := by decide +kernel
theorem dX6_behind_63 : decode cX6_behind 63 = .ok (.iload 4, 2) := by decide +kernel
theorem dX6_behind_65 : decode cX6_behind 65 = .ok (.baload, 1) := by decide +kernel
theorem dX6_behind_66 : decode cX6_behind 66 = .ok (.ifCond .eq 13, 3) := by decide +kernel
theorem dX6_behind_69 : decode cX6_behind 69 = .ok (.aload_n 0, 1) := by decide +kernel
theorem dX6_behind_70 : decode cX6_behind 70 = .ok (.getfield 34, 3) := by decide +kernel
theorem dX6_behind_73 : decode cX6_behind 73 = .ok (.iload 4, 2) := by decide +kernel
theorem dX6_behind_75 : decode cX6_behind 75 = .ok (.iaload, 1) := by decide +kernel
theorem dX6_behind_76 : decode cX6_behind 76 = .ok (.istore_n 2, 1) := by decide +kernel
theorem dX6_behind_77 : decode cX6_behind 77 = .ok (.iconst 1, 1) := by decide +kernel
theorem dX6_behind_78 : decode cX6_behind 78 = .ok (.istore_n 3, 1) := by decide +kernel
theorem dX6_behind_79 : decode cX6_behind 79 = .ok (.iinc 4 1, 3) := by decide +kernel
theorem dX6_behind_82 : decode cX6_behind 82 = .ok (.goto (-69), 3) := by decide +kernel
theorem dX6_behind_85 : decode cX6_behind 85 = .ok (.goto (-81), 3) := by decide +kernel
theorem dX6_behind_88 : decode cX6_behind 88 = .ok (.iload_n 2, 1) := by decide +kernel
theorem dX6_behind_89 : decode cX6_behind 89 = .ok (.ireturn, 1) := by decide +kernel
theorem dX6_run_0 : decode cX6_run 0 = .ok (.aload_n 0, 1) := by decide +kernel
theorem dX6_run_1 : decode cX6_run 1 = .ok (.aload_n 0, 1) := by decide +kernel
theorem dX6_run_2 : decode cX6_run 2 = .ok (.getfield 195, 3) := by decide +kernel
theorem dX6_run_5 : decode cX6_run 5 = .ok (.iconst 1, 1) := by decide +kernel
theorem dX6_run_6 : decode cX6_run 6 = .ok (.invokevirtual 111, 3) := by decide +kernel
theorem dX6_run_9 : decode cX6_run 9 = .ok (.ifCond .ne 5, 3) := by decide +kernel
theorem dX6_run_12 : decode cX6_run 12 = .ok (.iconst 0, 1) := by decide +kernel
theorem dX6_run_13 : decode cX6_run 13 = .ok (.ireturn, 1) := by decide +kernel
theorem dX6_run_14 : decode cX6_run 14 = .ok (.aload_n 0, 1) := by decide +kernel
theorem dX6_run_15 : decode cX6_run 15 = .ok (.invokevirtual 304, 3) := by decide +kernel
theorem dX6_run_18 : decode cX6_run 18 = .ok (.iconst 0, 1) := by decide +kernel
theorem dX6_run_19 : decode cX6_run 19 = .ok (.istore_n 1, 1) := by decide +kernel
theorem dX6_run_20 : decode cX6_run 20 = .ok (.iload_n 1, 1) := by decide +kernel
theorem dX6_run_21 : decode cX6_run 21 = .ok (.aload_n 0, 1) := by decide +kernel
theorem dX6_run_22 : decode cX6_run 22 = .ok (.getfield 199, 3) := by decide +kernel
theorem dX6_run_25 : decode cX6_run 25 = .ok (.if_icmp .ge 29, 3) := by decide +kernel
theorem dX6_run_28 : decode cX6_run 28 = .ok (.aload_n 0, 1) := by decide +kernel
theorem dX6_run_29 : decode cX6_run 29 = .ok (.getfield 288, 3) := by decide +kernel
theorem dX6_run_32 : decode cX6_run 32 = .ok (.ifCond .ne 22, 3) := by decide +kernel
theorem dX6_run_35 : decode cX6_run 35 = .ok (.aload_n 0, 1) := by decide +kernel
theorem dX6_run_36 : decode cX6_run 36 = .ok (.dup, 1) := by decide +kernel
theorem dX6_run_37 : decode cX6_run 37 = .ok (.getfield 285, 3) := by decide +kernel
theorem dX6_run_40 : decode cX6_run 40 = .ok (.iconst 1, 1) := by decide +kernel
theorem dX6_run_41 : decode cX6_run 41 = .ok (.iadd, 1) := by decide +kernel
theorem dX6_run_42 : decode cX6_run 42 = .ok (.putfield 285, 3) := by decide +kernel
theorem dX6_run_45 : decode cX6_run 45 = .ok (.aload_n 0, 1) := by decide +kernel
theorem dX6_run_46 : decode cX6_run 46 = .ok (.iload_n 1, 1) := by decide +kernel
theorem dX6_run_47 : decode cX6_run 47 = .ok (.invokevirtual 316, 3) := by decide +kernel
theorem dX6_run_50 : decode cX6_run 50 = .ok (.istore_n 1, 1) := by decide +kernel
theorem dX6_run_51 : decode cX6_run 51 = .ok (.goto (-31), 3) := by decide +kernel
theorem dX6_run_54 : decode cX6_run 54 = .ok (.aload_n 0, 1) := by decide +kernel
theorem dX6_run_55 : decode cX6_run 55 = .ok (.invokevirtual 313, 3) := by decide +kernel
theorem dX6_run_58 : decode cX6_run 58 = .ok (.aload_n 0, 1) := by decide +kernel
theorem dX6_run_59 : decode cX6_run 59 = .ok (.getfield 288, 3) := by decide +kernel
theorem dX6_run_62 : decode cX6_run 62 = .ok (.ireturn, 1) := by decide +kernel
theorem dX6_doStep_0 : decode cX6_doStep 0 = .ok (.bipush 6, 2) := by decide +kernel
theorem dX6_doStep_2 : decode cX6_doStep 2 = .ok (.iload_n 1, 1) := by decide +kernel
theorem dX6_doStep_3 : decode cX6_doStep 3 = .ok (.imul, 1) := by decide +kernel
theorem dX6_doStep_4 : decode cX6_doStep 4 = .ok (.istore_n 2, 1) := by decide +kernel
theorem dX6_doStep_5 : decode cX6_doStep 5 = .ok (.aload_n 0, 1) := by decide +kernel
theorem dX6_doStep_6 : decode cX6_doStep 6 = .ok (.getfield 44, 3) := by decide +kernel
theorem dX6_doStep_9 : decode cX6_doStep 9 = .ok (.iload_n 2, 1) := by decide +kernel
theorem dX6_doStep_10 : decode cX6_doStep 10 = .ok (.iconst 1, 1) := by decide +kernel
theorem dX6_doStep_11 : decode cX6_doStep 11 = .ok (.iadd, 1) := by decide +kernel
theorem dX6_doStep_12 : decode cX6_doStep 12 = .ok (.iaload, 1) := by decide +kernel
theorem dX6_doStep_13 : decode cX6_doStep 13 = .ok (.istore_n 3, 1) := by decide +kernel
theorem dX6_doStep_14 : decode cX6_doStep 14 = .ok (.aload_n 0, 1) := by decide +kernel
theorem dX6_doStep_15 : decode cX6_doStep 15 = .ok (.getfield 44, 3) := by decide +kernel
theorem dX6_doStep_18 : decode cX6_doStep 18 = .ok (.iload_n 2, 1) := by decide +kernel
theorem dX6_doStep_19 : decode cX6_doStep 19 = .ok (.iconst 5, 1) := by decide +kernel
theorem dX6_doStep_20 : decode cX6_doStep 20 = .ok (.iadd, 1) := by decide +kernel
theorem dX6_doStep_21 : decode cX6_doStep 21 = .ok (.iaload, 1) := by decide +kernel
theorem dX6_doStep_22 : decode cX6_doStep 22 = .ok (.istore 4, 2) := by decide +kernel
theorem dX6_doStep_24 : decode cX6_doStep 24 = .ok (.aload_n 0, 1) := by decide +kernel
theorem dX6_doStep_25 : decode cX6_doStep 25 = .ok (.getfield 44, 3) := by decide +kernel
theorem dX6_doStep_28 : decode cX6_doStep 28 = .ok (.iload_n 2, 1) := by decide +kernel
theorem dX6_doStep_29 : decode cX6_doStep 29 = .ok (.iaload, 1) := by decide +kernel
theorem dX6_doStep_30 : decode cX6_doStep 30 = .ok (.tableswitch 328 0 18 #[90, 107, 328, 328, 328, 328, 328, 328, 328, 328, 328, 328, 328, 129, 183, 232, 274, 276, 300], 90) := by decide +kernel
theorem dX6_doStep_120 : decode cX6_doStep 120 = .ok (.aload_n 0, 1) := by decide +kernel
theorem dX6_doStep_121 : decode cX6_doStep 121 = .ok (.getfield 96, 3) := by decide +kernel
theorem dX6_doStep_124 : decode cX6_doStep 124 = .ok (.iload_n 3, 1) := by decide +kernel
theorem dX6_doStep_125 : decode cX6_doStep 125 = .ok (.aload_n 0, 1) := by decide +kernel
theorem dX6_doStep_126 : decode cX6_doStep 126 = .ok (.getfield 44, 3) := by decide +kernel
theorem dX6_doStep_129 : decode cX6_doStep 129 = .ok (.iload_n 2, 1) := by decide +kernel
theorem dX6_doStep_130 : decode cX6_doStep 130 = .ok (.iconst 2, 1) := by decide +kernel
theorem dX6_doStep_131 : decode cX6_doStep 131 = .ok (.iadd, 1) := by decide +kernel
theorem dX6_doStep_132 : decode cX6_doStep 132 = .ok (.iaload, 1) := by decide +kernel
theorem dX6_doStep_133 : decode cX6_doStep 133 = .ok (.iastore, 1) := by decide +kernel
theorem dX6_doStep_134 : decode cX6_doStep 134 = .ok (.goto 288, 3) := by decide +kernel
theorem dX6_doStep_137 : decode cX6_doStep 137 = .ok (.aload_n 0, 1) := by decide +kernel
theorem dX6_doStep_138 : decode cX6_doStep 138 = .ok (.getfield 96, 3) := by decide +kernel
theorem dX6_doStep_141 : decode cX6_doStep 141 = .ok (.iload_n 3, 1) := by decide +kernel
theorem dX6_doStep_142 : decode cX6_doStep 142 = .ok (.aload_n 0, 1) := by decide +kernel
theorem dX6_doStep_143 : decode cX6_doStep 143 = .ok (.getfield 96, 3) := by decide +kernel
theorem dX6_doStep_146 : decode cX6_doStep 146 = .ok (.aload_n 0, 1) := by decide +kernel
theorem dX6_doStep_147 : decode cX6_doStep 147 = .ok (.getfield 44, 3) := by decide +kernel
theorem dX6_doStep_150 : decode cX6_doStep 150 = .ok (.iload_n 2, 1) := by decide +kernel
theorem dX6_doStep_151 : decode cX6_doStep 151 = .ok (.iconst 2, 1) := by decide +kernel
theorem dX6_doStep_152 : decode cX6_doStep 152 = .ok (.iadd, 1) := by decide +kernel
theorem dX6_doStep_153 : decode cX6_doStep 153 = .ok (.iaload, 1) := by decide +kernel
theorem dX6_doStep_154 : decode cX6_doStep 154 = .ok (.iaload, 1) := by decide +kernel
theorem dX6_doStep_155 : decode cX6_doStep 155 = .ok (.iastore, 1) := by decide +kernel
theorem dX6_doStep_156 : decode cX6_doStep 156 = .ok (.goto 266, 3) := by decide +kernel
theorem dX6_doStep_159 : decode cX6_doStep 159 = .ok (.aload_n 0, 1) := by decide +kernel
theorem dX6_doStep_160 : decode cX6_doStep 160 = .ok (.getfield 96, 3) := by decide +kernel
theorem dX6_doStep_163 : decode cX6_doStep 163 = .ok (.iload_n 3, 1) := by decide +kernel
theorem dX6_doStep_164 : decode cX6_doStep 164 = .ok (.aload_n 0, 1) := by decide +kernel
theorem dX6_doStep_165 : decode cX6_doStep 165 = .ok (.getfield 96, 3) := by decide +kernel
theorem dX6_doStep_168 : decode cX6_doStep 168 = .ok (.aload_n 0, 1) := by decide +kernel
theorem dX6_doStep_169 : decode cX6_doStep 169 = .ok (.getfield 44, 3) := by decide +kernel
theorem dX6_doStep_172 : decode cX6_doStep 172 = .ok (.iload_n 2, 1) := by decide +kernel
theorem dX6_doStep_173 : decode cX6_doStep 173 = .ok (.iconst 2, 1) := by decide +kernel
theorem dX6_doStep_174 : decode cX6_doStep 174 = .ok (.iadd, 1) := by decide +kernel
theorem dX6_doStep_175 : decode cX6_doStep 175 = .ok (.iaload, 1) := by decide +kernel
theorem dX6_doStep_176 : decode cX6_doStep 176 = .ok (.iaload, 1) := by decide +kernel
theorem dX6_doStep_177 : decode cX6_doStep 177 = .ok (.ifCond .eq 19, 3) := by decide +kernel
theorem dX6_doStep_180 : decode cX6_doStep 180 = .ok (.aload_n 0, 1) := by decide +kernel
theorem dX6_doStep_181 : decode cX6_doStep 181 = .ok (.getfield 96, 3) := by decide +kernel
theorem dX6_doStep_184 : decode cX6_doStep 184 = .ok (.aload_n 0, 1) := by decide +kernel
theorem dX6_doStep_185 : decode cX6_doStep 185 = .ok (.getfield 44, 3) := by decide +kernel
theorem dX6_doStep_188 : decode cX6_doStep 188 = .ok (.iload_n 2, 1) := by decide +kernel
theorem dX6_doStep_189 : decode cX6_doStep 189 = .ok (.iconst 3, 1) := by decide +kernel
theorem dX6_doStep_190 : decode cX6_doStep 190 = .ok (.iadd, 1) := by decide +kernel
theorem dX6_doStep_191 : decode cX6_doStep 191 = .ok (.iaload, 1) := by decide +kernel
theorem dX6_doStep_192 : decode cX6_doStep 192 = .ok (.iaload, 1) := by decide +kernel
theorem dX6_doStep_193 : decode cX6_doStep 193 = .ok (.goto 16, 3) := by decide +kernel
theorem dX6_doStep_196 : decode cX6_doStep 196 = .ok (.aload_n 0, 1) := by decide +kernel
theorem dX6_doStep_197 : decode cX6_doStep 197 = .ok (.getfield 96, 3) := by decide +kernel
theorem dX6_doStep_200 : decode cX6_doStep 200 = .ok (.aload_n 0, 1) := by decide +kernel
theorem dX6_doStep_201 : decode cX6_doStep 201 = .ok (.getfield 44, 3) := by decide +kernel
theorem dX6_doStep_204 : decode cX6_doStep 204 = .ok (.iload_n 2, 1) := by decide +kernel
theorem dX6_doStep_205 : decode cX6_doStep 205 = .ok (.iconst 4, 1) := by decide +kernel
theorem dX6_doStep_206 : decode cX6_doStep 206 = .ok (.iadd, 1) := by decide +kernel
theorem dX6_doStep_207 : decode cX6_doStep 207 = .ok (.iaload, 1) := by decide +kernel
theorem dX6_doStep_208 : decode cX6_doStep 208 = .ok (.iaload, 1) := by decide +kernel
theorem dX6_doStep_209 : decode cX6_doStep 209 = .ok (.iastore, 1) := by decide +kernel
theorem dX6_doStep_210 : decode cX6_doStep 210 = .ok (.goto 212, 3) := by decide +kernel
theorem dX6_doStep_213 : decode cX6_doStep 213 = .ok (.aload_n 0, 1) := by decide +kernel
theorem dX6_doStep_214 : decode cX6_doStep 214 = .ok (.aload_n 0, 1) := by decide +kernel
theorem dX6_doStep_215 : decode cX6_doStep 215 = .ok (.getfield 96, 3) := by decide +kernel
theorem dX6_doStep_218 : decode cX6_doStep 218 = .ok (.aload_n 0, 1) := by decide +kernel
theorem dX6_doStep_219 : decode cX6_doStep 219 = .ok (.getfield 44, 3) := by decide +kernel
theorem dX6_doStep_222 : decode cX6_doStep 222 = .ok (.iload_n 2, 1) := by decide +kernel
theorem dX6_doStep_223 : decode cX6_doStep 223 = .ok (.iconst 2, 1) := by decide +kernel
theorem dX6_doStep_224 : decode cX6_doStep 224 = .ok (.iadd, 1) := by decide +kernel
theorem dX6_doStep_225 : decode cX6_doStep 225 = .ok (.iaload, 1) := by decide +kernel
theorem dX6_doStep_226 : decode cX6_doStep 226 = .ok (.iaload, 1) := by decide +kernel
theorem dX6_doStep_227 : decode cX6_doStep 227 = .ok (.iload 4, 2) := by decide +kernel
theorem dX6_doStep_229 : decode cX6_doStep 229 = .ok (.invokevirtual 301, 3) := by decide +kernel
theorem dX6_doStep_232 : decode cX6_doStep 232 = .ok (.ifCond .eq 190, 3) := by decide +kernel
theorem dX6_doStep_235 : decode cX6_doStep 235 = .ok (.aload_n 0, 1) := by decide +kernel
theorem dX6_doStep_236 : decode cX6_doStep 236 = .ok (.getfield 96, 3) := by decide +kernel
theorem dX6_doStep_239 : decode cX6_doStep 239 = .ok (.iload_n 3, 1) := by decide +kernel
theorem dX6_doStep_240 : decode cX6_doStep 240 = .ok (.aload_n 0, 1) := by decide +kernel
theorem dX6_doStep_241 : decode cX6_doStep 241 = .ok (.getfield 87, 3) := by decide +kernel
theorem dX6_doStep_244 : decode cX6_doStep 244 = .ok (.aload_n 0, 1) := by decide +kernel
theorem dX6_doStep_245 : decode cX6_doStep 245 = .ok (.getfield 96, 3) := by decide +kernel
theorem dX6_doStep_248 : decode cX6_doStep 248 = .ok (.aload_n 0, 1) := by decide +kernel
theorem dX6_doStep_249 : decode cX6_doStep 249 = .ok (.getfield 44, 3) := by decide +kernel
theorem dX6_doStep_252 : decode cX6_doStep 252 = .ok (.iload_n 2, 1) := by decide +kernel
theorem dX6_doStep_253 : decode cX6_doStep 253 = .ok (.iconst 2, 1) := by decide +kernel
theorem dX6_doStep_254 : decode cX6_doStep 254 = .ok (.iadd, 1) := by decide +kernel
theorem dX6_doStep_255 : decode cX6_doStep 255 = .ok (.iaload, 1) := by decide +kernel
theorem dX6_doStep_256 : decode cX6_doStep 256 = .ok (.iaload, 1) := by decide +kernel
theorem dX6_doStep_257 : decode cX6_doStep 257 = .ok (.iaload, 1) := by decide +kernel
theorem dX6_doStep_258 : decode cX6_doStep 258 = .ok (.iastore, 1) := by decide +kernel
theorem dX6_doStep_259 : decode cX6_doStep 259 = .ok (.goto 163, 3) := by decide +kernel
theorem dX6_doStep_262 : decode cX6_doStep 262 = .ok (.aload_n 0, 1) := by decide +kernel
theorem dX6_doStep_263 : decode cX6_doStep 263 = .ok (.aload_n 0, 1) := by decide +kernel
theorem dX6_doStep_264 : decode cX6_doStep 264 = .ok (.getfield 96, 3) := by decide +kernel
theorem dX6_doStep_267 : decode cX6_doStep 267 = .ok (.iload_n 3, 1) := by decide +kernel
theorem dX6_doStep_268 : decode cX6_doStep 268 = .ok (.iaload, 1) := by decide +kernel
theorem dX6_doStep_269 : decode cX6_doStep 269 = .ok (.iload 4, 2) := by decide +kernel
theorem dX6_doStep_271 : decode cX6_doStep 271 = .ok (.invokevirtual 301, 3) := by decide +kernel
theorem dX6_doStep_274 : decode cX6_doStep 274 = .ok (.ifCond .eq 148, 3) := by decide +kernel
theorem dX6_doStep_277 : decode cX6_doStep 277 = .ok (.aload_n 0, 1) := by decide +kernel
theorem dX6_doStep_278 : decode cX6_doStep 278 = .ok (.getfield 87, 3) := by decide +kernel
theorem dX6_doStep_281 : decode cX6_doStep 281 = .ok (.aload_n 0, 1) := by decide +kernel
theorem dX6_doStep_282 : decode cX6_doStep 282 = .ok (.getfield 96, 3) := by decide +kernel
theorem dX6_doStep_285 : decode cX6_doStep 285 = .ok (.iload_n 3, 1) := by decide +kernel
theorem dX6_doStep_286 : decode cX6_doStep 286 = .ok (.iaload, 1) := by decide +kernel
theorem dX6_doStep_287 : decode cX6_doStep 287 = .ok (.aload_n 0, 1) := by decide +kernel
theorem dX6_doStep_288 : decode cX6_doStep 288 = .ok (.getfield 96, 3) := by decide +kernel
theorem dX6_doStep_291 : decode cX6_doStep 291 = .ok (.aload_n 0, 1) := by decide +kernel
theorem dX6_doStep_292 : decode cX6_doStep 292 = .ok (.getfield 44, 3) := by decide +kernel
theorem dX6_doStep_295 : decode cX6_doStep 295 = .ok (.iload_n 2, 1) := by decide +kernel
theorem dX6_doStep_296 : decode cX6_doStep 296 = .ok (.iconst 2, 1) := by decide +kernel
theorem dX6_doStep_297 : decode cX6_doStep 297 = .ok (.iadd, 1) := by decide +kernel
theorem dX6_doStep_298 : decode cX6_doStep 298 = .ok (.iaload, 1) := by decide +kernel
theorem dX6_doStep_299 : decode cX6_doStep 299 = .ok (.iaload, 1) := by decide +kernel
theorem dX6_doStep_300 : decode cX6_doStep 300 = .ok (.iastore, 1) := by decide +kernel
theorem dX6_doStep_301 : decode cX6_doStep 301 = .ok (.goto 121, 3) := by decide +kernel
theorem dX6_doStep_304 : decode cX6_doStep 304 = .ok (.iload_n 3, 1) := by decide +kernel
theorem dX6_doStep_305 : decode cX6_doStep 305 = .ok (.ireturn, 1) := by decide +kernel
theorem dX6_doStep_306 : decode cX6_doStep 306 = .ok (.aload_n 0, 1) := by decide +kernel
theorem dX6_doStep_307 : decode cX6_doStep 307 = .ok (.getfield 96, 3) := by decide +kernel
theorem dX6_doStep_310 : decode cX6_doStep 310 = .ok (.iload_n 3, 1) := by decide +kernel
theorem dX6_doStep_311 : decode cX6_doStep 311 = .ok (.iaload, 1) := by decide +kernel
theorem dX6_doStep_312 : decode cX6_doStep 312 = .ok (.ifCond .ne 14, 3) := by decide +kernel
theorem dX6_doStep_315 : decode cX6_doStep 315 = .ok (.aload_n 0, 1) := by decide +kernel
theorem dX6_doStep_316 : decode cX6_doStep 316 = .ok (.getfield 44, 3) := by decide +kernel
theorem dX6_doStep_319 : decode cX6_doStep 319 = .ok (.iload_n 2, 1) := by decide +kernel
theorem dX6_doStep_320 : decode cX6_doStep 320 = .ok (.iconst 2, 1) := by decide +kernel
theorem dX6_doStep_321 : decode cX6_doStep 321 = .ok (.iadd, 1) := by decide +kernel
theorem dX6_doStep_322 : decode cX6_doStep 322 = .ok (.iaload, 1) := by decide +kernel
theorem dX6_doStep_323 : decode cX6_doStep 323 = .ok (.goto 6, 3) := by decide +kernel
theorem dX6_doStep_326 : decode cX6_doStep 326 = .ok (.iload_n 1, 1) := by decide +kernel
theorem dX6_doStep_327 : decode cX6_doStep 327 = .ok (.iconst 1, 1) := by decide +kernel
theorem dX6_doStep_328 : decode cX6_doStep 328 = .ok (.iadd, 1) := by decide +kernel
theorem dX6_doStep_329 : decode cX6_doStep 329 = .ok (.ireturn, 1) := by decide +kernel
theorem dX6_doStep_330 : decode cX6_doStep 330 = .ok (.aload_n 0, 1) := by decide +kernel
theorem dX6_doStep_331 : decode cX6_doStep 331 = .ok (.getfield 90, 3) := by decide +kernel
theorem dX6_doStep_334 : decode cX6_doStep 334 = .ok (.aload_n 0, 1) := by decide +kernel
theorem dX6_doStep_335 : decode cX6_doStep 335 = .ok (.getfield 282, 3) := by decide +kernel
theorem dX6_doStep_338 : decode cX6_doStep 338 = .ok (.aload_n 0, 1) := by decide +kernel
theorem dX6_doStep_339 : decode cX6_doStep 339 = .ok (.getfield 96, 3) := by decide +kernel
theorem dX6_doStep_342 : decode cX6_doStep 342 = .ok (.iload_n 3, 1) := by decide +kernel
theorem dX6_doStep_343 : decode cX6_doStep 343 = .ok (.iaload, 1) := by decide +kernel
theorem dX6_doStep_344 : decode cX6_doStep 344 = .ok (.iastore, 1) := by decide +kernel
theorem dX6_doStep_345 : decode cX6_doStep 345 = .ok (.aload_n 0, 1) := by decide +kernel
theorem dX6_doStep_346 : decode cX6_doStep 346 = .ok (.dup, 1) := by decide +kernel
theorem dX6_doStep_347 : decode cX6_doStep 347 = .ok (.getfield 282, 3) := by decide +kernel
theorem dX6_doStep_350 : decode cX6_doStep 350 = .ok (.iconst 1, 1) := by decide +kernel
theorem dX6_doStep_351 : decode cX6_doStep 351 = .ok (.iadd, 1) := by decide +kernel
theorem dX6_doStep_352 : decode cX6_doStep 352 = .ok (.putfield 282, 3) := by decide +kernel
theorem dX6_doStep_355 : decode cX6_doStep 355 = .ok (.goto 67, 3) := by decide +kernel
theorem dX6_doStep_358 : decode cX6_doStep 358 = .ok (.aload_n 0, 1) := by decide +kernel
theorem dX6_doStep_359 : decode cX6_doStep 359 = .ok (.aload_n 0, 1) := by decide +kernel
theorem dX6_doStep_360 : decode cX6_doStep 360 = .ok (.getfield 44, 3) := by decide +kernel
theorem dX6_doStep_363 : decode cX6_doStep 363 = .ok (.iload_n 2, 1) := by decide +kernel
theorem dX6_doStep_364 : decode cX6_doStep 364 = .ok (.iaload, 1) := by decide +kernel
theorem dX6_doStep_365 : decode cX6_doStep 365 = .ok (.aload_n 0, 1) := by decide +kernel
theorem dX6_doStep_366 : decode cX6_doStep 366 = .ok (.getfield 96, 3) := by decide +kernel
theorem dX6_doStep_369 : decode cX6_doStep 369 = .ok (.aload_n 0, 1) := by decide +kernel
theorem dX6_doStep_370 : decode cX6_doStep 370 = .ok (.getfield 44, 3) := by decide +kernel
theorem dX6_doStep_373 : decode cX6_doStep 373 = .ok (.iload_n 2, 1) := by decide +kernel
theorem dX6_doStep_374 : decode cX6_doStep 374 = .ok (.iconst 2, 1) := by decide +kernel
theorem dX6_doStep_375 : decode cX6_doStep 375 = .ok (.iadd, 1) := by decide +kernel
theorem dX6_doStep_376 : decode cX6_doStep 376 = .ok (.iaload, 1) := by decide +kernel
theorem dX6_doStep_377 : decode cX6_doStep 377 = .ok (.iaload, 1) := by decide +kernel
theorem dX6_doStep_378 : decode cX6_doStep 378 = .ok (.aload_n 0, 1) := by decide +kernel
theorem dX6_doStep_379 : decode cX6_doStep 379 = .ok (.getfield 96, 3) := by decide +kernel
theorem dX6_doStep_382 : decode cX6_doStep 382 = .ok (.aload_n 0, 1) := by decide +kernel
theorem dX6_doStep_383 : decode cX6_doStep 383 = .ok (.getfield 44, 3) := by decide +kernel
theorem dX6_doStep_386 : decode cX6_doStep 386 = .ok (.iload_n 2, 1) := by decide +kernel
theorem dX6_doStep_387 : decode cX6_doStep 387 = .ok (.iconst 3, 1) := by decide +kernel
theorem dX6_doStep_388 : decode cX6_doStep 388 = .ok (.iadd, 1) := by decide +kernel
theorem dX6_doStep_389 : decode cX6_doStep 389 = .ok (.iaload, 1) := by decide +kernel
theorem dX6_doStep_390 : decode cX6_doStep 390 = .ok (.iaload, 1) := by decide +kernel
theorem dX6_doStep_391 : decode cX6_doStep 391 = .ok (.iload 4, 2) := by decide +kernel
theorem dX6_doStep_393 : decode cX6_doStep 393 = .ok (.invokevirtual 297, 3) := by decide +kernel
theorem dX6_doStep_396 : decode cX6_doStep 396 = .ok (.istore 5, 2) := by decide +kernel
theorem dX6_doStep_398 : decode cX6_doStep 398 = .ok (.aload_n 0, 1) := by decide +kernel
theorem dX6_doStep_399 : decode cX6_doStep 399 = .ok (.getfield 96, 3) := by decide +kernel
theorem dX6_doStep_402 : decode cX6_doStep 402 = .ok (.iload_n 3, 1) := by decide +kernel
theorem dX6_doStep_403 : decode cX6_doStep 403 = .ok (.aload_n 0, 1) := by decide +kernel
theorem dX6_doStep_404 : decode cX6_doStep 404 = .ok (.getfield 288, 3) := by decide +kernel
theorem dX6_doStep_407 : decode cX6_doStep 407 = .ok (.ifCond .ne 8, 3) := by decide +kernel
theorem dX6_doStep_410 : decode cX6_doStep 410 = .ok (.iload 5, 2) := by decide +kernel
theorem dX6_doStep_412 : decode cX6_doStep 412 = .ok (.goto 9, 3) := by decide +kernel
theorem dX6_doStep_415 : decode cX6_doStep 415 = .ok (.aload_n 0, 1) := by decide +kernel
theorem dX6_doStep_416 : decode cX6_doStep 416 = .ok (.getfield 96, 3) := by decide +kernel
theorem dX6_doStep_419 : decode cX6_doStep 419 = .ok (.iload_n 3, 1) := by decide +kernel
theorem dX6_doStep_420 : decode cX6_doStep 420 = .ok (.iaload, 1) := by decide +kernel
theorem dX6_doStep_421 : decode cX6_doStep 421 = .ok (.iastore, 1) := by decide +kernel
theorem dX6_doStep_422 : decode cX6_doStep 422 = .ok (.iload_n 1, 1) := by decide +kernel
theorem dX6_doStep_423 : decode cX6_doStep 423 = .ok (.iconst 1, 1) := by decide +kernel
theorem dX6_doStep_424 : decode cX6_doStep 424 = .ok (.iadd, 1) := by decide +kernel
theorem dX6_doStep_425 : decode cX6_doStep 425 = .ok (.ireturn, 1) := by decide +kernel
theorem dX6_left_0 : decode cX6_left 0 = .ok (.aload_n 0, 1) := by decide +kernel
theorem dX6_left_1 : decode cX6_left 1 = .ok (.iload_n 1, 1) := by decide +kernel
theorem dX6_left_2 : decode cX6_left 2 = .ok (.i2l, 1) := by decide +kernel
theorem dX6_left_3 : decode cX6_left 3 = .ok (.lconst 0, 1) := by decide +kernel
theorem dX6_left_4 : decode cX6_left 4 = .ok (.ldc2_w 105, 3) := by decide +kernel
theorem dX6_left_7 : decode cX6_left 7 = .ok (.invokestatic 107, 3) := by decide +kernel
theorem dX6_left_10 : decode cX6_left 10 = .ok (.iconst 1, 1) := by decide +kernel
theorem dX6_left_11 : decode cX6_left 11 = .ok (.invokevirtual 111, 3) := by decide +kernel
theorem dX6_left_14 : decode cX6_left 14 = .ok (.ifCond .eq 12, 3) := by decide +kernel
theorem dX6_left_17 : decode cX6_left 17 = .ok (.aload_n 0, 1) := by decide +kernel
theorem dX6_left_18 : decode cX6_left 18 = .ok (.getfield 84, 3) := by decide +kernel
theorem dX6_left_21 : decode cX6_left 21 = .ok (.iload_n 1, 1) := by decide +kernel
theorem dX6_left_22 : decode cX6_left 22 = .ok (.iaload, 1) := by decide +kernel
theorem dX6_left_23 : decode cX6_left 23 = .ok (.goto 4, 3) := by decide +kernel
theorem dX6_left_26 : decode cX6_left 26 = .ok (.iconst 0, 1) := by decide +kernel
theorem dX6_left_27 : decode cX6_left 27 = .ok (.ireturn, 1) := by decide +kernel
theorem dX6_kept_0 : decode cX6_kept 0 = .ok (.aload_n 0, 1) := by decide +kernel
theorem dX6_kept_1 : decode cX6_kept 1 = .ok (.iload_n 1, 1) := by decide +kernel
theorem dX6_kept_2 : decode cX6_kept 2 = .ok (.i2l, 1) := by decide +kernel
theorem dX6_kept_3 : decode cX6_kept 3 = .ok (.lconst 0, 1) := by decide +kernel
theorem dX6_kept_4 : decode cX6_kept 4 = .ok (.ldc2_w 115, 3) := by decide +kernel
theorem dX6_kept_7 : decode cX6_kept 7 = .ok (.invokestatic 107, 3) := by decide +kernel
theorem dX6_kept_10 : decode cX6_kept 10 = .ok (.iconst 1, 1) := by decide +kernel
theorem dX6_kept_11 : decode cX6_kept 11 = .ok (.invokevirtual 111, 3) := by decide +kernel
theorem dX6_kept_14 : decode cX6_kept 14 = .ok (.ifCond .eq 12, 3) := by decide +kernel
theorem dX6_kept_17 : decode cX6_kept 17 = .ok (.aload_n 0, 1) := by decide +kernel
theorem dX6_kept_18 : decode cX6_kept 18 = .ok (.getfield 87, 3) := by decide +kernel
theorem dX6_kept_21 : decode cX6_kept 21 = .ok (.iload_n 1, 1) := by decide +kernel
theorem dX6_kept_22 : decode cX6_kept 22 = .ok (.iaload, 1) := by decide +kernel
theorem dX6_kept_23 : decode cX6_kept 23 = .ok (.goto 4, 3) := by decide +kernel
theorem dX6_kept_26 : decode cX6_kept 26 = .ok (.iconst 0, 1) := by decide +kernel
theorem dX6_kept_27 : decode cX6_kept 27 = .ok (.ireturn, 1) := by decide +kernel
theorem dX6_output_0 : decode cX6_output 0 = .ok (.aload_n 0, 1) := by decide +kernel
theorem dX6_output_1 : decode cX6_output 1 = .ok (.iload_n 1, 1) := by decide +kernel
theorem dX6_output_2 : decode cX6_output 2 = .ok (.i2l, 1) := by decide +kernel
theorem dX6_output_3 : decode cX6_output 3 = .ok (.lconst 0, 1) := by decide +kernel
theorem dX6_output_4 : decode cX6_output 4 = .ok (.aload_n 0, 1) := by decide +kernel
theorem dX6_output_5 : decode cX6_output 5 = .ok (.getfield 282, 3) := by decide +kernel
theorem dX6_output_8 : decode cX6_output 8 = .ok (.iconst 1, 1) := by decide +kernel
theorem dX6_output_9 : decode cX6_output 9 = .ok (.isub, 1) := by decide +kernel
theorem dX6_output_10 : decode cX6_output 10 = .ok (.i2l, 1) := by decide +kernel
theorem dX6_output_11 : decode cX6_output 11 = .ok (.invokestatic 107, 3) := by decide +kernel
theorem dX6_output_14 : decode cX6_output 14 = .ok (.iconst 1, 1) := by decide +kernel
theorem dX6_output_15 : decode cX6_output 15 = .ok (.invokevirtual 111, 3) := by decide +kernel
theorem dX6_output_18 : decode cX6_output 18 = .ok (.ifCond .eq 12, 3) := by decide +kernel
theorem dX6_output_21 : decode cX6_output 21 = .ok (.aload_n 0, 1) := by decide +kernel
theorem dX6_output_22 : decode cX6_output 22 = .ok (.getfield 90, 3) := by decide +kernel
theorem dX6_output_25 : decode cX6_output 25 = .ok (.iload_n 1, 1) := by decide +kernel
theorem dX6_output_26 : decode cX6_output 26 = .ok (.iaload, 1) := by decide +kernel
theorem dX6_output_27 : decode cX6_output 27 = .ok (.goto 4, 3) := by decide +kernel
theorem dX6_output_30 : decode cX6_output 30 = .ok (.iconst 0, 1) := by decide +kernel
theorem dX6_output_31 : decode cX6_output 31 = .ok (.ireturn, 1) := by decide +kernel
theorem dX6_countJumps_0 : decode cX6_countJumps 0 = .ok (.iconst 0, 1) := by decide +kernel
theorem dX6_countJumps_1 : decode cX6_countJumps 1 = .ok (.istore_n 1, 1) := by decide +kernel
theorem dX6_countJumps_2 : decode cX6_countJumps 2 = .ok (.iconst 0, 1) := by decide +kernel
theorem dX6_countJumps_3 : decode cX6_countJumps 3 = .ok (.istore_n 2, 1) := by decide +kernel
theorem dX6_countJumps_4 : decode cX6_countJumps 4 = .ok (.iload_n 2, 1) := by decide +kernel
theorem dX6_countJumps_5 : decode cX6_countJumps 5 = .ok (.aload_n 0, 1) := by decide +kernel
theorem dX6_countJumps_6 : decode cX6_countJumps 6 = .ok (.getfield 199, 3) := by decide +kernel
theorem dX6_countJumps_9 : decode cX6_countJumps 9 = .ok (.if_icmp .ge 45, 3) := by decide +kernel
theorem dX6_countJumps_12 : decode cX6_countJumps 12 = .ok (.iload_n 1, 1) := by decide +kernel
theorem dX6_countJumps_13 : decode cX6_countJumps 13 = .ok (.aload_n 0, 1) := by decide +kernel
theorem dX6_countJumps_14 : decode cX6_countJumps 14 = .ok (.getfield 44, 3) := by decide +kernel
theorem dX6_countJumps_17 : decode cX6_countJumps 17 = .ok (.bipush 6, 2) := by decide +kernel
theorem dX6_countJumps_19 : decode cX6_countJumps 19 = .ok (.iload_n 2, 1) := by decide +kernel
theorem dX6_countJumps_20 : decode cX6_countJumps 20 = .ok (.imul, 1) := by decide +kernel
theorem dX6_countJumps_21 : decode cX6_countJumps 21 = .ok (.iaload, 1) := by decide +kernel
theorem dX6_countJumps_22 : decode cX6_countJumps 22 = .ok (.bipush 16, 2) := by decide +kernel
theorem dX6_countJumps_24 : decode cX6_countJumps 24 = .ok (.if_icmp .eq 17, 3) := by decide +kernel
theorem dX6_countJumps_27 : decode cX6_countJumps 27 = .ok (.aload_n 0, 1) := by decide +kernel
theorem dX6_countJumps_28 : decode cX6_countJumps 28 = .ok (.getfield 44, 3) := by decide +kernel
theorem dX6_countJumps_31 : decode cX6_countJumps 31 = .ok (.bipush 6, 2) := by decide +kernel
theorem dX6_countJumps_33 : decode cX6_countJumps 33 = .ok (.iload_n 2, 1) := by decide +kernel
theorem dX6_countJumps_34 : decode cX6_countJumps 34 = .ok (.imul, 1) := by decide +kernel
theorem dX6_countJumps_35 : decode cX6_countJumps 35 = .ok (.iaload, 1) := by decide +kernel
theorem dX6_countJumps_36 : decode cX6_countJumps 36 = .ok (.bipush 17, 2) := by decide +kernel
theorem dX6_countJumps_38 : decode cX6_countJumps 38 = .ok (.if_icmp .ne 7, 3) := by decide +kernel
theorem dX6_countJumps_41 : decode cX6_countJumps 41 = .ok (.iconst 1, 1) := by decide +kernel
theorem dX6_countJumps_42 : decode cX6_countJumps 42 = .ok (.goto 4, 3) := by decide +kernel
theorem dX6_countJumps_45 : decode cX6_countJumps 45 = .ok (.iconst 0, 1) := by decide +kernel
theorem dX6_countJumps_46 : decode cX6_countJumps 46 = .ok (.iadd, 1) := by decide +kernel
theorem dX6_countJumps_47 : decode cX6_countJumps 47 = .ok (.istore_n 1, 1) := by decide +kernel
theorem dX6_countJumps_48 : decode cX6_countJumps 48 = .ok (.iinc 2 1, 3) := by decide +kernel
theorem dX6_countJumps_51 : decode cX6_countJumps 51 = .ok (.goto (-47), 3) := by decide +kernel
theorem dX6_countJumps_54 : decode cX6_countJumps 54 = .ok (.iload_n 1, 1) := by decide +kernel
theorem dX6_countJumps_55 : decode cX6_countJumps 55 = .ok (.ireturn, 1) := by decide +kernel
theorem dX6_countConverted_0 : decode cX6_countConverted 0 = .ok (.iconst 0, 1) := by decide +kernel
theorem dX6_countConverted_1 : decode cX6_countConverted 1 = .ok (.istore_n 1, 1) := by decide +kernel
theorem dX6_countConverted_2 : decode cX6_countConverted 2 = .ok (.iconst 0, 1) := by decide +kernel
theorem dX6_countConverted_3 : decode cX6_countConverted 3 = .ok (.istore_n 2, 1) := by decide +kernel
theorem dX6_countConverted_4 : decode cX6_countConverted 4 = .ok (.iload_n 2, 1) := by decide +kernel
theorem dX6_countConverted_5 : decode cX6_countConverted 5 = .ok (.aload_n 0, 1) := by decide +kernel
theorem dX6_countConverted_6 : decode cX6_countConverted 6 = .ok (.getfield 192, 3) := by decide +kernel
theorem dX6_countConverted_9 : decode cX6_countConverted 9 = .ok (.if_icmp .ge 26, 3) := by decide +kernel
theorem dX6_countConverted_12 : decode cX6_countConverted 12 = .ok (.iload_n 1, 1) := by decide +kernel
theorem dX6_countConverted_13 : decode cX6_countConverted 13 = .ok (.aload_n 0, 1) := by decide +kernel
theorem dX6_countConverted_14 : decode cX6_countConverted 14 = .ok (.getfield 51, 3) := by decide +kernel
theorem dX6_countConverted_17 : decode cX6_countConverted 17 = .ok (.iload_n 2, 1) := by decide +kernel
theorem dX6_countConverted_18 : decode cX6_countConverted 18 = .ok (.baload, 1) := by decide +kernel
theorem dX6_countConverted_19 : decode cX6_countConverted 19 = .ok (.ifCond .eq 7, 3) := by decide +kernel
theorem dX6_countConverted_22 : decode cX6_countConverted 22 = .ok (.iconst 1, 1) := by decide +kernel
theorem dX6_countConverted_23 : decode cX6_countConverted 23 = .ok (.goto 4, 3) := by decide +kernel
theorem dX6_countConverted_26 : decode cX6_countConverted 26 = .ok (.iconst 0, 1) := by decide +kernel
theorem dX6_countConverted_27 : decode cX6_countConverted 27 = .ok (.iadd, 1) := by decide +kernel
theorem dX6_countConverted_28 : decode cX6_countConverted 28 = .ok (.istore_n 1, 1) := by decide +kernel
theorem dX6_countConverted_29 : decode cX6_countConverted 29 = .ok (.iinc 2 1, 3) := by decide +kernel
theorem dX6_countConverted_32 : decode cX6_countConverted 32 = .ok (.goto (-28), 3) := by decide +kernel
theorem dX6_countConverted_35 : decode cX6_countConverted 35 = .ok (.iload_n 1, 1) := by decide +kernel
theorem dX6_countConverted_36 : decode cX6_countConverted 36 = .ok (.ireturn, 1) := by decide +kernel
theorem dX6_count_0 : decode cX6_count 0 = .ok (.aload_n 0, 1) := by decide +kernel
theorem dX6_count_1 : decode cX6_count 1 = .ok (.iload_n 1, 1) := by decide +kernel
theorem dX6_count_2 : decode cX6_count 2 = .ok (.i2l, 1) := by decide +kernel
theorem dX6_count_3 : decode cX6_count 3 = .ok (.lconst 0, 1) := by decide +kernel
theorem dX6_count_4 : decode cX6_count 4 = .ok (.ldc2_w 117, 3) := by decide +kernel
theorem dX6_count_7 : decode cX6_count 7 = .ok (.invokestatic 107, 3) := by decide +kernel
theorem dX6_count_10 : decode cX6_count 10 = .ok (.iconst 1, 1) := by decide +kernel
theorem dX6_count_11 : decode cX6_count 11 = .ok (.invokevirtual 111, 3) := by decide +kernel
theorem dX6_count_14 : decode cX6_count 14 = .ok (.ifCond .ne 5, 3) := by decide +kernel
theorem dX6_count_17 : decode cX6_count 17 = .ok (.iconst 0, 1) := by decide +kernel
theorem dX6_count_18 : decode cX6_count 18 = .ok (.ireturn, 1) := by decide +kernel
theorem dX6_count_19 : decode cX6_count 19 = .ok (.iload_n 1, 1) := by decide +kernel
theorem dX6_count_20 : decode cX6_count 20 = .ok (.tableswitch 88 0 7 #[48, 53, 58, 63, 68, 73, 78, 83], 48) := by decide +kernel
theorem dX6_count_68 : decode cX6_count 68 = .ok (.aload_n 0, 1) := by decide +kernel
theorem dX6_count_69 : decode cX6_count 69 = .ok (.getfield 192, 3) := by decide +kernel
theorem dX6_count_72 : decode cX6_count 72 = .ok (.ireturn, 1) := by decide +kernel
theorem dX6_count_73 : decode cX6_count 73 = .ok (.aload_n 0, 1) := by decide +kernel
theorem dX6_count_74 : decode cX6_count 74 = .ok (.getfield 199, 3) := by decide +kernel
theorem dX6_count_77 : decode cX6_count 77 = .ok (.ireturn, 1) := by decide +kernel
theorem dX6_count_78 : decode cX6_count 78 = .ok (.aload_n 0, 1) := by decide +kernel
theorem dX6_count_79 : decode cX6_count 79 = .ok (.getfield 47, 3) := by decide +kernel
theorem dX6_count_82 : decode cX6_count 82 = .ok (.ireturn, 1) := by decide +kernel
theorem dX6_count_83 : decode cX6_count 83 = .ok (.aload_n 0, 1) := by decide +kernel
theorem dX6_count_84 : decode cX6_count 84 = .ok (.invokevirtual 319, 3) := by decide +kernel
theorem dX6_count_87 : decode cX6_count 87 = .ok (.ireturn, 1) := by decide +kernel
theorem dX6_count_88 : decode cX6_count 88 = .ok (.aload_n 0, 1) := by decide +kernel
theorem dX6_count_89 : decode cX6_count 89 = .ok (.invokevirtual 322, 3) := by decide +kernel
theorem dX6_count_92 : decode cX6_count 92 = .ok (.ireturn, 1) := by decide +kernel
theorem dX6_count_93 : decode cX6_count 93 = .ok (.aload_n 0, 1) := by decide +kernel
theorem dX6_count_94 : decode cX6_count 94 = .ok (.getfield 282, 3) := by decide +kernel
theorem dX6_count_97 : decode cX6_count 97 = .ok (.ireturn, 1) := by decide +kernel
theorem dX6_count_98 : decode cX6_count 98 = .ok (.aload_n 0, 1) := by decide +kernel
theorem dX6_count_99 : decode cX6_count 99 = .ok (.getfield 119, 3) := by decide +kernel
theorem dX6_count_102 : decode cX6_count 102 = .ok (.ireturn, 1) := by decide +kernel
theorem dX6_count_103 : decode cX6_count 103 = .ok (.aload_n 0, 1) := by decide +kernel
theorem dX6_count_104 : decode cX6_count 104 = .ok (.getfield 93, 3) := by decide +kernel
theorem dX6_count_107 : decode cX6_count 107 = .ok (.ireturn, 1) := by decide +kernel
theorem dX6_count_108 : decode cX6_count 108 = .ok (.aload_n 0, 1) := by decide +kernel
theorem dX6_count_109 : decode cX6_count 109 = .ok (.getfield 285, 3) := by decide +kernel
theorem dX6_count_112 : decode cX6_count 112 = .ok (.ireturn, 1) := by decide +kernel
theorem dJ9_max_7cf53_0 : decode cJ9_max_7cf53 0 = .ok (.iload_n 0, 1) := by decide +kernel
theorem dJ9_max_7cf53_1 : decode cJ9_max_7cf53 1 = .ok (.iload_n 1, 1) := by decide +kernel
theorem dJ9_max_7cf53_2 : decode cJ9_max_7cf53 2 = .ok (.if_icmp .lt 7, 3) := by decide +kernel
theorem dJ9_max_7cf53_5 : decode cJ9_max_7cf53 5 = .ok (.iload_n 0, 1) := by decide +kernel
theorem dJ9_max_7cf53_6 : decode cJ9_max_7cf53 6 = .ok (.goto 4, 3) := by decide +kernel
theorem dJ9_max_7cf53_9 : decode cJ9_max_7cf53 9 = .ok (.iload_n 1, 1) := by decide +kernel
theorem dJ9_max_7cf53_10 : decode cJ9_max_7cf53 10 = .ok (.ireturn, 1) := by decide +kernel
theorem dJ9_min_f86c9_0 : decode cJ9_min_f86c9 0 = .ok (.lload_n 0, 1) := by decide +kernel
theorem dJ9_min_f86c9_1 : decode cJ9_min_f86c9 1 = .ok (.lload_n 2, 1) := by decide +kernel
theorem dJ9_min_f86c9_2 : decode cJ9_min_f86c9 2 = .ok (.lcmp, 1) := by decide +kernel
theorem dJ9_min_f86c9_3 : decode cJ9_min_f86c9 3 = .ok (.ifCond .gt 7, 3) := by decide +kernel
theorem dJ9_min_f86c9_6 : decode cJ9_min_f86c9 6 = .ok (.lload_n 0, 1) := by decide +kernel
theorem dJ9_min_f86c9_7 : decode cJ9_min_f86c9 7 = .ok (.goto 4, 3) := by decide +kernel
theorem dJ9_min_f86c9_10 : decode cJ9_min_f86c9 10 = .ok (.lload_n 2, 1) := by decide +kernel
theorem dJ9_min_f86c9_11 : decode cJ9_min_f86c9 11 = .ok (.lreturn, 1) := by decide +kernel
theorem dJ0_length_8abf5_0 : decode cJ0_length_8abf5 0 = .ok (.aload_n 0, 1) := by decide +kernel
theorem dJ0_length_8abf5_1 : decode cJ0_length_8abf5 1 = .ok (.getfield 9, 3) := by decide +kernel
theorem dJ0_length_8abf5_4 : decode cJ0_length_8abf5 4 = .ok (.arraylength, 1) := by decide +kernel
theorem dJ0_length_8abf5_5 : decode cJ0_length_8abf5 5 = .ok (.aload_n 0, 1) := by decide +kernel
theorem dJ0_length_8abf5_6 : decode cJ0_length_8abf5 6 = .ok (.invokevirtual 335, 3) := by decide +kernel
theorem dJ0_length_8abf5_9 : decode cJ0_length_8abf5 9 = .ok (.ishr, 1) := by decide +kernel
theorem dJ0_length_8abf5_10 : decode cJ0_length_8abf5 10 = .ok (.ireturn, 1) := by decide +kernel
theorem dJ0_charAt_5068e_0 : decode cJ0_charAt_5068e 0 = .ok (.aload_n 0, 1) := by decide +kernel
theorem dJ0_charAt_5068e_1 : decode cJ0_charAt_5068e 1 = .ok (.invokevirtual 492, 3) := by decide +kernel
theorem dJ0_charAt_5068e_4 : decode cJ0_charAt_5068e 4 = .ok (.ifCond .eq 12, 3) := by decide +kernel
theorem dJ0_charAt_5068e_7 : decode cJ0_charAt_5068e 7 = .ok (.aload_n 0, 1) := by decide +kernel
theorem dJ0_charAt_5068e_8 : decode cJ0_charAt_5068e 8 = .ok (.getfield 9, 3) := by decide +kernel
theorem dJ0_charAt_5068e_11 : decode cJ0_charAt_5068e 11 = .ok (.iload_n 1, 1) := by decide +kernel
theorem dJ0_charAt_5068e_12 : decode cJ0_charAt_5068e 12 = .ok (.invokestatic 495, 3) := by decide +kernel
theorem dJ0_charAt_5068e_15 : decode cJ0_charAt_5068e 15 = .ok (.ireturn, 1) := by decide +kernel
theorem dJ0_charAt_5068e_16 : decode cJ0_charAt_5068e 16 = .ok (.aload_n 0, 1) := by decide +kernel
theorem dJ0_charAt_5068e_17 : decode cJ0_charAt_5068e 17 = .ok (.getfield 9, 3) := by decide +kernel
theorem dJ0_charAt_5068e_20 : decode cJ0_charAt_5068e 20 = .ok (.iload_n 1, 1) := by decide +kernel
theorem dJ0_charAt_5068e_21 : decode cJ0_charAt_5068e 21 = .ok (.invokestatic 498, 3) := by decide +kernel
theorem dJ0_charAt_5068e_24 : decode cJ0_charAt_5068e 24 = .ok (.ireturn, 1) := by decide +kernel
theorem dJ0_coder_7d493_0 : decode cJ0_coder_7d493 0 = .ok (.getstatic 38, 3) := by decide +kernel
theorem dJ0_coder_7d493_3 : decode cJ0_coder_7d493 3 = .ok (.ifCond .eq 10, 3) := by decide +kernel
theorem dJ0_coder_7d493_6 : decode cJ0_coder_7d493 6 = .ok (.aload_n 0, 1) := by decide +kernel
theorem dJ0_coder_7d493_7 : decode cJ0_coder_7d493 7 = .ok (.getfield 15, 3) := by decide +kernel
theorem dJ0_coder_7d493_10 : decode cJ0_coder_7d493 10 = .ok (.goto 4, 3) := by decide +kernel
theorem dJ0_coder_7d493_13 : decode cJ0_coder_7d493 13 = .ok (.iconst 1, 1) := by decide +kernel
theorem dJ0_coder_7d493_14 : decode cJ0_coder_7d493 14 = .ok (.ireturn, 1) := by decide +kernel
theorem dJ0_isLatin1_aae02_0 : decode cJ0_isLatin1_aae02 0 = .ok (.getstatic 38, 3) := by decide +kernel
theorem dJ0_isLatin1_aae02_3 : decode cJ0_isLatin1_aae02 3 = .ok (.ifCond .eq 14, 3) := by decide +kernel
theorem dJ0_isLatin1_aae02_6 : decode cJ0_isLatin1_aae02 6 = .ok (.aload_n 0, 1) := by decide +kernel
theorem dJ0_isLatin1_aae02_7 : decode cJ0_isLatin1_aae02 7 = .ok (.getfield 15, 3) := by decide +kernel
theorem dJ0_isLatin1_aae02_10 : decode cJ0_isLatin1_aae02 10 = .ok (.ifCond .ne 7, 3) := by decide +kernel
theorem dJ0_isLatin1_aae02_13 : decode cJ0_isLatin1_aae02 13 = .ok (.iconst 1, 1) := by decide +kernel
theorem dJ0_isLatin1_aae02_14 : decode cJ0_isLatin1_aae02 14 = .ok (.goto 4, 3) := by decide +kernel
theorem dJ0_isLatin1_aae02_17 : decode cJ0_isLatin1_aae02 17 = .ok (.iconst 0, 1) := by decide +kernel
theorem dJ0_isLatin1_aae02_18 : decode cJ0_isLatin1_aae02 18 = .ok (.ireturn, 1) := by decide +kernel
theorem dJ0_checkIndex_df160_0 : decode cJ0_checkIndex_df160 0 = .ok (.iload_n 0, 1) := by decide +kernel
theorem dJ0_checkIndex_df160_1 : decode cJ0_checkIndex_df160 1 = .ok (.iload_n 1, 1) := by decide +kernel
theorem dJ0_checkIndex_df160_2 : decode cJ0_checkIndex_df160 2 = .ok (.getstatic 1053, 3) := by decide +kernel
theorem dJ0_checkIndex_df160_5 : decode cJ0_checkIndex_df160 5 = .ok (.invokestatic 1059, 3) := by decide +kernel
theorem dJ0_checkIndex_df160_8 : decode cJ0_checkIndex_df160 8 = .ok (.pop, 1) := by decide +kernel
theorem dJ0_checkIndex_df160_9 : decode cJ0_checkIndex_df160 9 = .ok (.return_, 1) := by decide +kernel
theorem dJ1_charAt_3b067_0 : decode cJ1_charAt_3b067 0 = .ok (.iload_n 1, 1) := by decide +kernel
theorem dJ1_charAt_3b067_1 : decode cJ1_charAt_3b067 1 = .ok (.aload_n 0, 1) := by decide +kernel
theorem dJ1_charAt_3b067_2 : decode cJ1_charAt_3b067 2 = .ok (.arraylength, 1) := by decide +kernel
theorem dJ1_charAt_3b067_3 : decode cJ1_charAt_3b067 3 = .ok (.invokestatic 9, 3) := by decide +kernel
theorem dJ1_charAt_3b067_6 : decode cJ1_charAt_3b067 6 = .ok (.aload_n 0, 1) := by decide +kernel
theorem dJ1_charAt_3b067_7 : decode cJ1_charAt_3b067 7 = .ok (.iload_n 1, 1) := by decide +kernel
theorem dJ1_charAt_3b067_8 : decode cJ1_charAt_3b067 8 = .ok (.baload, 1) := by decide +kernel
theorem dJ1_charAt_3b067_9 : decode cJ1_charAt_3b067 9 = .ok (.sipush 255, 3) := by decide +kernel
theorem dJ1_charAt_3b067_12 : decode cJ1_charAt_3b067 12 = .ok (.iand, 1) := by decide +kernel
theorem dJ1_charAt_3b067_13 : decode cJ1_charAt_3b067 13 = .ok (.i2c, 1) := by decide +kernel
theorem dJ1_charAt_3b067_14 : decode cJ1_charAt_3b067 14 = .ok (.ireturn, 1) := by decide +kernel
theorem dJ2_getChar_3b067_0 : decode cJ2_getChar_3b067 0 = .ok (.getstatic 44, 3) := by decide +kernel
theorem dJ2_getChar_3b067_3 : decode cJ2_getChar_3b067 3 = .ok (.ifCond .ne 25, 3) := by decide +kernel
theorem dJ2_getChar_3b067_6 : decode cJ2_getChar_3b067 6 = .ok (.iload_n 1, 1) := by decide +kernel
theorem dJ2_getChar_3b067_7 : decode cJ2_getChar_3b067 7 = .ok (.ifCond .lt 11, 3) := by decide +kernel
theorem dJ2_getChar_3b067_10 : decode cJ2_getChar_3b067 10 = .ok (.iload_n 1, 1) := by decide +kernel
theorem dJ2_getChar_3b067_11 : decode cJ2_getChar_3b067 11 = .ok (.aload_n 0, 1) := by decide +kernel
theorem dJ2_getChar_3b067_12 : decode cJ2_getChar_3b067 12 = .ok (.invokestatic 48, 3) := by decide +kernel
theorem dJ2_getChar_3b067_15 : decode cJ2_getChar_3b067 15 = .ok (.if_icmp .lt 13, 3) := by decide +kernel
theorem dJ2_getChar_3b067_18 : decode cJ2_getChar_3b067 18 = .ok (.new 52, 3) := by decide +kernel
theorem dJ2_getChar_3b067_21 : decode cJ2_getChar_3b067 21 = .ok (.dup, 1) := by decide +kernel
theorem dJ2_getChar_3b067_22 : decode cJ2_getChar_3b067 22 = .ok (.ldc 54, 2) := by decide +kernel
theorem dJ2_getChar_3b067_24 : decode cJ2_getChar_3b067 24 = .ok (.invokespecial 56, 3) := by decide +kernel
theorem dJ2_getChar_3b067_27 : decode cJ2_getChar_3b067 27 = .ok (.athrow, 1) := by decide +kernel
theorem dJ2_getChar_3b067_28 : decode cJ2_getChar_3b067 28 = .ok (.iload_n 1, 1) := by decide +kernel
theorem dJ2_getChar_3b067_29 : decode cJ2_getChar_3b067 29 = .ok (.iconst 1, 1) := by decide +kernel
theorem dJ2_getChar_3b067_30 : decode cJ2_getChar_3b067 30 = .ok (.ishl, 1) := by decide +kernel
theorem dJ2_getChar_3b067_31 : decode cJ2_getChar_3b067 31 = .ok (.istore_n 1, 1) := by decide +kernel
theorem dJ2_getChar_3b067_32 : decode cJ2_getChar_3b067 32 = .ok (.aload_n 0, 1) := by decide +kernel
theorem dJ2_getChar_3b067_33 : decode cJ2_getChar_3b067 33 = .ok (.iload_n 1, 1) := by decide +kernel
theorem dJ2_getChar_3b067_34 : decode cJ2_getChar_3b067 34 = .ok (.iinc 1 1, 3) := by decide +kernel
theorem dJ2_getChar_3b067_37 : decode cJ2_getChar_3b067 37 = .ok (.baload, 1) := by decide +kernel
theorem dJ2_getChar_3b067_38 : decode cJ2_getChar_3b067 38 = .ok (.sipush 255, 3) := by decide +kernel
theorem dJ2_getChar_3b067_41 : decode cJ2_getChar_3b067 41 = .ok (.iand, 1) := by decide +kernel
theorem dJ2_getChar_3b067_42 : decode cJ2_getChar_3b067 42 = .ok (.getstatic 59, 3) := by decide +kernel
theorem dJ2_getChar_3b067_45 : decode cJ2_getChar_3b067 45 = .ok (.ishl, 1) := by decide +kernel
theorem dJ2_getChar_3b067_46 : decode cJ2_getChar_3b067 46 = .ok (.aload_n 0, 1) := by decide +kernel
theorem dJ2_getChar_3b067_47 : decode cJ2_getChar_3b067 47 = .ok (.iload_n 1, 1) := by decide +kernel
theorem dJ2_getChar_3b067_48 : decode cJ2_getChar_3b067 48 = .ok (.baload, 1) := by decide +kernel
theorem dJ2_getChar_3b067_49 : decode cJ2_getChar_3b067 49 = .ok (.sipush 255, 3) := by decide +kernel
theorem dJ2_getChar_3b067_52 : decode cJ2_getChar_3b067 52 = .ok (.iand, 1) := by decide +kernel
theorem dJ2_getChar_3b067_53 : decode cJ2_getChar_3b067 53 = .ok (.getstatic 63, 3) := by decide +kernel
theorem dJ2_getChar_3b067_56 : decode cJ2_getChar_3b067 56 = .ok (.ishl, 1) := by decide +kernel
theorem dJ2_getChar_3b067_57 : decode cJ2_getChar_3b067 57 = .ok (.ior, 1) := by decide +kernel
theorem dJ2_getChar_3b067_58 : decode cJ2_getChar_3b067 58 = .ok (.i2c, 1) := by decide +kernel
theorem dJ2_getChar_3b067_59 : decode cJ2_getChar_3b067 59 = .ok (.ireturn, 1) := by decide +kernel
theorem dJ2_length_9d52b_0 : decode cJ2_length_9d52b 0 = .ok (.aload_n 0, 1) := by decide +kernel
theorem dJ2_length_9d52b_1 : decode cJ2_length_9d52b 1 = .ok (.arraylength, 1) := by decide +kernel
theorem dJ2_length_9d52b_2 : decode cJ2_length_9d52b 2 = .ok (.iconst 1, 1) := by decide +kernel
theorem dJ2_length_9d52b_3 : decode cJ2_length_9d52b 3 = .ok (.ishr, 1) := by decide +kernel
theorem dJ2_length_9d52b_4 : decode cJ2_length_9d52b 4 = .ok (.ireturn, 1) := by decide +kernel
theorem dJ2_charAt_3b067_0 : decode cJ2_charAt_3b067 0 = .ok (.iload_n 1, 1) := by decide +kernel
theorem dJ2_charAt_3b067_1 : decode cJ2_charAt_3b067 1 = .ok (.aload_n 0, 1) := by decide +kernel
theorem dJ2_charAt_3b067_2 : decode cJ2_charAt_3b067 2 = .ok (.invokestatic 67, 3) := by decide +kernel
theorem dJ2_charAt_3b067_5 : decode cJ2_charAt_3b067 5 = .ok (.aload_n 0, 1) := by decide +kernel
theorem dJ2_charAt_3b067_6 : decode cJ2_charAt_3b067 6 = .ok (.iload_n 1, 1) := by decide +kernel
theorem dJ2_charAt_3b067_7 : decode cJ2_charAt_3b067 7 = .ok (.invokestatic 71, 3) := by decide +kernel
theorem dJ2_charAt_3b067_10 : decode cJ2_charAt_3b067 10 = .ok (.ireturn, 1) := by decide +kernel
theorem dJ2_checkIndex_2214a_0 : decode cJ2_checkIndex_2214a 0 = .ok (.iload_n 0, 1) := by decide +kernel
theorem dJ2_checkIndex_2214a_1 : decode cJ2_checkIndex_2214a 1 = .ok (.aload_n 1, 1) := by decide +kernel
theorem dJ2_checkIndex_2214a_2 : decode cJ2_checkIndex_2214a 2 = .ok (.invokestatic 48, 3) := by decide +kernel
theorem dJ2_checkIndex_2214a_5 : decode cJ2_checkIndex_2214a 5 = .ok (.invokestatic 414, 3) := by decide +kernel
theorem dJ2_checkIndex_2214a_8 : decode cJ2_checkIndex_2214a 8 = .ok (.return_, 1) := by decide +kernel
theorem dJ7_fill_53178_0 : decode cJ7_fill_53178 0 = .ok (.iconst 0, 1) := by decide +kernel
theorem dJ7_fill_53178_1 : decode cJ7_fill_53178 1 = .ok (.istore_n 2, 1) := by decide +kernel
theorem dJ7_fill_53178_2 : decode cJ7_fill_53178 2 = .ok (.aload_n 0, 1) := by decide +kernel
theorem dJ7_fill_53178_3 : decode cJ7_fill_53178 3 = .ok (.arraylength, 1) := by decide +kernel
theorem dJ7_fill_53178_4 : decode cJ7_fill_53178 4 = .ok (.istore_n 3, 1) := by decide +kernel
theorem dJ7_fill_53178_5 : decode cJ7_fill_53178 5 = .ok (.iload_n 2, 1) := by decide +kernel
theorem dJ7_fill_53178_6 : decode cJ7_fill_53178 6 = .ok (.iload_n 3, 1) := by decide +kernel
theorem dJ7_fill_53178_7 : decode cJ7_fill_53178 7 = .ok (.if_icmp .ge 13, 3) := by decide +kernel
theorem dJ7_fill_53178_10 : decode cJ7_fill_53178 10 = .ok (.aload_n 0, 1) := by decide +kernel
theorem dJ7_fill_53178_11 : decode cJ7_fill_53178 11 = .ok (.iload_n 2, 1) := by decide +kernel
theorem dJ7_fill_53178_12 : decode cJ7_fill_53178 12 = .ok (.iload_n 1, 1) := by decide +kernel
theorem dJ7_fill_53178_13 : decode cJ7_fill_53178 13 = .ok (.iastore, 1) := by decide +kernel
theorem dJ7_fill_53178_14 : decode cJ7_fill_53178 14 = .ok (.iinc 2 1, 3) := by decide +kernel
theorem dJ7_fill_53178_17 : decode cJ7_fill_53178 17 = .ok (.goto (-12), 3) := by decide +kernel
theorem dJ7_fill_53178_20 : decode cJ7_fill_53178 20 = .ok (.return_, 1) := by decide +kernel
theorem dJ3_checkIndex_8e157_0 : decode cJ3_checkIndex_8e157 0 = .ok (.iload_n 0, 1) := by decide +kernel
theorem dJ3_checkIndex_8e157_1 : decode cJ3_checkIndex_8e157 1 = .ok (.ifCond .lt 8, 3) := by decide +kernel
theorem dJ3_checkIndex_8e157_4 : decode cJ3_checkIndex_8e157 4 = .ok (.iload_n 0, 1) := by decide +kernel
theorem dJ3_checkIndex_8e157_5 : decode cJ3_checkIndex_8e157 5 = .ok (.iload_n 1, 1) := by decide +kernel
theorem dJ3_checkIndex_8e157_6 : decode cJ3_checkIndex_8e157 6 = .ok (.if_icmp .lt 10, 3) := by decide +kernel
theorem dJ3_checkIndex_8e157_9 : decode cJ3_checkIndex_8e157 9 = .ok (.aload_n 2, 1) := by decide +kernel
theorem dJ3_checkIndex_8e157_10 : decode cJ3_checkIndex_8e157 10 = .ok (.iload_n 0, 1) := by decide +kernel
theorem dJ3_checkIndex_8e157_11 : decode cJ3_checkIndex_8e157 11 = .ok (.iload_n 1, 1) := by decide +kernel
theorem dJ3_checkIndex_8e157_12 : decode cJ3_checkIndex_8e157 12 = .ok (.invokestatic 95, 3) := by decide +kernel
theorem dJ3_checkIndex_8e157_15 : decode cJ3_checkIndex_8e157 15 = .ok (.athrow, 1) := by decide +kernel
theorem dJ3_checkIndex_8e157_16 : decode cJ3_checkIndex_8e157 16 = .ok (.iload_n 0, 1) := by decide +kernel
theorem dJ3_checkIndex_8e157_17 : decode cJ3_checkIndex_8e157 17 = .ok (.ireturn, 1) := by decide +kernel
theorem dL_variable_0 : decode cL_variable 0 = .ok (.aload_n 0, 1) := by decide +kernel
theorem dL_variable_1 : decode cL_variable 1 = .ok (.iload_n 1, 1) := by decide +kernel
theorem dL_variable_2 : decode cL_variable 2 = .ok (.iload_n 2, 1) := by decide +kernel
theorem dL_variable_3 : decode cL_variable 3 = .ok (.invokevirtual 7, 3) := by decide +kernel
theorem dL_variable_6 : decode cL_variable 6 = .ok (.goto 6, 3) := by decide +kernel
theorem dL_variable_9 : decode cL_variable 9 = .ok (.astore_n 3, 1) := by decide +kernel
theorem dL_variable_10 : decode cL_variable 10 = .ok (.iconst 1, 1) := by decide +kernel
theorem dL_variable_11 : decode cL_variable 11 = .ok (.ireturn, 1) := by decide +kernel
theorem dL_variable_12 : decode cL_variable 12 = .ok (.iconst 0, 1) := by decide +kernel
theorem dL_variable_13 : decode cL_variable 13 = .ok (.ireturn, 1) := by decide +kernel
theorem dL_word_0 : decode cL_word 0 = .ok (.aload_n 0, 1) := by decide +kernel
theorem dL_word_1 : decode cL_word 1 = .ok (.iload_n 1, 1) := by decide +kernel
theorem dL_word_2 : decode cL_word 2 = .ok (.iload_n 2, 1) := by decide +kernel
theorem dL_word_3 : decode cL_word 3 = .ok (.invokevirtual 15, 3) := by decide +kernel
theorem dL_word_6 : decode cL_word 6 = .ok (.goto 6, 3) := by decide +kernel
theorem dL_word_9 : decode cL_word 9 = .ok (.astore_n 3, 1) := by decide +kernel
theorem dL_word_10 : decode cL_word 10 = .ok (.iconst 1, 1) := by decide +kernel
theorem dL_word_11 : decode cL_word 11 = .ok (.ireturn, 1) := by decide +kernel
theorem dL_word_12 : decode cL_word 12 = .ok (.iconst 0, 1) := by decide +kernel
theorem dL_word_13 : decode cL_word 13 = .ok (.ireturn, 1) := by decide +kernel
theorem dL_feed_0 : decode cL_feed 0 = .ok (.aload 4, 2) := by decide +kernel
theorem dL_feed_2 : decode cL_feed 2 = .ok (.iconst 0, 1) := by decide +kernel
theorem dL_feed_3 : decode cL_feed 3 = .ok (.aload_n 0, 1) := by decide +kernel
theorem dL_feed_4 : decode cL_feed 4 = .ok (.lload_n 1, 1) := by decide +kernel
theorem dL_feed_5 : decode cL_feed 5 = .ok (.iload_n 3, 1) := by decide +kernel
theorem dL_feed_6 : decode cL_feed 6 = .ok (.invokevirtual 18, 3) := by decide +kernel
theorem dL_feed_9 : decode cL_feed 9 = .ok (.i2l, 1) := by decide +kernel
theorem dL_feed_10 : decode cL_feed 10 = .ok (.lastore, 1) := by decide +kernel
theorem dL_feed_11 : decode cL_feed 11 = .ok (.goto 11, 3) := by decide +kernel
theorem dL_feed_14 : decode cL_feed 14 = .ok (.astore 5, 2) := by decide +kernel
theorem dL_feed_16 : decode cL_feed 16 = .ok (.iconst 1, 1) := by decide +kernel
theorem dL_feed_17 : decode cL_feed 17 = .ok (.ireturn, 1) := by decide +kernel
theorem dL_feed_18 : decode cL_feed 18 = .ok (.astore 5, 2) := by decide +kernel
theorem dL_feed_20 : decode cL_feed 20 = .ok (.iconst 2, 1) := by decide +kernel
theorem dL_feed_21 : decode cL_feed 21 = .ok (.ireturn, 1) := by decide +kernel
theorem dL_feed_22 : decode cL_feed 22 = .ok (.iconst 0, 1) := by decide +kernel
theorem dL_feed_23 : decode cL_feed 23 = .ok (.ireturn, 1) := by decide +kernel
theorem dL_statement_0 : decode cL_statement 0 = .ok (.aload_n 3, 1) := by decide +kernel
theorem dL_statement_1 : decode cL_statement 1 = .ok (.iconst 0, 1) := by decide +kernel
theorem dL_statement_2 : decode cL_statement 2 = .ok (.aload_n 0, 1) := by decide +kernel
theorem dL_statement_3 : decode cL_statement 3 = .ok (.iload_n 1, 1) := by decide +kernel
theorem dL_statement_4 : decode cL_statement 4 = .ok (.iload_n 2, 1) := by decide +kernel
theorem dL_statement_5 : decode cL_statement 5 = .ok (.invokevirtual 26, 3) := by decide +kernel
theorem dL_statement_8 : decode cL_statement 8 = .ok (.i2l, 1) := by decide +kernel
theorem dL_statement_9 : decode cL_statement 9 = .ok (.lastore, 1) := by decide +kernel
theorem dL_statement_10 : decode cL_statement 10 = .ok (.goto 11, 3) := by decide +kernel
theorem dL_statement_13 : decode cL_statement 13 = .ok (.astore 4, 2) := by decide +kernel
theorem dL_statement_15 : decode cL_statement 15 = .ok (.iconst 1, 1) := by decide +kernel
theorem dL_statement_16 : decode cL_statement 16 = .ok (.ireturn, 1) := by decide +kernel
theorem dL_statement_17 : decode cL_statement 17 = .ok (.astore 4, 2) := by decide +kernel
theorem dL_statement_19 : decode cL_statement 19 = .ok (.iconst 2, 1) := by decide +kernel
theorem dL_statement_20 : decode cL_statement 20 = .ok (.ireturn, 1) := by decide +kernel
theorem dL_statement_21 : decode cL_statement 21 = .ok (.iconst 0, 1) := by decide +kernel
theorem dL_statement_22 : decode cL_statement 22 = .ok (.ireturn, 1) := by decide +kernel
theorem dL_lower_0 : decode cL_lower 0 = .ok (.aload_n 2, 1) := by decide +kernel
theorem dL_lower_1 : decode cL_lower 1 = .ok (.iconst 0, 1) := by decide +kernel
theorem dL_lower_2 : decode cL_lower 2 = .ok (.aload_n 0, 1) := by decide +kernel
theorem dL_lower_3 : decode cL_lower 3 = .ok (.iload_n 1, 1) := by decide +kernel
theorem dL_lower_4 : decode cL_lower 4 = .ok (.invokevirtual 30, 3) := by decide +kernel
theorem dL_lower_7 : decode cL_lower 7 = .ok (.i2l, 1) := by decide +kernel
theorem dL_lower_8 : decode cL_lower 8 = .ok (.lastore, 1) := by decide +kernel
theorem dL_lower_9 : decode cL_lower 9 = .ok (.goto 6, 3) := by decide +kernel
theorem dL_lower_12 : decode cL_lower 12 = .ok (.astore_n 3, 1) := by decide +kernel
theorem dL_lower_13 : decode cL_lower 13 = .ok (.iconst 1, 1) := by decide +kernel
theorem dL_lower_14 : decode cL_lower 14 = .ok (.ireturn, 1) := by decide +kernel
theorem dL_lower_15 : decode cL_lower 15 = .ok (.iconst 0, 1) := by decide +kernel
theorem dL_lower_16 : decode cL_lower 16 = .ok (.ireturn, 1) := by decide +kernel
theorem dL_step_0 : decode cL_step 0 = .ok (.aload_n 3, 1) := by decide +kernel
theorem dL_step_1 : decode cL_step 1 = .ok (.iconst 0, 1) := by decide +kernel
theorem dL_step_2 : decode cL_step 2 = .ok (.aload_n 0, 1) := by decide +kernel
theorem dL_step_3 : decode cL_step 3 = .ok (.iload_n 1, 1) := by decide +kernel
theorem dL_step_4 : decode cL_step 4 = .ok (.iload_n 2, 1) := by decide +kernel
theorem dL_step_5 : decode cL_step 5 = .ok (.invokevirtual 34, 3) := by decide +kernel
theorem dL_step_8 : decode cL_step 8 = .ok (.i2l, 1) := by decide +kernel
theorem dL_step_9 : decode cL_step 9 = .ok (.lastore, 1) := by decide +kernel
theorem dL_step_10 : decode cL_step 10 = .ok (.goto 11, 3) := by decide +kernel
theorem dL_step_13 : decode cL_step 13 = .ok (.astore 4, 2) := by decide +kernel
theorem dL_step_15 : decode cL_step 15 = .ok (.iconst 1, 1) := by decide +kernel
theorem dL_step_16 : decode cL_step 16 = .ok (.ireturn, 1) := by decide +kernel
theorem dL_step_17 : decode cL_step 17 = .ok (.astore 4, 2) := by decide +kernel
theorem dL_step_19 : decode cL_step 19 = .ok (.iconst 2, 1) := by decide +kernel
theorem dL_step_20 : decode cL_step 20 = .ok (.ireturn, 1) := by decide +kernel
theorem dL_step_21 : decode cL_step 21 = .ok (.iconst 0, 1) := by decide +kernel
theorem dL_step_22 : decode cL_step 22 = .ok (.ireturn, 1) := by decide +kernel
theorem dL_run_0 : decode cL_run 0 = .ok (.aload_n 1, 1) := by decide +kernel
theorem dL_run_1 : decode cL_run 1 = .ok (.iconst 0, 1) := by decide +kernel
theorem dL_run_2 : decode cL_run 2 = .ok (.aload_n 0, 1) := by decide +kernel
theorem dL_run_3 : decode cL_run 3 = .ok (.invokevirtual 37, 3) := by decide +kernel
theorem dL_run_6 : decode cL_run 6 = .ok (.i2l, 1) := by decide +kernel
theorem dL_run_7 : decode cL_run 7 = .ok (.lastore, 1) := by decide +kernel
theorem dL_run_8 : decode cL_run 8 = .ok (.goto 6, 3) := by decide +kernel
theorem dL_run_11 : decode cL_run 11 = .ok (.astore_n 2, 1) := by decide +kernel
theorem dL_run_12 : decode cL_run 12 = .ok (.iconst 1, 1) := by decide +kernel
theorem dL_run_13 : decode cL_run 13 = .ok (.ireturn, 1) := by decide +kernel
theorem dL_run_14 : decode cL_run 14 = .ok (.iconst 0, 1) := by decide +kernel
theorem dL_run_15 : decode cL_run 15 = .ok (.ireturn, 1) := by decide +kernel
theorem dL_left_0 : decode cL_left 0 = .ok (.aload_n 2, 1) := by decide +kernel
theorem dL_left_1 : decode cL_left 1 = .ok (.iconst 0, 1) := by decide +kernel
theorem dL_left_2 : decode cL_left 2 = .ok (.aload_n 0, 1) := by decide +kernel
theorem dL_left_3 : decode cL_left 3 = .ok (.iload_n 1, 1) := by decide +kernel
theorem dL_left_4 : decode cL_left 4 = .ok (.invokevirtual 41, 3) := by decide +kernel
theorem dL_left_7 : decode cL_left 7 = .ok (.i2l, 1) := by decide +kernel
theorem dL_left_8 : decode cL_left 8 = .ok (.lastore, 1) := by decide +kernel
theorem dL_left_9 : decode cL_left 9 = .ok (.goto 6, 3) := by decide +kernel
theorem dL_left_12 : decode cL_left 12 = .ok (.astore_n 3, 1) := by decide +kernel
theorem dL_left_13 : decode cL_left 13 = .ok (.iconst 1, 1) := by decide +kernel
theorem dL_left_14 : decode cL_left 14 = .ok (.ireturn, 1) := by decide +kernel
theorem dL_left_15 : decode cL_left 15 = .ok (.iconst 0, 1) := by decide +kernel
theorem dL_left_16 : decode cL_left 16 = .ok (.ireturn, 1) := by decide +kernel
theorem dL_kept_0 : decode cL_kept 0 = .ok (.aload_n 2, 1) := by decide +kernel
theorem dL_kept_1 : decode cL_kept 1 = .ok (.iconst 0, 1) := by decide +kernel
theorem dL_kept_2 : decode cL_kept 2 = .ok (.aload_n 0, 1) := by decide +kernel
theorem dL_kept_3 : decode cL_kept 3 = .ok (.iload_n 1, 1) := by decide +kernel
theorem dL_kept_4 : decode cL_kept 4 = .ok (.invokevirtual 44, 3) := by decide +kernel
theorem dL_kept_7 : decode cL_kept 7 = .ok (.i2l, 1) := by decide +kernel
theorem dL_kept_8 : decode cL_kept 8 = .ok (.lastore, 1) := by decide +kernel
theorem dL_kept_9 : decode cL_kept 9 = .ok (.goto 6, 3) := by decide +kernel
theorem dL_kept_12 : decode cL_kept 12 = .ok (.astore_n 3, 1) := by decide +kernel
theorem dL_kept_13 : decode cL_kept 13 = .ok (.iconst 1, 1) := by decide +kernel
theorem dL_kept_14 : decode cL_kept 14 = .ok (.ireturn, 1) := by decide +kernel
theorem dL_kept_15 : decode cL_kept 15 = .ok (.iconst 0, 1) := by decide +kernel
theorem dL_kept_16 : decode cL_kept 16 = .ok (.ireturn, 1) := by decide +kernel
theorem dL_output_0 : decode cL_output 0 = .ok (.aload_n 2, 1) := by decide +kernel
theorem dL_output_1 : decode cL_output 1 = .ok (.iconst 0, 1) := by decide +kernel
theorem dL_output_2 : decode cL_output 2 = .ok (.aload_n 0, 1) := by decide +kernel
theorem dL_output_3 : decode cL_output 3 = .ok (.iload_n 1, 1) := by decide +kernel
theorem dL_output_4 : decode cL_output 4 = .ok (.invokevirtual 47, 3) := by decide +kernel
theorem dL_output_7 : decode cL_output 7 = .ok (.i2l, 1) := by decide +kernel
theorem dL_output_8 : decode cL_output 8 = .ok (.lastore, 1) := by decide +kernel
theorem dL_output_9 : decode cL_output 9 = .ok (.goto 6, 3) := by decide +kernel
theorem dL_output_12 : decode cL_output 12 = .ok (.astore_n 3, 1) := by decide +kernel
theorem dL_output_13 : decode cL_output 13 = .ok (.iconst 1, 1) := by decide +kernel
theorem dL_output_14 : decode cL_output 14 = .ok (.ireturn, 1) := by decide +kernel
theorem dL_output_15 : decode cL_output 15 = .ok (.iconst 0, 1) := by decide +kernel
theorem dL_output_16 : decode cL_output 16 = .ok (.ireturn, 1) := by decide +kernel
theorem dL_count_0 : decode cL_count 0 = .ok (.aload_n 2, 1) := by decide +kernel
theorem dL_count_1 : decode cL_count 1 = .ok (.iconst 0, 1) := by decide +kernel
theorem dL_count_2 : decode cL_count 2 = .ok (.aload_n 0, 1) := by decide +kernel
theorem dL_count_3 : decode cL_count 3 = .ok (.iload_n 1, 1) := by decide +kernel
theorem dL_count_4 : decode cL_count 4 = .ok (.invokevirtual 50, 3) := by decide +kernel
theorem dL_count_7 : decode cL_count 7 = .ok (.i2l, 1) := by decide +kernel
theorem dL_count_8 : decode cL_count 8 = .ok (.lastore, 1) := by decide +kernel
theorem dL_count_9 : decode cL_count 9 = .ok (.goto 6, 3) := by decide +kernel
theorem dL_count_12 : decode cL_count 12 = .ok (.astore_n 3, 1) := by decide +kernel
theorem dL_count_13 : decode cL_count 13 = .ok (.iconst 1, 1) := by decide +kernel
theorem dL_count_14 : decode cL_count 14 = .ok (.ireturn, 1) := by decide +kernel
theorem dL_count_15 : decode cL_count 15 = .ok (.iconst 0, 1) := by decide +kernel
theorem dL_count_16 : decode cL_count 16 = .ok (.ireturn, 1) := by decide +kernel
theorem dL_law_0 : decode cL_law 0 = .ok (.new 8, 3) := by decide +kernel
theorem dL_law_3 : decode cL_law 3 = .ok (.dup, 1) := by decide +kernel
theorem dL_law_4 : decode cL_law 4 = .ok (.invokespecial 53, 3) := by decide +kernel
theorem dL_law_7 : decode cL_law 7 = .ok (.astore_n 1, 1) := by decide +kernel
theorem dL_law_8 : decode cL_law 8 = .ok (.new 54, 3) := by decide +kernel
theorem dL_law_11 : decode cL_law 11 = .ok (.dup, 1) := by decide +kernel
theorem dL_law_12 : decode cL_law 12 = .ok (.invokespecial 56, 3) := by decide +kernel
theorem dL_law_15 : decode cL_law 15 = .ok (.astore_n 2, 1) := by decide +kernel
theorem dL_law_16 : decode cL_law 16 = .ok (.iconst 1, 1) := by decide +kernel
theorem dL_law_17 : decode cL_law 17 = .ok (.newarray .long, 2) := by decide +kernel
theorem dL_law_19 : decode cL_law 19 = .ok (.astore_n 3, 1) := by decide +kernel
theorem dL_law_20 : decode cL_law 20 = .ok (.iconst 0, 1) := by decide +kernel
theorem dL_law_21 : decode cL_law 21 = .ok (.istore 4, 2) := by decide +kernel
theorem dL_law_23 : decode cL_law 23 = .ok (.iload 4, 2) := by decide +kernel
theorem dL_law_25 : decode cL_law 25 = .ok (.aload_n 0, 1) := by decide +kernel
theorem dL_law_26 : decode cL_law 26 = .ok (.arraylength, 1) := by decide +kernel
theorem dL_law_27 : decode cL_law 27 = .ok (.iconst 4, 1) := by decide +kernel
theorem dL_law_28 : decode cL_law 28 = .ok (.isub, 1) := by decide +kernel
theorem dL_law_29 : decode cL_law 29 = .ok (.if_icmp .gt 534, 3) := by decide +kernel
theorem dL_law_32 : decode cL_law 32 = .ok (.aload_n 0, 1) := by decide +kernel
theorem dL_law_33 : decode cL_law 33 = .ok (.iload 4, 2) := by decide +kernel
theorem dL_law_35 : decode cL_law 35 = .ok (.iaload, 1) := by decide +kernel
theorem dL_law_36 : decode cL_law 36 = .ok (.bipush 15, 2) := by decide +kernel
theorem dL_law_38 : decode cL_law 38 = .ok (.iand, 1) := by decide +kernel
theorem dL_law_39 : decode cL_law 39 = .ok (.tableswitch 518 0 14 #[73, 110, 158, 230, 243, 256, 296, 324, 337, 377, 390, 406, 434, 462, 490], 73) := by decide +kernel
theorem dL_law_112 : decode cL_law 112 = .ok (.aload_n 1, 1) := by decide +kernel
theorem dL_law_113 : decode cL_law 113 = .ok (.aload_n 0, 1) := by decide +kernel
theorem dL_law_114 : decode cL_law 114 = .ok (.iload 4, 2) := by decide +kernel
theorem dL_law_116 : decode cL_law 116 = .ok (.iconst 1, 1) := by decide +kernel
theorem dL_law_117 : decode cL_law 117 = .ok (.iadd, 1) := by decide +kernel
theorem dL_law_118 : decode cL_law 118 = .ok (.iaload, 1) := by decide +kernel
theorem dL_law_119 : decode cL_law 119 = .ok (.aload_n 0, 1) := by decide +kernel
theorem dL_law_120 : decode cL_law 120 = .ok (.iload 4, 2) := by decide +kernel
theorem dL_law_122 : decode cL_law 122 = .ok (.iconst 2, 1) := by decide +kernel
theorem dL_law_123 : decode cL_law 123 = .ok (.iadd, 1) := by decide +kernel
theorem dL_law_124 : decode cL_law 124 = .ok (.iaload, 1) := by decide +kernel
theorem dL_law_125 : decode cL_law 125 = .ok (.invokestatic 57, 3) := by decide +kernel
theorem dL_law_128 : decode cL_law 128 = .ok (.istore 5, 2) := by decide +kernel
theorem dL_law_130 : decode cL_law 130 = .ok (.aload_n 2, 1) := by decide +kernel
theorem dL_law_131 : decode cL_law 131 = .ok (.aload_n 0, 1) := by decide +kernel
theorem dL_law_132 : decode cL_law 132 = .ok (.iload 4, 2) := by decide +kernel
theorem dL_law_134 : decode cL_law 134 = .ok (.iconst 1, 1) := by decide +kernel
theorem dL_law_135 : decode cL_law 135 = .ok (.iadd, 1) := by decide +kernel
theorem dL_law_136 : decode cL_law 136 = .ok (.iaload, 1) := by decide +kernel
theorem dL_law_137 : decode cL_law 137 = .ok (.aload_n 0, 1) := by decide +kernel
theorem dL_law_138 : decode cL_law 138 = .ok (.iload 4, 2) := by decide +kernel
theorem dL_law_140 : decode cL_law 140 = .ok (.iconst 2, 1) := by decide +kernel
theorem dL_law_141 : decode cL_law 141 = .ok (.iadd, 1) := by decide +kernel
theorem dL_law_142 : decode cL_law 142 = .ok (.iaload, 1) := by decide +kernel
theorem dL_law_143 : decode cL_law 143 = .ok (.invokevirtual 62, 3) := by decide +kernel
theorem dL_law_146 : decode cL_law 146 = .ok (.goto 411, 3) := by decide +kernel
theorem dL_law_149 : decode cL_law 149 = .ok (.aload_n 1, 1) := by decide +kernel
theorem dL_law_150 : decode cL_law 150 = .ok (.aload_n 0, 1) := by decide +kernel
theorem dL_law_151 : decode cL_law 151 = .ok (.iload 4, 2) := by decide +kernel
theorem dL_law_153 : decode cL_law 153 = .ok (.iconst 1, 1) := by decide +kernel
theorem dL_law_154 : decode cL_law 154 = .ok (.iadd, 1) := by decide +kernel
theorem dL_law_155 : decode cL_law 155 = .ok (.iaload, 1) := by decide +kernel
theorem dL_law_156 : decode cL_law 156 = .ok (.aload_n 0, 1) := by decide +kernel
theorem dL_law_157 : decode cL_law 157 = .ok (.iload 4, 2) := by decide +kernel
theorem dL_law_159 : decode cL_law 159 = .ok (.iconst 2, 1) := by decide +kernel
theorem dL_law_160 : decode cL_law 160 = .ok (.iadd, 1) := by decide +kernel
theorem dL_law_161 : decode cL_law 161 = .ok (.iaload, 1) := by decide +kernel
theorem dL_law_162 : decode cL_law 162 = .ok (.invokestatic 63, 3) := by decide +kernel
theorem dL_law_165 : decode cL_law 165 = .ok (.istore 5, 2) := by decide +kernel
theorem dL_law_167 : decode cL_law 167 = .ok (.aload_n 2, 1) := by decide +kernel
theorem dL_law_168 : decode cL_law 168 = .ok (.aload_n 0, 1) := by decide +kernel
theorem dL_law_169 : decode cL_law 169 = .ok (.iload 4, 2) := by decide +kernel
theorem dL_law_171 : decode cL_law 171 = .ok (.iconst 1, 1) := by decide +kernel
theorem dL_law_172 : decode cL_law 172 = .ok (.iadd, 1) := by decide +kernel
theorem dL_law_173 : decode cL_law 173 = .ok (.iaload, 1) := by decide +kernel
theorem dL_law_174 : decode cL_law 174 = .ok (.aload_n 0, 1) := by decide +kernel
theorem dL_law_175 : decode cL_law 175 = .ok (.iload 4, 2) := by decide +kernel
theorem dL_law_177 : decode cL_law 177 = .ok (.iconst 2, 1) := by decide +kernel
theorem dL_law_178 : decode cL_law 178 = .ok (.iadd, 1) := by decide +kernel
theorem dL_law_179 : decode cL_law 179 = .ok (.iaload, 1) := by decide +kernel
theorem dL_law_180 : decode cL_law 180 = .ok (.invokevirtual 65, 3) := by decide +kernel
theorem dL_law_183 : decode cL_law 183 = .ok (.aload_n 2, 1) := by decide +kernel
theorem dL_law_184 : decode cL_law 184 = .ok (.invokevirtual 66, 3) := by decide +kernel
theorem dL_law_187 : decode cL_law 187 = .ok (.iload 5, 2) := by decide +kernel
theorem dL_law_189 : decode cL_law 189 = .ok (.if_icmp .eq 5, 3) := by decide +kernel
theorem dL_law_192 : decode cL_law 192 = .ok (.iconst 0, 1) := by decide +kernel
theorem dL_law_193 : decode cL_law 193 = .ok (.ireturn, 1) := by decide +kernel
theorem dL_law_194 : decode cL_law 194 = .ok (.goto 363, 3) := by decide +kernel
theorem dL_law_197 : decode cL_law 197 = .ok (.aload_n 1, 1) := by decide +kernel
theorem dL_law_198 : decode cL_law 198 = .ok (.aload_n 0, 1) := by decide +kernel
theorem dL_law_199 : decode cL_law 199 = .ok (.iload 4, 2) := by decide +kernel
theorem dL_law_201 : decode cL_law 201 = .ok (.iconst 1, 1) := by decide +kernel
theorem dL_law_202 : decode cL_law 202 = .ok (.iadd, 1) := by decide +kernel
theorem dL_law_203 : decode cL_law 203 = .ok (.iaload, 1) := by decide +kernel
theorem dL_law_204 : decode cL_law 204 = .ok (.i2l, 1) := by decide +kernel
theorem dL_law_205 : decode cL_law 205 = .ok (.bipush 32, 2) := by decide +kernel
theorem dL_law_207 : decode cL_law 207 = .ok (.lshl, 1) := by decide +kernel
theorem dL_law_208 : decode cL_law 208 = .ok (.aload_n 0, 1) := by decide +kernel
theorem dL_law_209 : decode cL_law 209 = .ok (.iload 4, 2) := by decide +kernel
theorem dL_law_211 : decode cL_law 211 = .ok (.iconst 2, 1) := by decide +kernel
theorem dL_law_212 : decode cL_law 212 = .ok (.iadd, 1) := by decide +kernel
theorem dL_law_213 : decode cL_law 213 = .ok (.iaload, 1) := by decide +kernel
theorem dL_law_214 : decode cL_law 214 = .ok (.i2l, 1) := by decide +kernel
theorem dL_law_215 : decode cL_law 215 = .ok (.ldc2_w 69, 3) := by decide +kernel
theorem dL_law_218 : decode cL_law 218 = .ok (.land, 1) := by decide +kernel
theorem dL_law_219 : decode cL_law 219 = .ok (.lor, 1) := by decide +kernel
theorem dL_law_220 : decode cL_law 220 = .ok (.aload_n 0, 1) := by decide +kernel
theorem dL_law_221 : decode cL_law 221 = .ok (.iload 4, 2) := by decide +kernel
theorem dL_law_223 : decode cL_law 223 = .ok (.iconst 3, 1) := by decide +kernel
theorem dL_law_224 : decode cL_law 224 = .ok (.iadd, 1) := by decide +kernel
theorem dL_law_225 : decode cL_law 225 = .ok (.iaload, 1) := by decide +kernel
theorem dL_law_226 : decode cL_law 226 = .ok (.aload_n 3, 1) := by decide +kernel
theorem dL_law_227 : decode cL_law 227 = .ok (.invokestatic 71, 3) := by decide +kernel
theorem dL_law_230 : decode cL_law 230 = .ok (.istore 5, 2) := by decide +kernel
theorem dL_law_232 : decode cL_law 232 = .ok (.aload_n 2, 1) := by decide +kernel
theorem dL_law_233 : decode cL_law 233 = .ok (.aload_n 0, 1) := by decide +kernel
theorem dL_law_234 : decode cL_law 234 = .ok (.iload 4, 2) := by decide +kernel
theorem dL_law_236 : decode cL_law 236 = .ok (.iconst 1, 1) := by decide +kernel
theorem dL_law_237 : decode cL_law 237 = .ok (.iadd, 1) := by decide +kernel
theorem dL_law_238 : decode cL_law 238 = .ok (.iaload, 1) := by decide +kernel
theorem dL_law_239 : decode cL_law 239 = .ok (.i2l, 1) := by decide +kernel
theorem dL_law_240 : decode cL_law 240 = .ok (.bipush 32, 2) := by decide +kernel
theorem dL_law_242 : decode cL_law 242 = .ok (.lshl, 1) := by decide +kernel
theorem dL_law_243 : decode cL_law 243 = .ok (.aload_n 0, 1) := by decide +kernel
theorem dL_law_244 : decode cL_law 244 = .ok (.iload 4, 2) := by decide +kernel
theorem dL_law_246 : decode cL_law 246 = .ok (.iconst 2, 1) := by decide +kernel
theorem dL_law_247 : decode cL_law 247 = .ok (.iadd, 1) := by decide +kernel
theorem dL_law_248 : decode cL_law 248 = .ok (.iaload, 1) := by decide +kernel
theorem dL_law_249 : decode cL_law 249 = .ok (.i2l, 1) := by decide +kernel
theorem dL_law_250 : decode cL_law 250 = .ok (.ldc2_w 69, 3) := by decide +kernel
theorem dL_law_253 : decode cL_law 253 = .ok (.land, 1) := by decide +kernel
theorem dL_law_254 : decode cL_law 254 = .ok (.lor, 1) := by decide +kernel
theorem dL_law_255 : decode cL_law 255 = .ok (.aload_n 0, 1) := by decide +kernel
theorem dL_law_256 : decode cL_law 256 = .ok (.iload 4, 2) := by decide +kernel
theorem dL_law_258 : decode cL_law 258 = .ok (.iconst 3, 1) := by decide +kernel
theorem dL_law_259 : decode cL_law 259 = .ok (.iadd, 1) := by decide +kernel
theorem dL_law_260 : decode cL_law 260 = .ok (.iaload, 1) := by decide +kernel
theorem dL_law_261 : decode cL_law 261 = .ok (.invokevirtual 74, 3) := by decide +kernel
theorem dL_law_264 : decode cL_law 264 = .ok (.istore 6, 2) := by decide +kernel
theorem dL_law_266 : decode cL_law 266 = .ok (.goto 291, 3) := by decide +kernel
theorem dL_law_269 : decode cL_law 269 = .ok (.aload_n 1, 1) := by decide +kernel
theorem dL_law_270 : decode cL_law 270 = .ok (.invokevirtual 75, 3) := by decide +kernel
theorem dL_law_273 : decode cL_law 273 = .ok (.pop, 1) := by decide +kernel
theorem dL_law_274 : decode cL_law 274 = .ok (.aload_n 2, 1) := by decide +kernel
theorem dL_law_275 : decode cL_law 275 = .ok (.invokevirtual 78, 3) := by decide +kernel
theorem dL_law_278 : decode cL_law 278 = .ok (.pop, 1) := by decide +kernel
theorem dL_law_279 : decode cL_law 279 = .ok (.goto 278, 3) := by decide +kernel
theorem dL_law_282 : decode cL_law 282 = .ok (.aload_n 1, 1) := by decide +kernel
theorem dL_law_283 : decode cL_law 283 = .ok (.invokevirtual 79, 3) := by decide +kernel
theorem dL_law_286 : decode cL_law 286 = .ok (.pop, 1) := by decide +kernel
theorem dL_law_287 : decode cL_law 287 = .ok (.aload_n 2, 1) := by decide +kernel
theorem dL_law_288 : decode cL_law 288 = .ok (.invokevirtual 82, 3) := by decide +kernel
theorem dL_law_291 : decode cL_law 291 = .ok (.pop, 1) := by decide +kernel
theorem dL_law_292 : decode cL_law 292 = .ok (.goto 265, 3) := by decide +kernel
theorem dL_law_295 : decode cL_law 295 = .ok (.aload_n 1, 1) := by decide +kernel
theorem dL_law_296 : decode cL_law 296 = .ok (.aload_n 0, 1) := by decide +kernel
theorem dL_law_297 : decode cL_law 297 = .ok (.iload 4, 2) := by decide +kernel
theorem dL_law_299 : decode cL_law 299 = .ok (.iconst 1, 1) := by decide +kernel
theorem dL_law_300 : decode cL_law 300 = .ok (.iadd, 1) := by decide +kernel
theorem dL_law_301 : decode cL_law 301 = .ok (.iaload, 1) := by decide +kernel
theorem dL_law_302 : decode cL_law 302 = .ok (.aload_n 0, 1) := by decide +kernel
theorem dL_law_303 : decode cL_law 303 = .ok (.iload 4, 2) := by decide +kernel
theorem dL_law_305 : decode cL_law 305 = .ok (.iconst 2, 1) := by decide +kernel
theorem dL_law_306 : decode cL_law 306 = .ok (.iadd, 1) := by decide +kernel
theorem dL_law_307 : decode cL_law 307 = .ok (.iaload, 1) := by decide +kernel
theorem dL_law_308 : decode cL_law 308 = .ok (.aload_n 3, 1) := by decide +kernel
theorem dL_law_309 : decode cL_law 309 = .ok (.invokestatic 83, 3) := by decide +kernel
theorem dL_law_312 : decode cL_law 312 = .ok (.istore 5, 2) := by decide +kernel
theorem dL_law_314 : decode cL_law 314 = .ok (.aload_n 2, 1) := by decide +kernel
theorem dL_law_315 : decode cL_law 315 = .ok (.aload_n 0, 1) := by decide +kernel
theorem dL_law_316 : decode cL_law 316 = .ok (.iload 4, 2) := by decide +kernel
theorem dL_law_318 : decode cL_law 318 = .ok (.iconst 1, 1) := by decide +kernel
theorem dL_law_319 : decode cL_law 319 = .ok (.iadd, 1) := by decide +kernel
theorem dL_law_320 : decode cL_law 320 = .ok (.iaload, 1) := by decide +kernel
theorem dL_law_321 : decode cL_law 321 = .ok (.aload_n 0, 1) := by decide +kernel
theorem dL_law_322 : decode cL_law 322 = .ok (.iload 4, 2) := by decide +kernel
theorem dL_law_324 : decode cL_law 324 = .ok (.iconst 2, 1) := by decide +kernel
theorem dL_law_325 : decode cL_law 325 = .ok (.iadd, 1) := by decide +kernel
theorem dL_law_326 : decode cL_law 326 = .ok (.iaload, 1) := by decide +kernel
theorem dL_law_327 : decode cL_law 327 = .ok (.invokevirtual 86, 3) := by decide +kernel
theorem dL_law_330 : decode cL_law 330 = .ok (.istore 6, 2) := by decide +kernel
theorem dL_law_332 : decode cL_law 332 = .ok (.goto 225, 3) := by decide +kernel
theorem dL_law_335 : decode cL_law 335 = .ok (.aload_n 1, 1) := by decide +kernel
theorem dL_law_336 : decode cL_law 336 = .ok (.aload_n 0, 1) := by decide +kernel
theorem dL_law_337 : decode cL_law 337 = .ok (.iload 4, 2) := by decide +kernel
theorem dL_law_339 : decode cL_law 339 = .ok (.iconst 1, 1) := by decide +kernel
theorem dL_law_340 : decode cL_law 340 = .ok (.iadd, 1) := by decide +kernel
theorem dL_law_341 : decode cL_law 341 = .ok (.iaload, 1) := by decide +kernel
theorem dL_law_342 : decode cL_law 342 = .ok (.aload_n 3, 1) := by decide +kernel
theorem dL_law_343 : decode cL_law 343 = .ok (.invokestatic 87, 3) := by decide +kernel
theorem dL_law_346 : decode cL_law 346 = .ok (.istore 5, 2) := by decide +kernel
theorem dL_law_348 : decode cL_law 348 = .ok (.aload_n 2, 1) := by decide +kernel
theorem dL_law_349 : decode cL_law 349 = .ok (.aload_n 0, 1) := by decide +kernel
theorem dL_law_350 : decode cL_law 350 = .ok (.iload 4, 2) := by decide +kernel
theorem dL_law_352 : decode cL_law 352 = .ok (.iconst 1, 1) := by decide +kernel
theorem dL_law_353 : decode cL_law 353 = .ok (.iadd, 1) := by decide +kernel
theorem dL_law_354 : decode cL_law 354 = .ok (.iaload, 1) := by decide +kernel
theorem dL_law_355 : decode cL_law 355 = .ok (.invokevirtual 90, 3) := by decide +kernel
theorem dL_law_358 : decode cL_law 358 = .ok (.istore 6, 2) := by decide +kernel
theorem dL_law_360 : decode cL_law 360 = .ok (.goto 197, 3) := by decide +kernel
theorem dL_law_363 : decode cL_law 363 = .ok (.aload_n 1, 1) := by decide +kernel
theorem dL_law_364 : decode cL_law 364 = .ok (.invokevirtual 91, 3) := by decide +kernel
theorem dL_law_367 : decode cL_law 367 = .ok (.pop, 1) := by decide +kernel
theorem dL_law_368 : decode cL_law 368 = .ok (.aload_n 2, 1) := by decide +kernel
theorem dL_law_369 : decode cL_law 369 = .ok (.invokevirtual 94, 3) := by decide +kernel
theorem dL_law_372 : decode cL_law 372 = .ok (.pop, 1) := by decide +kernel
theorem dL_law_373 : decode cL_law 373 = .ok (.goto 184, 3) := by decide +kernel
theorem dL_law_376 : decode cL_law 376 = .ok (.aload_n 1, 1) := by decide +kernel
theorem dL_law_377 : decode cL_law 377 = .ok (.aload_n 0, 1) := by decide +kernel
theorem dL_law_378 : decode cL_law 378 = .ok (.iload 4, 2) := by decide +kernel
theorem dL_law_380 : decode cL_law 380 = .ok (.iconst 1, 1) := by decide +kernel
theorem dL_law_381 : decode cL_law 381 = .ok (.iadd, 1) := by decide +kernel
theorem dL_law_382 : decode cL_law 382 = .ok (.iaload, 1) := by decide +kernel
theorem dL_law_383 : decode cL_law 383 = .ok (.aload_n 0, 1) := by decide +kernel
theorem dL_law_384 : decode cL_law 384 = .ok (.iload 4, 2) := by decide +kernel
theorem dL_law_386 : decode cL_law 386 = .ok (.iconst 2, 1) := by decide +kernel
theorem dL_law_387 : decode cL_law 387 = .ok (.iadd, 1) := by decide +kernel
theorem dL_law_388 : decode cL_law 388 = .ok (.iaload, 1) := by decide +kernel
theorem dL_law_389 : decode cL_law 389 = .ok (.aload_n 3, 1) := by decide +kernel
theorem dL_law_390 : decode cL_law 390 = .ok (.invokestatic 95, 3) := by decide +kernel
theorem dL_law_393 : decode cL_law 393 = .ok (.istore 5, 2) := by decide +kernel
theorem dL_law_395 : decode cL_law 395 = .ok (.aload_n 2, 1) := by decide +kernel
theorem dL_law_396 : decode cL_law 396 = .ok (.aload_n 0, 1) := by decide +kernel
theorem dL_law_397 : decode cL_law 397 = .ok (.iload 4, 2) := by decide +kernel
theorem dL_law_399 : decode cL_law 399 = .ok (.iconst 1, 1) := by decide +kernel
theorem dL_law_400 : decode cL_law 400 = .ok (.iadd, 1) := by decide +kernel
theorem dL_law_401 : decode cL_law 401 = .ok (.iaload, 1) := by decide +kernel
theorem dL_law_402 : decode cL_law 402 = .ok (.aload_n 0, 1) := by decide +kernel
theorem dL_law_403 : decode cL_law 403 = .ok (.iload 4, 2) := by decide +kernel
theorem dL_law_405 : decode cL_law 405 = .ok (.iconst 2, 1) := by decide +kernel
theorem dL_law_406 : decode cL_law 406 = .ok (.iadd, 1) := by decide +kernel
theorem dL_law_407 : decode cL_law 407 = .ok (.iaload, 1) := by decide +kernel
theorem dL_law_408 : decode cL_law 408 = .ok (.invokevirtual 97, 3) := by decide +kernel
theorem dL_law_411 : decode cL_law 411 = .ok (.istore 6, 2) := by decide +kernel
theorem dL_law_413 : decode cL_law 413 = .ok (.goto 144, 3) := by decide +kernel
theorem dL_law_416 : decode cL_law 416 = .ok (.aload_n 1, 1) := by decide +kernel
theorem dL_law_417 : decode cL_law 417 = .ok (.invokevirtual 98, 3) := by decide +kernel
theorem dL_law_420 : decode cL_law 420 = .ok (.pop, 1) := by decide +kernel
theorem dL_law_421 : decode cL_law 421 = .ok (.aload_n 2, 1) := by decide +kernel
theorem dL_law_422 : decode cL_law 422 = .ok (.invokevirtual 101, 3) := by decide +kernel
theorem dL_law_425 : decode cL_law 425 = .ok (.pop, 1) := by decide +kernel
theorem dL_law_426 : decode cL_law 426 = .ok (.goto 131, 3) := by decide +kernel
theorem dL_law_429 : decode cL_law 429 = .ok (.aload_n 1, 1) := by decide +kernel
theorem dL_law_430 : decode cL_law 430 = .ok (.aload_n 3, 1) := by decide +kernel
theorem dL_law_431 : decode cL_law 431 = .ok (.invokestatic 102, 3) := by decide +kernel
theorem dL_law_434 : decode cL_law 434 = .ok (.istore 5, 2) := by decide +kernel
theorem dL_law_436 : decode cL_law 436 = .ok (.aload_n 2, 1) := by decide +kernel
theorem dL_law_437 : decode cL_law 437 = .ok (.invokevirtual 105, 3) := by decide +kernel
theorem dL_law_440 : decode cL_law 440 = .ok (.istore 6, 2) := by decide +kernel
theorem dL_law_442 : decode cL_law 442 = .ok (.goto 115, 3) := by decide +kernel
theorem dL_law_445 : decode cL_law 445 = .ok (.aload_n 1, 1) := by decide +kernel
theorem dL_law_446 : decode cL_law 446 = .ok (.aload_n 0, 1) := by decide +kernel
theorem dL_law_447 : decode cL_law 447 = .ok (.iload 4, 2) := by decide +kernel
theorem dL_law_449 : decode cL_law 449 = .ok (.iconst 1, 1) := by decide +kernel
theorem dL_law_450 : decode cL_law 450 = .ok (.iadd, 1) := by decide +kernel
theorem dL_law_451 : decode cL_law 451 = .ok (.iaload, 1) := by decide +kernel
theorem dL_law_452 : decode cL_law 452 = .ok (.aload_n 3, 1) := by decide +kernel
theorem dL_law_453 : decode cL_law 453 = .ok (.invokestatic 106, 3) := by decide +kernel
theorem dL_law_456 : decode cL_law 456 = .ok (.istore 5, 2) := by decide +kernel
theorem dL_law_458 : decode cL_law 458 = .ok (.aload_n 2, 1) := by decide +kernel
theorem dL_law_459 : decode cL_law 459 = .ok (.aload_n 0, 1) := by decide +kernel
theorem dL_law_460 : decode cL_law 460 = .ok (.iload 4, 2) := by decide +kernel
theorem dL_law_462 : decode cL_law 462 = .ok (.iconst 1, 1) := by decide +kernel
theorem dL_law_463 : decode cL_law 463 = .ok (.iadd, 1) := by decide +kernel
theorem dL_law_464 : decode cL_law 464 = .ok (.iaload, 1) := by decide +kernel
theorem dL_law_465 : decode cL_law 465 = .ok (.invokevirtual 108, 3) := by decide +kernel
theorem dL_law_468 : decode cL_law 468 = .ok (.istore 6, 2) := by decide +kernel
theorem dL_law_470 : decode cL_law 470 = .ok (.goto 87, 3) := by decide +kernel
theorem dL_law_473 : decode cL_law 473 = .ok (.aload_n 1, 1) := by decide +kernel
theorem dL_law_474 : decode cL_law 474 = .ok (.aload_n 0, 1) := by decide +kernel
theorem dL_law_475 : decode cL_law 475 = .ok (.iload 4, 2) := by decide +kernel
theorem dL_law_477 : decode cL_law 477 = .ok (.iconst 1, 1) := by decide +kernel
theorem dL_law_478 : decode cL_law 478 = .ok (.iadd, 1) := by decide +kernel
theorem dL_law_479 : decode cL_law 479 = .ok (.iaload, 1) := by decide +kernel
theorem dL_law_480 : decode cL_law 480 = .ok (.aload_n 3, 1) := by decide +kernel
theorem dL_law_481 : decode cL_law 481 = .ok (.invokestatic 109, 3) := by decide +kernel
theorem dL_law_484 : decode cL_law 484 = .ok (.istore 5, 2) := by decide +kernel
theorem dL_law_486 : decode cL_law 486 = .ok (.aload_n 2, 1) := by decide +kernel
theorem dL_law_487 : decode cL_law 487 = .ok (.aload_n 0, 1) := by decide +kernel
theorem dL_law_488 : decode cL_law 488 = .ok (.iload 4, 2) := by decide +kernel
theorem dL_law_490 : decode cL_law 490 = .ok (.iconst 1, 1) := by decide +kernel
theorem dL_law_491 : decode cL_law 491 = .ok (.iadd, 1) := by decide +kernel
theorem dL_law_492 : decode cL_law 492 = .ok (.iaload, 1) := by decide +kernel
theorem dL_law_493 : decode cL_law 493 = .ok (.invokevirtual 111, 3) := by decide +kernel
theorem dL_law_496 : decode cL_law 496 = .ok (.istore 6, 2) := by decide +kernel
theorem dL_law_498 : decode cL_law 498 = .ok (.goto 59, 3) := by decide +kernel
theorem dL_law_501 : decode cL_law 501 = .ok (.aload_n 1, 1) := by decide +kernel
theorem dL_law_502 : decode cL_law 502 = .ok (.aload_n 0, 1) := by decide +kernel
theorem dL_law_503 : decode cL_law 503 = .ok (.iload 4, 2) := by decide +kernel
theorem dL_law_505 : decode cL_law 505 = .ok (.iconst 1, 1) := by decide +kernel
theorem dL_law_506 : decode cL_law 506 = .ok (.iadd, 1) := by decide +kernel
theorem dL_law_507 : decode cL_law 507 = .ok (.iaload, 1) := by decide +kernel
theorem dL_law_508 : decode cL_law 508 = .ok (.aload_n 3, 1) := by decide +kernel
theorem dL_law_509 : decode cL_law 509 = .ok (.invokestatic 112, 3) := by decide +kernel
theorem dL_law_512 : decode cL_law 512 = .ok (.istore 5, 2) := by decide +kernel
theorem dL_law_514 : decode cL_law 514 = .ok (.aload_n 2, 1) := by decide +kernel
theorem dL_law_515 : decode cL_law 515 = .ok (.aload_n 0, 1) := by decide +kernel
theorem dL_law_516 : decode cL_law 516 = .ok (.iload 4, 2) := by decide +kernel
theorem dL_law_518 : decode cL_law 518 = .ok (.iconst 1, 1) := by decide +kernel
theorem dL_law_519 : decode cL_law 519 = .ok (.iadd, 1) := by decide +kernel
theorem dL_law_520 : decode cL_law 520 = .ok (.iaload, 1) := by decide +kernel
theorem dL_law_521 : decode cL_law 521 = .ok (.invokevirtual 114, 3) := by decide +kernel
theorem dL_law_524 : decode cL_law 524 = .ok (.istore 6, 2) := by decide +kernel
theorem dL_law_526 : decode cL_law 526 = .ok (.goto 31, 3) := by decide +kernel
theorem dL_law_529 : decode cL_law 529 = .ok (.aload_n 1, 1) := by decide +kernel
theorem dL_law_530 : decode cL_law 530 = .ok (.aload_n 0, 1) := by decide +kernel
theorem dL_law_531 : decode cL_law 531 = .ok (.iload 4, 2) := by decide +kernel
theorem dL_law_533 : decode cL_law 533 = .ok (.iconst 1, 1) := by decide +kernel
theorem dL_law_534 : decode cL_law 534 = .ok (.iadd, 1) := by decide +kernel
theorem dL_law_535 : decode cL_law 535 = .ok (.iaload, 1) := by decide +kernel
theorem dL_law_536 : decode cL_law 536 = .ok (.aload_n 3, 1) := by decide +kernel
theorem dL_law_537 : decode cL_law 537 = .ok (.invokestatic 115, 3) := by decide +kernel
theorem dL_law_540 : decode cL_law 540 = .ok (.istore 5, 2) := by decide +kernel
theorem dL_law_542 : decode cL_law 542 = .ok (.aload_n 2, 1) := by decide +kernel
theorem dL_law_543 : decode cL_law 543 = .ok (.aload_n 0, 1) := by decide +kernel
theorem dL_law_544 : decode cL_law 544 = .ok (.iload 4, 2) := by decide +kernel
theorem dL_law_546 : decode cL_law 546 = .ok (.iconst 1, 1) := by decide +kernel
theorem dL_law_547 : decode cL_law 547 = .ok (.iadd, 1) := by decide +kernel
theorem dL_law_548 : decode cL_law 548 = .ok (.iaload, 1) := by decide +kernel
theorem dL_law_549 : decode cL_law 549 = .ok (.invokevirtual 117, 3) := by decide +kernel
theorem dL_law_552 : decode cL_law 552 = .ok (.istore 6, 2) := by decide +kernel
theorem dL_law_554 : decode cL_law 554 = .ok (.goto 3, 3) := by decide +kernel
theorem dL_law_557 : decode cL_law 557 = .ok (.iinc 4 4, 3) := by decide +kernel
theorem dL_law_560 : decode cL_law 560 = .ok (.goto (-537), 3) := by decide +kernel
theorem dL_law_563 : decode cL_law 563 = .ok (.iconst 1, 1) := by decide +kernel
theorem dL_law_564 : decode cL_law 564 = .ok (.ireturn, 1) := by decide +kernel
