theorem dX10_allAtOnce_127 : decode cX10_allAtOnce 127 = .ok (.invokestatic 295, 3) := by decide +kernel
theorem dX10_allAtOnce_130 : decode cX10_allAtOnce 130 = .ok (.invokestatic 292, 3) := by decide +kernel
theorem dX10_allAtOnce_133 : decode cX10_allAtOnce 133 = .ok (.aload_n 0, 1) := by decide +kernel
theorem dX10_allAtOnce_134 : decode cX10_allAtOnce 134 = .ok (.getfield 23, 3) := by decide +kernel
theorem dX10_allAtOnce_137 : decode cX10_allAtOnce 137 = .ok (.bipush 7, 2) := by decide +kernel
theorem dX10_allAtOnce_139 : decode cX10_allAtOnce 139 = .ok (.iaload, 1) := by decide +kernel
theorem dX10_allAtOnce_140 : decode cX10_allAtOnce 140 = .ok (.imul, 1) := by decide +kernel
theorem dX10_allAtOnce_141 : decode cX10_allAtOnce 141 = .ok (.iadd, 1) := by decide +kernel
theorem dX10_allAtOnce_142 : decode cX10_allAtOnce 142 = .ok (.goto 13, 3) := by decide +kernel
theorem dX10_allAtOnce_145 : decode cX10_allAtOnce 145 = .ok (.iload 5, 2) := by decide +kernel
theorem dX10_allAtOnce_147 : decode cX10_allAtOnce 147 = .ok (.aload_n 0, 1) := by decide +kernel
theorem dX10_allAtOnce_148 : decode cX10_allAtOnce 148 = .ok (.getfield 23, 3) := by decide +kernel
theorem dX10_allAtOnce_151 : decode cX10_allAtOnce 151 = .ok (.bipush 8, 2) := by decide +kernel
theorem dX10_allAtOnce_153 : decode cX10_allAtOnce 153 = .ok (.iaload, 1) := by decide +kernel
theorem dX10_allAtOnce_154 : decode cX10_allAtOnce 154 = .ok (.iadd, 1) := by decide +kernel
theorem dX10_allAtOnce_155 : decode cX10_allAtOnce 155 = .ok (.istore 6, 2) := by decide +kernel
theorem dX10_allAtOnce_157 : decode cX10_allAtOnce 157 = .ok (.iconst 0, 1) := by decide +kernel
theorem dX10_allAtOnce_158 : decode cX10_allAtOnce 158 = .ok (.istore 7, 2) := by decide +kernel
theorem dX10_allAtOnce_160 : decode cX10_allAtOnce 160 = .ok (.iload 7, 2) := by decide +kernel
theorem dX10_allAtOnce_162 : decode cX10_allAtOnce 162 = .ok (.aload_n 0, 1) := by decide +kernel
theorem dX10_allAtOnce_163 : decode cX10_allAtOnce 163 = .ok (.getfield 23, 3) := by decide +kernel
theorem dX10_allAtOnce_166 : decode cX10_allAtOnce 166 = .ok (.iconst 0, 1) := by decide +kernel
theorem dX10_allAtOnce_167 : decode cX10_allAtOnce 167 = .ok (.iaload, 1) := by decide +kernel
theorem dX10_allAtOnce_168 : decode cX10_allAtOnce 168 = .ok (.if_icmp .ge 88, 3) := by decide +kernel
theorem dX10_allAtOnce_171 : decode cX10_allAtOnce 171 = .ok (.iload_n 1, 1) := by decide +kernel
theorem dX10_allAtOnce_172 : decode cX10_allAtOnce 172 = .ok (.iload 7, 2) := by decide +kernel
theorem dX10_allAtOnce_174 : decode cX10_allAtOnce 174 = .ok (.invokestatic 169, 3) := by decide +kernel
theorem dX10_allAtOnce_177 : decode cX10_allAtOnce 177 = .ok (.ifCond .ne 6, 3) := by decide +kernel
theorem dX10_allAtOnce_180 : decode cX10_allAtOnce 180 = .ok (.goto 70, 3) := by decide +kernel
theorem dX10_allAtOnce_183 : decode cX10_allAtOnce 183 = .ok (.aload_n 0, 1) := by decide +kernel
theorem dX10_allAtOnce_184 : decode cX10_allAtOnce 184 = .ok (.iload 7, 2) := by decide +kernel
theorem dX10_allAtOnce_186 : decode cX10_allAtOnce 186 = .ok (.iconst 3, 1) := by decide +kernel
theorem dX10_allAtOnce_187 : decode cX10_allAtOnce 187 = .ok (.iload 5, 2) := by decide +kernel
theorem dX10_allAtOnce_189 : decode cX10_allAtOnce 189 = .ok (.aload_n 0, 1) := by decide +kernel
theorem dX10_allAtOnce_190 : decode cX10_allAtOnce 190 = .ok (.getfield 9, 3) := by decide +kernel
theorem dX10_allAtOnce_193 : decode cX10_allAtOnce 193 = .ok (.iconst 0, 1) := by decide +kernel
theorem dX10_allAtOnce_194 : decode cX10_allAtOnce 194 = .ok (.iload 7, 2) := by decide +kernel
theorem dX10_allAtOnce_196 : decode cX10_allAtOnce 196 = .ok (.iadd, 1) := by decide +kernel
theorem dX10_allAtOnce_197 : decode cX10_allAtOnce 197 = .ok (.iaload, 1) := by decide +kernel
theorem dX10_allAtOnce_198 : decode cX10_allAtOnce 198 = .ok (.isub, 1) := by decide +kernel
theorem dX10_allAtOnce_199 : decode cX10_allAtOnce 199 = .ok (.invokevirtual 282, 3) := by decide +kernel
theorem dX10_allAtOnce_202 : decode cX10_allAtOnce 202 = .ok (.aload_n 0, 1) := by decide +kernel
theorem dX10_allAtOnce_203 : decode cX10_allAtOnce 203 = .ok (.getfield 9, 3) := by decide +kernel
theorem dX10_allAtOnce_206 : decode cX10_allAtOnce 206 = .ok (.iconst 0, 1) := by decide +kernel
theorem dX10_allAtOnce_207 : decode cX10_allAtOnce 207 = .ok (.iload 7, 2) := by decide +kernel
theorem dX10_allAtOnce_209 : decode cX10_allAtOnce 209 = .ok (.iadd, 1) := by decide +kernel
theorem dX10_allAtOnce_210 : decode cX10_allAtOnce 210 = .ok (.iload 6, 2) := by decide +kernel
theorem dX10_allAtOnce_212 : decode cX10_allAtOnce 212 = .ok (.iastore, 1) := by decide +kernel
theorem dX10_allAtOnce_213 : decode cX10_allAtOnce 213 = .ok (.iload_n 3, 1) := by decide +kernel
theorem dX10_allAtOnce_214 : decode cX10_allAtOnce 214 = .ok (.bipush 6, 2) := by decide +kernel
theorem dX10_allAtOnce_216 : decode cX10_allAtOnce 216 = .ok (.if_icmp .eq 17, 3) := by decide +kernel
theorem dX10_allAtOnce_219 : decode cX10_allAtOnce 219 = .ok (.iload_n 3, 1) := by decide +kernel
theorem dX10_allAtOnce_220 : decode cX10_allAtOnce 220 = .ok (.iconst 4, 1) := by decide +kernel
theorem dX10_allAtOnce_221 : decode cX10_allAtOnce 221 = .ok (.if_icmp .ne 29, 3) := by decide +kernel
theorem dX10_allAtOnce_224 : decode cX10_allAtOnce 224 = .ok (.iload 7, 2) := by decide +kernel
theorem dX10_allAtOnce_226 : decode cX10_allAtOnce 226 = .ok (.iload_n 1, 1) := by decide +kernel
theorem dX10_allAtOnce_227 : decode cX10_allAtOnce 227 = .ok (.invokestatic 263, 3) := by decide +kernel
theorem dX10_allAtOnce_230 : decode cX10_allAtOnce 230 = .ok (.if_icmp .ne 20, 3) := by decide +kernel
theorem dX10_allAtOnce_233 : decode cX10_allAtOnce 233 = .ok (.aload_n 0, 1) := by decide +kernel
theorem dX10_allAtOnce_234 : decode cX10_allAtOnce 234 = .ok (.getfield 9, 3) := by decide +kernel
theorem dX10_allAtOnce_237 : decode cX10_allAtOnce 237 = .ok (.bipush 8, 2) := by decide +kernel
theorem dX10_allAtOnce_239 : decode cX10_allAtOnce 239 = .ok (.iconst 4, 1) := by decide +kernel
theorem dX10_allAtOnce_240 : decode cX10_allAtOnce 240 = .ok (.iload 7, 2) := by decide +kernel
theorem dX10_allAtOnce_242 : decode cX10_allAtOnce 242 = .ok (.imul, 1) := by decide +kernel
theorem dX10_allAtOnce_243 : decode cX10_allAtOnce 243 = .ok (.iadd, 1) := by decide +kernel
theorem dX10_allAtOnce_244 : decode cX10_allAtOnce 244 = .ok (.iload 4, 2) := by decide +kernel
theorem dX10_allAtOnce_246 : decode cX10_allAtOnce 246 = .ok (.iadd, 1) := by decide +kernel
theorem dX10_allAtOnce_247 : decode cX10_allAtOnce 247 = .ok (.iload 6, 2) := by decide +kernel
theorem dX10_allAtOnce_249 : decode cX10_allAtOnce 249 = .ok (.iastore, 1) := by decide +kernel
theorem dX10_allAtOnce_250 : decode cX10_allAtOnce 250 = .ok (.iinc 7 1, 3) := by decide +kernel
theorem dX10_allAtOnce_253 : decode cX10_allAtOnce 253 = .ok (.goto (-93), 3) := by decide +kernel
theorem dX10_allAtOnce_256 : decode cX10_allAtOnce 256 = .ok (.return_, 1) := by decide +kernel
theorem dX10_ticks_0 : decode cX10_ticks 0 = .ok (.aload_n 0, 1) := by decide +kernel
theorem dX10_ticks_1 : decode cX10_ticks 1 = .ok (.iload_n 1, 1) := by decide +kernel
theorem dX10_ticks_2 : decode cX10_ticks 2 = .ok (.invokevirtual 238, 3) := by decide +kernel
theorem dX10_ticks_5 : decode cX10_ticks 5 = .ok (.istore_n 2, 1) := by decide +kernel
theorem dX10_ticks_6 : decode cX10_ticks 6 = .ok (.aload_n 0, 1) := by decide +kernel
theorem dX10_ticks_7 : decode cX10_ticks 7 = .ok (.iload_n 1, 1) := by decide +kernel
theorem dX10_ticks_8 : decode cX10_ticks 8 = .ok (.invokevirtual 230, 3) := by decide +kernel
theorem dX10_ticks_11 : decode cX10_ticks 11 = .ok (.istore_n 3, 1) := by decide +kernel
theorem dX10_ticks_12 : decode cX10_ticks 12 = .ok (.iload_n 3, 1) := by decide +kernel
theorem dX10_ticks_13 : decode cX10_ticks 13 = .ok (.aload_n 0, 1) := by decide +kernel
theorem dX10_ticks_14 : decode cX10_ticks 14 = .ok (.iload_n 1, 1) := by decide +kernel
theorem dX10_ticks_15 : decode cX10_ticks 15 = .ok (.invokevirtual 266, 3) := by decide +kernel
theorem dX10_ticks_18 : decode cX10_ticks 18 = .ok (.if_icmp .ge 113, 3) := by decide +kernel
theorem dX10_ticks_21 : decode cX10_ticks 21 = .ok (.aload_n 0, 1) := by decide +kernel
theorem dX10_ticks_22 : decode cX10_ticks 22 = .ok (.iload_n 3, 1) := by decide +kernel
theorem dX10_ticks_23 : decode cX10_ticks 23 = .ok (.invokevirtual 254, 3) := by decide +kernel
theorem dX10_ticks_26 : decode cX10_ticks 26 = .ok (.istore 4, 2) := by decide +kernel
theorem dX10_ticks_28 : decode cX10_ticks 28 = .ok (.iload 4, 2) := by decide +kernel
theorem dX10_ticks_30 : decode cX10_ticks 30 = .ok (.iconst 4, 1) := by decide +kernel
theorem dX10_ticks_31 : decode cX10_ticks 31 = .ok (.if_icmp .eq 17, 3) := by decide +kernel
theorem dX10_ticks_34 : decode cX10_ticks 34 = .ok (.iload 4, 2) := by decide +kernel
theorem dX10_ticks_36 : decode cX10_ticks 36 = .ok (.bipush 6, 2) := by decide +kernel
theorem dX10_ticks_38 : decode cX10_ticks 38 = .ok (.if_icmp .eq 10, 3) := by decide +kernel
theorem dX10_ticks_41 : decode cX10_ticks 41 = .ok (.iload 4, 2) := by decide +kernel
theorem dX10_ticks_43 : decode cX10_ticks 43 = .ok (.bipush 7, 2) := by decide +kernel
theorem dX10_ticks_45 : decode cX10_ticks 45 = .ok (.if_icmp .ne 7, 3) := by decide +kernel
theorem dX10_ticks_48 : decode cX10_ticks 48 = .ok (.iconst 1, 1) := by decide +kernel
theorem dX10_ticks_49 : decode cX10_ticks 49 = .ok (.goto 4, 3) := by decide +kernel
theorem dX10_ticks_52 : decode cX10_ticks 52 = .ok (.iconst 0, 1) := by decide +kernel
theorem dX10_ticks_53 : decode cX10_ticks 53 = .ok (.istore 5, 2) := by decide +kernel
theorem dX10_ticks_55 : decode cX10_ticks 55 = .ok (.iload 5, 2) := by decide +kernel
theorem dX10_ticks_57 : decode cX10_ticks 57 = .ok (.ifCond .eq 9, 3) := by decide +kernel
theorem dX10_ticks_60 : decode cX10_ticks 60 = .ok (.aload_n 0, 1) := by decide +kernel
theorem dX10_ticks_61 : decode cX10_ticks 61 = .ok (.iload_n 2, 1) := by decide +kernel
theorem dX10_ticks_62 : decode cX10_ticks 62 = .ok (.iload_n 3, 1) := by decide +kernel
theorem dX10_ticks_63 : decode cX10_ticks 63 = .ok (.invokevirtual 298, 3) := by decide +kernel
theorem dX10_ticks_66 : decode cX10_ticks 66 = .ok (.iconst 0, 1) := by decide +kernel
theorem dX10_ticks_67 : decode cX10_ticks 67 = .ok (.istore 6, 2) := by decide +kernel
theorem dX10_ticks_69 : decode cX10_ticks 69 = .ok (.iload 6, 2) := by decide +kernel
theorem dX10_ticks_71 : decode cX10_ticks 71 = .ok (.aload_n 0, 1) := by decide +kernel
theorem dX10_ticks_72 : decode cX10_ticks 72 = .ok (.getfield 23, 3) := by decide +kernel
theorem dX10_ticks_75 : decode cX10_ticks 75 = .ok (.iconst 0, 1) := by decide +kernel
theorem dX10_ticks_76 : decode cX10_ticks 76 = .ok (.iaload, 1) := by decide +kernel
theorem dX10_ticks_77 : decode cX10_ticks 77 = .ok (.if_icmp .ge 48, 3) := by decide +kernel
theorem dX10_ticks_80 : decode cX10_ticks 80 = .ok (.iload_n 2, 1) := by decide +kernel
theorem dX10_ticks_81 : decode cX10_ticks 81 = .ok (.iload 6, 2) := by decide +kernel
theorem dX10_ticks_83 : decode cX10_ticks 83 = .ok (.invokestatic 169, 3) := by decide +kernel
theorem dX10_ticks_86 : decode cX10_ticks 86 = .ok (.ifCond .ne 6, 3) := by decide +kernel
theorem dX10_ticks_89 : decode cX10_ticks 89 = .ok (.goto 30, 3) := by decide +kernel
theorem dX10_ticks_92 : decode cX10_ticks 92 = .ok (.iload 5, 2) := by decide +kernel
theorem dX10_ticks_94 : decode cX10_ticks 94 = .ok (.ifCond .ne 10, 3) := by decide +kernel
theorem dX10_ticks_97 : decode cX10_ticks 97 = .ok (.aload_n 0, 1) := by decide +kernel
theorem dX10_ticks_98 : decode cX10_ticks 98 = .ok (.iload 6, 2) := by decide +kernel
theorem dX10_ticks_100 : decode cX10_ticks 100 = .ok (.iload_n 3, 1) := by decide +kernel
theorem dX10_ticks_101 : decode cX10_ticks 101 = .ok (.invokevirtual 301, 3) := by decide +kernel
theorem dX10_ticks_104 : decode cX10_ticks 104 = .ok (.aload_n 0, 1) := by decide +kernel
theorem dX10_ticks_105 : decode cX10_ticks 105 = .ok (.getfield 9, 3) := by decide +kernel
theorem dX10_ticks_108 : decode cX10_ticks 108 = .ok (.sipush 152, 3) := by decide +kernel
theorem dX10_ticks_111 : decode cX10_ticks 111 = .ok (.iload 6, 2) := by decide +kernel
theorem dX10_ticks_113 : decode cX10_ticks 113 = .ok (.iadd, 1) := by decide +kernel
theorem dX10_ticks_114 : decode cX10_ticks 114 = .ok (.dup2, 1) := by decide +kernel
theorem dX10_ticks_115 : decode cX10_ticks 115 = .ok (.iaload, 1) := by decide +kernel
theorem dX10_ticks_116 : decode cX10_ticks 116 = .ok (.iconst 1, 1) := by decide +kernel
theorem dX10_ticks_117 : decode cX10_ticks 117 = .ok (.iadd, 1) := by decide +kernel
theorem dX10_ticks_118 : decode cX10_ticks 118 = .ok (.iastore, 1) := by decide +kernel
theorem dX10_ticks_119 : decode cX10_ticks 119 = .ok (.iinc 6 1, 3) := by decide +kernel
theorem dX10_ticks_122 : decode cX10_ticks 122 = .ok (.goto (-53), 3) := by decide +kernel
theorem dX10_ticks_125 : decode cX10_ticks 125 = .ok (.iinc 3 1, 3) := by decide +kernel
theorem dX10_ticks_128 : decode cX10_ticks 128 = .ok (.goto (-116), 3) := by decide +kernel
theorem dX10_ticks_131 : decode cX10_ticks 131 = .ok (.return_, 1) := by decide +kernel
theorem dX10_latest_0 : decode cX10_latest 0 = .ok (.iconst 0, 1) := by decide +kernel
theorem dX10_latest_1 : decode cX10_latest 1 = .ok (.istore_n 2, 1) := by decide +kernel
theorem dX10_latest_2 : decode cX10_latest 2 = .ok (.iconst 0, 1) := by decide +kernel
theorem dX10_latest_3 : decode cX10_latest 3 = .ok (.istore_n 3, 1) := by decide +kernel
theorem dX10_latest_4 : decode cX10_latest 4 = .ok (.iload_n 3, 1) := by decide +kernel
theorem dX10_latest_5 : decode cX10_latest 5 = .ok (.aload_n 0, 1) := by decide +kernel
theorem dX10_latest_6 : decode cX10_latest 6 = .ok (.getfield 23, 3) := by decide +kernel
theorem dX10_latest_9 : decode cX10_latest 9 = .ok (.iconst 0, 1) := by decide +kernel
theorem dX10_latest_10 : decode cX10_latest 10 = .ok (.iaload, 1) := by decide +kernel
theorem dX10_latest_11 : decode cX10_latest 11 = .ok (.if_icmp .ge 60, 3) := by decide +kernel
theorem dX10_latest_14 : decode cX10_latest 14 = .ok (.iload_n 1, 1) := by decide +kernel
theorem dX10_latest_15 : decode cX10_latest 15 = .ok (.iload_n 3, 1) := by decide +kernel
theorem dX10_latest_16 : decode cX10_latest 16 = .ok (.invokestatic 169, 3) := by decide +kernel
theorem dX10_latest_19 : decode cX10_latest 19 = .ok (.ifCond .ne 6, 3) := by decide +kernel
theorem dX10_latest_22 : decode cX10_latest 22 = .ok (.goto 43, 3) := by decide +kernel
theorem dX10_latest_25 : decode cX10_latest 25 = .ok (.iload_n 2, 1) := by decide +kernel
theorem dX10_latest_26 : decode cX10_latest 26 = .ok (.aload_n 0, 1) := by decide +kernel
theorem dX10_latest_27 : decode cX10_latest 27 = .ok (.getfield 9, 3) := by decide +kernel
theorem dX10_latest_30 : decode cX10_latest 30 = .ok (.iconst 0, 1) := by decide +kernel
theorem dX10_latest_31 : decode cX10_latest 31 = .ok (.iload_n 3, 1) := by decide +kernel
theorem dX10_latest_32 : decode cX10_latest 32 = .ok (.iadd, 1) := by decide +kernel
theorem dX10_latest_33 : decode cX10_latest 33 = .ok (.iaload, 1) := by decide +kernel
theorem dX10_latest_34 : decode cX10_latest 34 = .ok (.invokestatic 279, 3) := by decide +kernel
theorem dX10_latest_37 : decode cX10_latest 37 = .ok (.istore_n 2, 1) := by decide +kernel
theorem dX10_latest_38 : decode cX10_latest 38 = .ok (.iconst 0, 1) := by decide +kernel
theorem dX10_latest_39 : decode cX10_latest 39 = .ok (.istore 4, 2) := by decide +kernel
theorem dX10_latest_41 : decode cX10_latest 41 = .ok (.iload 4, 2) := by decide +kernel
theorem dX10_latest_43 : decode cX10_latest 43 = .ok (.iconst 4, 1) := by decide +kernel
theorem dX10_latest_44 : decode cX10_latest 44 = .ok (.if_icmp .ge 21, 3) := by decide +kernel
theorem dX10_latest_47 : decode cX10_latest 47 = .ok (.iload_n 2, 1) := by decide +kernel
theorem dX10_latest_48 : decode cX10_latest 48 = .ok (.aload_n 0, 1) := by decide +kernel
theorem dX10_latest_49 : decode cX10_latest 49 = .ok (.iload_n 3, 1) := by decide +kernel
theorem dX10_latest_50 : decode cX10_latest 50 = .ok (.iload 4, 2) := by decide +kernel
theorem dX10_latest_52 : decode cX10_latest 52 = .ok (.invokevirtual 286, 3) := by decide +kernel
theorem dX10_latest_55 : decode cX10_latest 55 = .ok (.invokestatic 279, 3) := by decide +kernel
theorem dX10_latest_58 : decode cX10_latest 58 = .ok (.istore_n 2, 1) := by decide +kernel
theorem dX10_latest_59 : decode cX10_latest 59 = .ok (.iinc 4 1, 3) := by decide +kernel
theorem dX10_latest_62 : decode cX10_latest 62 = .ok (.goto (-21), 3) := by decide +kernel
theorem dX10_latest_65 : decode cX10_latest 65 = .ok (.iinc 3 1, 3) := by decide +kernel
theorem dX10_latest_68 : decode cX10_latest 68 = .ok (.goto (-64), 3) := by decide +kernel
theorem dX10_latest_71 : decode cX10_latest 71 = .ok (.iload_n 2, 1) := by decide +kernel
theorem dX10_latest_72 : decode cX10_latest 72 = .ok (.ireturn, 1) := by decide +kernel
theorem dX10_ends_0 : decode cX10_ends 0 = .ok (.aload_n 0, 1) := by decide +kernel
theorem dX10_ends_1 : decode cX10_ends 1 = .ok (.sipush 255, 3) := by decide +kernel
theorem dX10_ends_4 : decode cX10_ends 4 = .ok (.invokevirtual 304, 3) := by decide +kernel
theorem dX10_ends_7 : decode cX10_ends 7 = .ok (.ireturn, 1) := by decide +kernel
theorem dX10_clock_0 : decode cX10_clock 0 = .ok (.aload_n 0, 1) := by decide +kernel
theorem dX10_clock_1 : decode cX10_clock 1 = .ok (.iconst 0, 1) := by decide +kernel
theorem dX10_clock_2 : decode cX10_clock 2 = .ok (.putfield 60, 3) := by decide +kernel
theorem dX10_clock_5 : decode cX10_clock 5 = .ok (.aload_n 0, 1) := by decide +kernel
theorem dX10_clock_6 : decode cX10_clock 6 = .ok (.aload_n 0, 1) := by decide +kernel
theorem dX10_clock_7 : decode cX10_clock 7 = .ok (.iload_n 1, 1) := by decide +kernel
theorem dX10_clock_8 : decode cX10_clock 8 = .ok (.invokevirtual 227, 3) := by decide +kernel
theorem dX10_clock_11 : decode cX10_clock 11 = .ok (.iconst 1, 1) := by decide +kernel
theorem dX10_clock_12 : decode cX10_clock 12 = .ok (.invokevirtual 66, 3) := by decide +kernel
theorem dX10_clock_15 : decode cX10_clock 15 = .ok (.ifCond .eq 14, 3) := by decide +kernel
theorem dX10_clock_18 : decode cX10_clock 18 = .ok (.aload_n 0, 1) := by decide +kernel
theorem dX10_clock_19 : decode cX10_clock 19 = .ok (.getfield 9, 3) := by decide +kernel
theorem dX10_clock_22 : decode cX10_clock 22 = .ok (.iconst 0, 1) := by decide +kernel
theorem dX10_clock_23 : decode cX10_clock 23 = .ok (.iload_n 1, 1) := by decide +kernel
theorem dX10_clock_24 : decode cX10_clock 24 = .ok (.iadd, 1) := by decide +kernel
theorem dX10_clock_25 : decode cX10_clock 25 = .ok (.iaload, 1) := by decide +kernel
theorem dX10_clock_26 : decode cX10_clock 26 = .ok (.goto 4, 3) := by decide +kernel
theorem dX10_clock_29 : decode cX10_clock 29 = .ok (.iconst 0, 1) := by decide +kernel
theorem dX10_clock_30 : decode cX10_clock 30 = .ok (.ireturn, 1) := by decide +kernel
theorem dX10_ready_0 : decode cX10_ready 0 = .ok (.aload_n 0, 1) := by decide +kernel
theorem dX10_ready_1 : decode cX10_ready 1 = .ok (.iconst 0, 1) := by decide +kernel
theorem dX10_ready_2 : decode cX10_ready 2 = .ok (.putfield 60, 3) := by decide +kernel
theorem dX10_ready_5 : decode cX10_ready 5 = .ok (.aload_n 0, 1) := by decide +kernel
theorem dX10_ready_6 : decode cX10_ready 6 = .ok (.aload_n 0, 1) := by decide +kernel
theorem dX10_ready_7 : decode cX10_ready 7 = .ok (.iload_n 1, 1) := by decide +kernel
theorem dX10_ready_8 : decode cX10_ready 8 = .ok (.invokevirtual 227, 3) := by decide +kernel
theorem dX10_ready_11 : decode cX10_ready 11 = .ok (.ifCond .eq 16, 3) := by decide +kernel
theorem dX10_ready_14 : decode cX10_ready 14 = .ok (.iload_n 2, 1) := by decide +kernel
theorem dX10_ready_15 : decode cX10_ready 15 = .ok (.iconst 0, 1) := by decide +kernel
theorem dX10_ready_16 : decode cX10_ready 16 = .ok (.iconst 3, 1) := by decide +kernel
theorem dX10_ready_17 : decode cX10_ready 17 = .ok (.invokestatic 70, 3) := by decide +kernel
theorem dX10_ready_20 : decode cX10_ready 20 = .ok (.ifCond .eq 7, 3) := by decide +kernel
theorem dX10_ready_23 : decode cX10_ready 23 = .ok (.iconst 1, 1) := by decide +kernel
theorem dX10_ready_24 : decode cX10_ready 24 = .ok (.goto 4, 3) := by decide +kernel
theorem dX10_ready_27 : decode cX10_ready 27 = .ok (.iconst 0, 1) := by decide +kernel
theorem dX10_ready_28 : decode cX10_ready 28 = .ok (.iconst 1, 1) := by decide +kernel
theorem dX10_ready_29 : decode cX10_ready 29 = .ok (.invokevirtual 66, 3) := by decide +kernel
theorem dX10_ready_32 : decode cX10_ready 32 = .ok (.ifCond .eq 12, 3) := by decide +kernel
theorem dX10_ready_35 : decode cX10_ready 35 = .ok (.aload_n 0, 1) := by decide +kernel
theorem dX10_ready_36 : decode cX10_ready 36 = .ok (.iload_n 1, 1) := by decide +kernel
theorem dX10_ready_37 : decode cX10_ready 37 = .ok (.iload_n 2, 1) := by decide +kernel
theorem dX10_ready_38 : decode cX10_ready 38 = .ok (.invokevirtual 286, 3) := by decide +kernel
theorem dX10_ready_41 : decode cX10_ready 41 = .ok (.goto 4, 3) := by decide +kernel
theorem dX10_ready_44 : decode cX10_ready 44 = .ok (.iconst 0, 1) := by decide +kernel
theorem dX10_ready_45 : decode cX10_ready 45 = .ok (.ireturn, 1) := by decide +kernel
theorem dX10_openRow_0 : decode cX10_openRow 0 = .ok (.aload_n 0, 1) := by decide +kernel
theorem dX10_openRow_1 : decode cX10_openRow 1 = .ok (.iconst 0, 1) := by decide +kernel
theorem dX10_openRow_2 : decode cX10_openRow 2 = .ok (.putfield 60, 3) := by decide +kernel
theorem dX10_openRow_5 : decode cX10_openRow 5 = .ok (.aload_n 0, 1) := by decide +kernel
theorem dX10_openRow_6 : decode cX10_openRow 6 = .ok (.aload_n 0, 1) := by decide +kernel
theorem dX10_openRow_7 : decode cX10_openRow 7 = .ok (.iload_n 1, 1) := by decide +kernel
theorem dX10_openRow_8 : decode cX10_openRow 8 = .ok (.invokevirtual 227, 3) := by decide +kernel
theorem dX10_openRow_11 : decode cX10_openRow 11 = .ok (.iconst 1, 1) := by decide +kernel
theorem dX10_openRow_12 : decode cX10_openRow 12 = .ok (.invokevirtual 66, 3) := by decide +kernel
theorem dX10_openRow_15 : decode cX10_openRow 15 = .ok (.ifCond .eq 17, 3) := by decide +kernel
theorem dX10_openRow_18 : decode cX10_openRow 18 = .ok (.aload_n 0, 1) := by decide +kernel
theorem dX10_openRow_19 : decode cX10_openRow 19 = .ok (.getfield 9, 3) := by decide +kernel
theorem dX10_openRow_22 : decode cX10_openRow 22 = .ok (.bipush 40, 2) := by decide +kernel
theorem dX10_openRow_24 : decode cX10_openRow 24 = .ok (.iload_n 1, 1) := by decide +kernel
theorem dX10_openRow_25 : decode cX10_openRow 25 = .ok (.iadd, 1) := by decide +kernel
theorem dX10_openRow_26 : decode cX10_openRow 26 = .ok (.iaload, 1) := by decide +kernel
theorem dX10_openRow_27 : decode cX10_openRow 27 = .ok (.iconst 1, 1) := by decide +kernel
theorem dX10_openRow_28 : decode cX10_openRow 28 = .ok (.isub, 1) := by decide +kernel
theorem dX10_openRow_29 : decode cX10_openRow 29 = .ok (.goto 4, 3) := by decide +kernel
theorem dX10_openRow_32 : decode cX10_openRow 32 = .ok (.iconst 0, 1) := by decide +kernel
theorem dX10_openRow_33 : decode cX10_openRow 33 = .ok (.ireturn, 1) := by decide +kernel
theorem dX10_stalls__0 : decode cX10_stalls_ 0 = .ok (.aload_n 0, 1) := by decide +kernel
theorem dX10_stalls__1 : decode cX10_stalls_ 1 = .ok (.iconst 0, 1) := by decide +kernel
theorem dX10_stalls__2 : decode cX10_stalls_ 2 = .ok (.putfield 60, 3) := by decide +kernel
theorem dX10_stalls__5 : decode cX10_stalls_ 5 = .ok (.aload_n 0, 1) := by decide +kernel
theorem dX10_stalls__6 : decode cX10_stalls_ 6 = .ok (.aload_n 0, 1) := by decide +kernel
theorem dX10_stalls__7 : decode cX10_stalls_ 7 = .ok (.iload_n 1, 1) := by decide +kernel
theorem dX10_stalls__8 : decode cX10_stalls_ 8 = .ok (.invokevirtual 227, 3) := by decide +kernel
theorem dX10_stalls__11 : decode cX10_stalls_ 11 = .ok (.iconst 1, 1) := by decide +kernel
theorem dX10_stalls__12 : decode cX10_stalls_ 12 = .ok (.invokevirtual 66, 3) := by decide +kernel
theorem dX10_stalls__15 : decode cX10_stalls_ 15 = .ok (.ifCond .eq 33, 3) := by decide +kernel
theorem dX10_stalls__18 : decode cX10_stalls_ 18 = .ok (.aload_n 0, 1) := by decide +kernel
theorem dX10_stalls__19 : decode cX10_stalls_ 19 = .ok (.iload_n 2, 1) := by decide +kernel
theorem dX10_stalls__20 : decode cX10_stalls_ 20 = .ok (.iconst 0, 1) := by decide +kernel
theorem dX10_stalls__21 : decode cX10_stalls_ 21 = .ok (.iconst 3, 1) := by decide +kernel
theorem dX10_stalls__22 : decode cX10_stalls_ 22 = .ok (.invokestatic 70, 3) := by decide +kernel
theorem dX10_stalls__25 : decode cX10_stalls_ 25 = .ok (.iconst 2, 1) := by decide +kernel
theorem dX10_stalls__26 : decode cX10_stalls_ 26 = .ok (.invokevirtual 66, 3) := by decide +kernel
theorem dX10_stalls__29 : decode cX10_stalls_ 29 = .ok (.ifCond .eq 19, 3) := by decide +kernel
theorem dX10_stalls__32 : decode cX10_stalls_ 32 = .ok (.aload_n 0, 1) := by decide +kernel
theorem dX10_stalls__33 : decode cX10_stalls_ 33 = .ok (.getfield 9, 3) := by decide +kernel
theorem dX10_stalls__36 : decode cX10_stalls_ 36 = .ok (.bipush 120, 2) := by decide +kernel
theorem dX10_stalls__38 : decode cX10_stalls_ 38 = .ok (.iconst 4, 1) := by decide +kernel
theorem dX10_stalls__39 : decode cX10_stalls_ 39 = .ok (.iload_n 1, 1) := by decide +kernel
theorem dX10_stalls__40 : decode cX10_stalls_ 40 = .ok (.imul, 1) := by decide +kernel
theorem dX10_stalls__41 : decode cX10_stalls_ 41 = .ok (.iadd, 1) := by decide +kernel
theorem dX10_stalls__42 : decode cX10_stalls_ 42 = .ok (.iload_n 2, 1) := by decide +kernel
theorem dX10_stalls__43 : decode cX10_stalls_ 43 = .ok (.iadd, 1) := by decide +kernel
theorem dX10_stalls__44 : decode cX10_stalls_ 44 = .ok (.iaload, 1) := by decide +kernel
theorem dX10_stalls__45 : decode cX10_stalls_ 45 = .ok (.goto 4, 3) := by decide +kernel
theorem dX10_stalls__48 : decode cX10_stalls_ 48 = .ok (.iconst 0, 1) := by decide +kernel
theorem dX10_stalls__49 : decode cX10_stalls_ 49 = .ok (.ireturn, 1) := by decide +kernel
theorem dX10_finish_0 : decode cX10_finish 0 = .ok (.aload_n 0, 1) := by decide +kernel
theorem dX10_finish_1 : decode cX10_finish 1 = .ok (.iconst 0, 1) := by decide +kernel
theorem dX10_finish_2 : decode cX10_finish 2 = .ok (.putfield 60, 3) := by decide +kernel
theorem dX10_finish_5 : decode cX10_finish 5 = .ok (.aload_n 0, 1) := by decide +kernel
theorem dX10_finish_6 : decode cX10_finish 6 = .ok (.invokevirtual 307, 3) := by decide +kernel
theorem dX10_finish_9 : decode cX10_finish 9 = .ok (.ireturn, 1) := by decide +kernel
theorem dX10_utilization_0 : decode cX10_utilization 0 = .ok (.aload_n 0, 1) := by decide +kernel
theorem dX10_utilization_1 : decode cX10_utilization 1 = .ok (.iconst 0, 1) := by decide +kernel
theorem dX10_utilization_2 : decode cX10_utilization 2 = .ok (.putfield 60, 3) := by decide +kernel
theorem dX10_utilization_5 : decode cX10_utilization 5 = .ok (.aload_n 0, 1) := by decide +kernel
theorem dX10_utilization_6 : decode cX10_utilization 6 = .ok (.aload_n 0, 1) := by decide +kernel
theorem dX10_utilization_7 : decode cX10_utilization 7 = .ok (.iload_n 1, 1) := by decide +kernel
theorem dX10_utilization_8 : decode cX10_utilization 8 = .ok (.invokevirtual 227, 3) := by decide +kernel
theorem dX10_utilization_11 : decode cX10_utilization 11 = .ok (.iconst 1, 1) := by decide +kernel
theorem dX10_utilization_12 : decode cX10_utilization 12 = .ok (.invokevirtual 66, 3) := by decide +kernel
theorem dX10_utilization_15 : decode cX10_utilization 15 = .ok (.ifCond .eq 43, 3) := by decide +kernel
theorem dX10_utilization_18 : decode cX10_utilization 18 = .ok (.aload_n 0, 1) := by decide +kernel
theorem dX10_utilization_19 : decode cX10_utilization 19 = .ok (.aload_n 0, 1) := by decide +kernel
theorem dX10_utilization_20 : decode cX10_utilization 20 = .ok (.invokevirtual 307, 3) := by decide +kernel
theorem dX10_utilization_23 : decode cX10_utilization 23 = .ok (.ifCond .le 7, 3) := by decide +kernel
theorem dX10_utilization_26 : decode cX10_utilization 26 = .ok (.iconst 1, 1) := by decide +kernel
theorem dX10_utilization_27 : decode cX10_utilization 27 = .ok (.goto 4, 3) := by decide +kernel
theorem dX10_utilization_30 : decode cX10_utilization 30 = .ok (.iconst 0, 1) := by decide +kernel
theorem dX10_utilization_31 : decode cX10_utilization 31 = .ok (.iconst 2, 1) := by decide +kernel
theorem dX10_utilization_32 : decode cX10_utilization 32 = .ok (.invokevirtual 66, 3) := by decide +kernel
theorem dX10_utilization_35 : decode cX10_utilization 35 = .ok (.ifCond .eq 23, 3) := by decide +kernel
theorem dX10_utilization_38 : decode cX10_utilization 38 = .ok (.aload_n 0, 1) := by decide +kernel
theorem dX10_utilization_39 : decode cX10_utilization 39 = .ok (.getfield 9, 3) := by decide +kernel
theorem dX10_utilization_42 : decode cX10_utilization 42 = .ok (.sipush 152, 3) := by decide +kernel
theorem dX10_utilization_45 : decode cX10_utilization 45 = .ok (.iload_n 1, 1) := by decide +kernel
theorem dX10_utilization_46 : decode cX10_utilization 46 = .ok (.iadd, 1) := by decide +kernel
theorem dX10_utilization_47 : decode cX10_utilization 47 = .ok (.iaload, 1) := by decide +kernel
theorem dX10_utilization_48 : decode cX10_utilization 48 = .ok (.i2d, 1) := by decide +kernel
theorem dX10_utilization_49 : decode cX10_utilization 49 = .ok (.aload_n 0, 1) := by decide +kernel
theorem dX10_utilization_50 : decode cX10_utilization 50 = .ok (.invokevirtual 307, 3) := by decide +kernel
theorem dX10_utilization_53 : decode cX10_utilization 53 = .ok (.i2d, 1) := by decide +kernel
theorem dX10_utilization_54 : decode cX10_utilization 54 = .ok (.ddiv, 1) := by decide +kernel
theorem dX10_utilization_55 : decode cX10_utilization 55 = .ok (.goto 4, 3) := by decide +kernel
theorem dX10_utilization_58 : decode cX10_utilization 58 = .ok (.dconst 0, 1) := by decide +kernel
theorem dX10_utilization_59 : decode cX10_utilization 59 = .ok (.dreturn, 1) := by decide +kernel
theorem dX10_cell_0 : decode cX10_cell 0 = .ok (.sipush 1579, 3) := by decide +kernel
theorem dX10_cell_3 : decode cX10_cell 3 = .ok (.bipush 11, 2) := by decide +kernel
theorem dX10_cell_5 : decode cX10_cell 5 = .ok (.iload_n 0, 1) := by decide +kernel
theorem dX10_cell_6 : decode cX10_cell 6 = .ok (.imul, 1) := by decide +kernel
theorem dX10_cell_7 : decode cX10_cell 7 = .ok (.iadd, 1) := by decide +kernel
theorem dX10_cell_8 : decode cX10_cell 8 = .ok (.iload_n 1, 1) := by decide +kernel
theorem dX10_cell_9 : decode cX10_cell 9 = .ok (.iadd, 1) := by decide +kernel
theorem dX10_cell_10 : decode cX10_cell 10 = .ok (.ireturn, 1) := by decide +kernel
theorem dX10_lineOf_0 : decode cX10_lineOf 0 = .ok (.iconst 0, 1) := by decide +kernel
theorem dX10_lineOf_1 : decode cX10_lineOf 1 = .ok (.istore_n 3, 1) := by decide +kernel
theorem dX10_lineOf_2 : decode cX10_lineOf 2 = .ok (.iload_n 3, 1) := by decide +kernel
theorem dX10_lineOf_3 : decode cX10_lineOf 3 = .ok (.aload_n 0, 1) := by decide +kernel
theorem dX10_lineOf_4 : decode cX10_lineOf 4 = .ok (.getfield 9, 3) := by decide +kernel
theorem dX10_lineOf_7 : decode cX10_lineOf 7 = .ok (.sipush 1578, 3) := by decide +kernel
theorem dX10_lineOf_10 : decode cX10_lineOf 10 = .ok (.iaload, 1) := by decide +kernel
theorem dX10_lineOf_11 : decode cX10_lineOf 11 = .ok (.if_icmp .ge 39, 3) := by decide +kernel
theorem dX10_lineOf_14 : decode cX10_lineOf 14 = .ok (.aload_n 0, 1) := by decide +kernel
theorem dX10_lineOf_15 : decode cX10_lineOf 15 = .ok (.getfield 9, 3) := by decide +kernel
theorem dX10_lineOf_18 : decode cX10_lineOf 18 = .ok (.iload_n 3, 1) := by decide +kernel
theorem dX10_lineOf_19 : decode cX10_lineOf 19 = .ok (.iconst 0, 1) := by decide +kernel
theorem dX10_lineOf_20 : decode cX10_lineOf 20 = .ok (.invokestatic 310, 3) := by decide +kernel
theorem dX10_lineOf_23 : decode cX10_lineOf 23 = .ok (.iaload, 1) := by decide +kernel
theorem dX10_lineOf_24 : decode cX10_lineOf 24 = .ok (.iload_n 1, 1) := by decide +kernel
theorem dX10_lineOf_25 : decode cX10_lineOf 25 = .ok (.if_icmp .ne 19, 3) := by decide +kernel
theorem dX10_lineOf_28 : decode cX10_lineOf 28 = .ok (.aload_n 0, 1) := by decide +kernel
theorem dX10_lineOf_29 : decode cX10_lineOf 29 = .ok (.getfield 9, 3) := by decide +kernel
theorem dX10_lineOf_32 : decode cX10_lineOf 32 = .ok (.iload_n 3, 1) := by decide +kernel
theorem dX10_lineOf_33 : decode cX10_lineOf 33 = .ok (.iconst 1, 1) := by decide +kernel
theorem dX10_lineOf_34 : decode cX10_lineOf 34 = .ok (.invokestatic 310, 3) := by decide +kernel
theorem dX10_lineOf_37 : decode cX10_lineOf 37 = .ok (.iaload, 1) := by decide +kernel
theorem dX10_lineOf_38 : decode cX10_lineOf 38 = .ok (.iload_n 2, 1) := by decide +kernel
theorem dX10_lineOf_39 : decode cX10_lineOf 39 = .ok (.if_icmp .ne 5, 3) := by decide +kernel
theorem dX10_lineOf_42 : decode cX10_lineOf 42 = .ok (.iload_n 3, 1) := by decide +kernel
theorem dX10_lineOf_43 : decode cX10_lineOf 43 = .ok (.ireturn, 1) := by decide +kernel
theorem dX10_lineOf_44 : decode cX10_lineOf 44 = .ok (.iinc 3 1, 3) := by decide +kernel
theorem dX10_lineOf_47 : decode cX10_lineOf 47 = .ok (.goto (-45), 3) := by decide +kernel
theorem dX10_lineOf_50 : decode cX10_lineOf 50 = .ok (.iconst (-1), 1) := by decide +kernel
theorem dX10_lineOf_51 : decode cX10_lineOf 51 = .ok (.ireturn, 1) := by decide +kernel
theorem dX10_goes_0 : decode cX10_goes 0 = .ok (.aload_n 0, 1) := by decide +kernel
theorem dX10_goes_1 : decode cX10_goes 1 = .ok (.getfield 9, 3) := by decide +kernel
theorem dX10_goes_4 : decode cX10_goes 4 = .ok (.sipush 1578, 3) := by decide +kernel
theorem dX10_goes_7 : decode cX10_goes 7 = .ok (.dup2, 1) := by decide +kernel
theorem dX10_goes_8 : decode cX10_goes 8 = .ok (.iaload, 1) := by decide +kernel
theorem dX10_goes_9 : decode cX10_goes 9 = .ok (.iconst 1, 1) := by decide +kernel
theorem dX10_goes_10 : decode cX10_goes 10 = .ok (.isub, 1) := by decide +kernel
theorem dX10_goes_11 : decode cX10_goes 11 = .ok (.iastore, 1) := by decide +kernel
theorem dX10_goes_12 : decode cX10_goes 12 = .ok (.iload_n 1, 1) := by decide +kernel
theorem dX10_goes_13 : decode cX10_goes 13 = .ok (.iconst 0, 1) := by decide +kernel
theorem dX10_goes_14 : decode cX10_goes 14 = .ok (.invokestatic 310, 3) := by decide +kernel
theorem dX10_goes_17 : decode cX10_goes 17 = .ok (.istore_n 2, 1) := by decide +kernel
theorem dX10_goes_18 : decode cX10_goes 18 = .ok (.iload_n 2, 1) := by decide +kernel
theorem dX10_goes_19 : decode cX10_goes 19 = .ok (.aload_n 0, 1) := by decide +kernel
theorem dX10_goes_20 : decode cX10_goes 20 = .ok (.getfield 9, 3) := by decide +kernel
theorem dX10_goes_23 : decode cX10_goes 23 = .ok (.sipush 1578, 3) := by decide +kernel
theorem dX10_goes_26 : decode cX10_goes 26 = .ok (.iaload, 1) := by decide +kernel
theorem dX10_goes_27 : decode cX10_goes 27 = .ok (.iconst 0, 1) := by decide +kernel
theorem dX10_goes_28 : decode cX10_goes 28 = .ok (.invokestatic 310, 3) := by decide +kernel
theorem dX10_goes_31 : decode cX10_goes 31 = .ok (.if_icmp .ge 24, 3) := by decide +kernel
theorem dX10_goes_34 : decode cX10_goes 34 = .ok (.aload_n 0, 1) := by decide +kernel
theorem dX10_goes_35 : decode cX10_goes 35 = .ok (.getfield 9, 3) := by decide +kernel
theorem dX10_goes_38 : decode cX10_goes 38 = .ok (.iload_n 2, 1) := by decide +kernel
theorem dX10_goes_39 : decode cX10_goes 39 = .ok (.aload_n 0, 1) := by decide +kernel
theorem dX10_goes_40 : decode cX10_goes 40 = .ok (.getfield 9, 3) := by decide +kernel
theorem dX10_goes_43 : decode cX10_goes 43 = .ok (.iload_n 2, 1) := by decide +kernel
theorem dX10_goes_44 : decode cX10_goes 44 = .ok (.bipush 11, 2) := by decide +kernel
theorem dX10_goes_46 : decode cX10_goes 46 = .ok (.iadd, 1) := by decide +kernel
theorem dX10_goes_47 : decode cX10_goes 47 = .ok (.iaload, 1) := by decide +kernel
theorem dX10_goes_48 : decode cX10_goes 48 = .ok (.iastore, 1) := by decide +kernel
theorem dX10_goes_49 : decode cX10_goes 49 = .ok (.iinc 2 1, 3) := by decide +kernel
theorem dX10_goes_52 : decode cX10_goes 52 = .ok (.goto (-34), 3) := by decide +kernel
theorem dX10_goes_55 : decode cX10_goes 55 = .ok (.return_, 1) := by decide +kernel
theorem dX10_cleans_0 : decode cX10_cleans 0 = .ok (.aload_n 0, 1) := by decide +kernel
theorem dX10_cleans_1 : decode cX10_cleans 1 = .ok (.getfield 9, 3) := by decide +kernel
theorem dX10_cleans_4 : decode cX10_cleans 4 = .ok (.iload_n 1, 1) := by decide +kernel
theorem dX10_cleans_5 : decode cX10_cleans 5 = .ok (.iconst 2, 1) := by decide +kernel
theorem dX10_cleans_6 : decode cX10_cleans 6 = .ok (.invokestatic 310, 3) := by decide +kernel
theorem dX10_cleans_9 : decode cX10_cleans 9 = .ok (.iaload, 1) := by decide +kernel
theorem dX10_cleans_10 : decode cX10_cleans 10 = .ok (.ifCond .ne 5, 3) := by decide +kernel
theorem dX10_cleans_13 : decode cX10_cleans 13 = .ok (.iconst 0, 1) := by decide +kernel
theorem dX10_cleans_14 : decode cX10_cleans 14 = .ok (.ireturn, 1) := by decide +kernel
theorem dX10_cleans_15 : decode cX10_cleans 15 = .ok (.iconst 0, 1) := by decide +kernel
theorem dX10_cleans_16 : decode cX10_cleans 16 = .ok (.istore_n 2, 1) := by decide +kernel
theorem dX10_cleans_17 : decode cX10_cleans 17 = .ok (.iload_n 2, 1) := by decide +kernel
theorem dX10_cleans_18 : decode cX10_cleans 18 = .ok (.aload_n 0, 1) := by decide +kernel
theorem dX10_cleans_19 : decode cX10_cleans 19 = .ok (.getfield 23, 3) := by decide +kernel
theorem dX10_cleans_22 : decode cX10_cleans 22 = .ok (.iconst 2, 1) := by decide +kernel
theorem dX10_cleans_23 : decode cX10_cleans 23 = .ok (.iaload, 1) := by decide +kernel
theorem dX10_cleans_24 : decode cX10_cleans 24 = .ok (.if_icmp .ge 50, 3) := by decide +kernel
theorem dX10_cleans_27 : decode cX10_cleans 27 = .ok (.aload_n 0, 1) := by decide +kernel
theorem dX10_cleans_28 : decode cX10_cleans 28 = .ok (.getfield 9, 3) := by decide +kernel
theorem dX10_cleans_31 : decode cX10_cleans 31 = .ok (.aload_n 0, 1) := by decide +kernel
theorem dX10_cleans_32 : decode cX10_cleans 32 = .ok (.getfield 9, 3) := by decide +kernel
theorem dX10_cleans_35 : decode cX10_cleans 35 = .ok (.iload_n 1, 1) := by decide +kernel
theorem dX10_cleans_36 : decode cX10_cleans 36 = .ok (.iconst 0, 1) := by decide +kernel
theorem dX10_cleans_37 : decode cX10_cleans 37 = .ok (.invokestatic 310, 3) := by decide +kernel
theorem dX10_cleans_40 : decode cX10_cleans 40 = .ok (.iaload, 1) := by decide +kernel
theorem dX10_cleans_41 : decode cX10_cleans 41 = .ok (.aload_n 0, 1) := by decide +kernel
theorem dX10_cleans_42 : decode cX10_cleans 42 = .ok (.getfield 9, 3) := by decide +kernel
theorem dX10_cleans_45 : decode cX10_cleans 45 = .ok (.iload_n 1, 1) := by decide +kernel
theorem dX10_cleans_46 : decode cX10_cleans 46 = .ok (.iconst 1, 1) := by decide +kernel
theorem dX10_cleans_47 : decode cX10_cleans 47 = .ok (.invokestatic 310, 3) := by decide +kernel
theorem dX10_cleans_50 : decode cX10_cleans 50 = .ok (.iaload, 1) := by decide +kernel
theorem dX10_cleans_51 : decode cX10_cleans 51 = .ok (.iload_n 2, 1) := by decide +kernel
theorem dX10_cleans_52 : decode cX10_cleans 52 = .ok (.invokestatic 247, 3) := by decide +kernel
theorem dX10_cleans_55 : decode cX10_cleans 55 = .ok (.aload_n 0, 1) := by decide +kernel
theorem dX10_cleans_56 : decode cX10_cleans 56 = .ok (.getfield 9, 3) := by decide +kernel
theorem dX10_cleans_59 : decode cX10_cleans 59 = .ok (.iload_n 1, 1) := by decide +kernel
theorem dX10_cleans_60 : decode cX10_cleans 60 = .ok (.iconst 3, 1) := by decide +kernel
theorem dX10_cleans_61 : decode cX10_cleans 61 = .ok (.iload_n 2, 1) := by decide +kernel
theorem dX10_cleans_62 : decode cX10_cleans 62 = .ok (.iadd, 1) := by decide +kernel
theorem dX10_cleans_63 : decode cX10_cleans 63 = .ok (.invokestatic 310, 3) := by decide +kernel
theorem dX10_cleans_66 : decode cX10_cleans 66 = .ok (.iaload, 1) := by decide +kernel
theorem dX10_cleans_67 : decode cX10_cleans 67 = .ok (.iastore, 1) := by decide +kernel
theorem dX10_cleans_68 : decode cX10_cleans 68 = .ok (.iinc 2 1, 3) := by decide +kernel
theorem dX10_cleans_71 : decode cX10_cleans 71 = .ok (.goto (-54), 3) := by decide +kernel
theorem dX10_cleans_74 : decode cX10_cleans 74 = .ok (.aload_n 0, 1) := by decide +kernel
theorem dX10_cleans_75 : decode cX10_cleans 75 = .ok (.getfield 9, 3) := by decide +kernel
theorem dX10_cleans_78 : decode cX10_cleans 78 = .ok (.iload_n 1, 1) := by decide +kernel
theorem dX10_cleans_79 : decode cX10_cleans 79 = .ok (.iconst 2, 1) := by decide +kernel
theorem dX10_cleans_80 : decode cX10_cleans 80 = .ok (.invokestatic 310, 3) := by decide +kernel
theorem dX10_cleans_83 : decode cX10_cleans 83 = .ok (.iconst 0, 1) := by decide +kernel
theorem dX10_cleans_84 : decode cX10_cleans 84 = .ok (.iastore, 1) := by decide +kernel
theorem dX10_cleans_85 : decode cX10_cleans 85 = .ok (.aload_n 0, 1) := by decide +kernel
theorem dX10_cleans_86 : decode cX10_cleans 86 = .ok (.getfield 9, 3) := by decide +kernel
theorem dX10_cleans_89 : decode cX10_cleans 89 = .ok (.sipush 1669, 3) := by decide +kernel
theorem dX10_cleans_92 : decode cX10_cleans 92 = .ok (.dup2, 1) := by decide +kernel
theorem dX10_cleans_93 : decode cX10_cleans 93 = .ok (.iaload, 1) := by decide +kernel
theorem dX10_cleans_94 : decode cX10_cleans 94 = .ok (.iconst 1, 1) := by decide +kernel
theorem dX10_cleans_95 : decode cX10_cleans 95 = .ok (.iadd, 1) := by decide +kernel
theorem dX10_cleans_96 : decode cX10_cleans 96 = .ok (.iastore, 1) := by decide +kernel
theorem dX10_cleans_97 : decode cX10_cleans 97 = .ok (.iconst 1, 1) := by decide +kernel
theorem dX10_cleans_98 : decode cX10_cleans 98 = .ok (.ireturn, 1) := by decide +kernel
theorem dX10_uses_0 : decode cX10_uses 0 = .ok (.aload_n 0, 1) := by decide +kernel
theorem dX10_uses_1 : decode cX10_uses 1 = .ok (.iload_n 1, 1) := by decide +kernel
theorem dX10_uses_2 : decode cX10_uses 2 = .ok (.iload_n 2, 1) := by decide +kernel
theorem dX10_uses_3 : decode cX10_uses 3 = .ok (.invokevirtual 313, 3) := by decide +kernel
theorem dX10_uses_6 : decode cX10_uses 6 = .ok (.istore_n 3, 1) := by decide +kernel
theorem dX10_uses_7 : decode cX10_uses 7 = .ok (.aload_n 0, 1) := by decide +kernel
theorem dX10_uses_8 : decode cX10_uses 8 = .ok (.getfield 9, 3) := by decide +kernel
theorem dX10_uses_11 : decode cX10_uses 11 = .ok (.sipush 1667, 3) := by decide +kernel
theorem dX10_uses_14 : decode cX10_uses 14 = .ok (.iload_n 3, 1) := by decide +kernel
theorem dX10_uses_15 : decode cX10_uses 15 = .ok (.iconst (-1), 1) := by decide +kernel
theorem dX10_uses_16 : decode cX10_uses 16 = .ok (.if_icmp .ne 7, 3) := by decide +kernel
theorem dX10_uses_19 : decode cX10_uses 19 = .ok (.iconst 1, 1) := by decide +kernel
theorem dX10_uses_20 : decode cX10_uses 20 = .ok (.goto 4, 3) := by decide +kernel
theorem dX10_uses_23 : decode cX10_uses 23 = .ok (.iconst 0, 1) := by decide +kernel
theorem dX10_uses_24 : decode cX10_uses 24 = .ok (.iadd, 1) := by decide +kernel
theorem dX10_uses_25 : decode cX10_uses 25 = .ok (.dup2, 1) := by decide +kernel
theorem dX10_uses_26 : decode cX10_uses 26 = .ok (.iaload, 1) := by decide +kernel
theorem dX10_uses_27 : decode cX10_uses 27 = .ok (.iconst 1, 1) := by decide +kernel
theorem dX10_uses_28 : decode cX10_uses 28 = .ok (.iadd, 1) := by decide +kernel
theorem dX10_uses_29 : decode cX10_uses 29 = .ok (.iastore, 1) := by decide +kernel
theorem dX10_uses_30 : decode cX10_uses 30 = .ok (.iload_n 3, 1) := by decide +kernel
theorem dX10_uses_31 : decode cX10_uses 31 = .ok (.iconst (-1), 1) := by decide +kernel
theorem dX10_uses_32 : decode cX10_uses 32 = .ok (.if_icmp .ne 50, 3) := by decide +kernel
theorem dX10_uses_35 : decode cX10_uses 35 = .ok (.aload_n 0, 1) := by decide +kernel
theorem dX10_uses_36 : decode cX10_uses 36 = .ok (.getfield 9, 3) := by decide +kernel
theorem dX10_uses_39 : decode cX10_uses 39 = .ok (.sipush 1578, 3) := by decide +kernel
theorem dX10_uses_42 : decode cX10_uses 42 = .ok (.iaload, 1) := by decide +kernel
theorem dX10_uses_43 : decode cX10_uses 43 = .ok (.aload_n 0, 1) := by decide +kernel
theorem dX10_uses_44 : decode cX10_uses 44 = .ok (.getfield 23, 3) := by decide +kernel
theorem dX10_uses_47 : decode cX10_uses 47 = .ok (.bipush 11, 2) := by decide +kernel
theorem dX10_uses_49 : decode cX10_uses 49 = .ok (.iaload, 1) := by decide +kernel
theorem dX10_uses_50 : decode cX10_uses 50 = .ok (.if_icmp .ne 15, 3) := by decide +kernel
theorem dX10_uses_53 : decode cX10_uses 53 = .ok (.aload_n 0, 1) := by decide +kernel
theorem dX10_uses_54 : decode cX10_uses 54 = .ok (.iconst 0, 1) := by decide +kernel
theorem dX10_uses_55 : decode cX10_uses 55 = .ok (.invokevirtual 316, 3) := by decide +kernel
theorem dX10_uses_58 : decode cX10_uses 58 = .ok (.istore 4, 2) := by decide +kernel
theorem dX10_uses_60 : decode cX10_uses 60 = .ok (.aload_n 0, 1) := by decide +kernel
theorem dX10_uses_61 : decode cX10_uses 61 = .ok (.iconst 0, 1) := by decide +kernel
theorem dX10_uses_62 : decode cX10_uses 62 = .ok (.invokevirtual 319, 3) := by decide +kernel
theorem dX10_uses_65 : decode cX10_uses 65 = .ok (.aload_n 0, 1) := by decide +kernel
theorem dX10_uses_66 : decode cX10_uses 66 = .ok (.iload_n 1, 1) := by decide +kernel
theorem dX10_uses_67 : decode cX10_uses 67 = .ok (.iload_n 2, 1) := by decide +kernel
theorem dX10_uses_68 : decode cX10_uses 68 = .ok (.invokevirtual 322, 3) := by decide +kernel
theorem dX10_uses_71 : decode cX10_uses 71 = .ok (.aload_n 0, 1) := by decide +kernel
theorem dX10_uses_72 : decode cX10_uses 72 = .ok (.getfield 9, 3) := by decide +kernel
theorem dX10_uses_75 : decode cX10_uses 75 = .ok (.sipush 1578, 3) := by decide +kernel
theorem dX10_uses_78 : decode cX10_uses 78 = .ok (.iaload, 1) := by decide +kernel
theorem dX10_uses_79 : decode cX10_uses 79 = .ok (.iconst 1, 1) := by decide +kernel
theorem dX10_uses_80 : decode cX10_uses 80 = .ok (.isub, 1) := by decide +kernel
theorem dX10_uses_81 : decode cX10_uses 81 = .ok (.ireturn, 1) := by decide +kernel
theorem dX10_uses_82 : decode cX10_uses 82 = .ok (.aload_n 0, 1) := by decide +kernel
theorem dX10_uses_83 : decode cX10_uses 83 = .ok (.getfield 9, 3) := by decide +kernel
theorem dX10_uses_86 : decode cX10_uses 86 = .ok (.sipush 1578, 3) := by decide +kernel
theorem dX10_uses_89 : decode cX10_uses 89 = .ok (.iaload, 1) := by decide +kernel
theorem dX10_uses_90 : decode cX10_uses 90 = .ok (.iconst 1, 1) := by decide +kernel
theorem dX10_uses_91 : decode cX10_uses 91 = .ok (.isub, 1) := by decide +kernel
theorem dX10_uses_92 : decode cX10_uses 92 = .ok (.istore 4, 2) := by decide +kernel
theorem dX10_uses_94 : decode cX10_uses 94 = .ok (.iconst 0, 1) := by decide +kernel
theorem dX10_uses_95 : decode cX10_uses 95 = .ok (.istore 5, 2) := by decide +kernel
theorem dX10_uses_97 : decode cX10_uses 97 = .ok (.iload 5, 2) := by decide +kernel
theorem dX10_uses_99 : decode cX10_uses 99 = .ok (.bipush 11, 2) := by decide +kernel
theorem dX10_uses_101 : decode cX10_uses 101 = .ok (.if_icmp .ge 27, 3) := by decide +kernel
theorem dX10_uses_104 : decode cX10_uses 104 = .ok (.aload_n 0, 1) := by decide +kernel
theorem dX10_uses_105 : decode cX10_uses 105 = .ok (.getfield 36, 3) := by decide +kernel
theorem dX10_uses_108 : decode cX10_uses 108 = .ok (.iload 5, 2) := by decide +kernel
theorem dX10_uses_110 : decode cX10_uses 110 = .ok (.aload_n 0, 1) := by decide +kernel
theorem dX10_uses_111 : decode cX10_uses 111 = .ok (.getfield 9, 3) := by decide +kernel
theorem dX10_uses_114 : decode cX10_uses 114 = .ok (.iload_n 3, 1) := by decide +kernel
theorem dX10_uses_115 : decode cX10_uses 115 = .ok (.iload 5, 2) := by decide +kernel
theorem dX10_uses_117 : decode cX10_uses 117 = .ok (.invokestatic 310, 3) := by decide +kernel
theorem dX10_uses_120 : decode cX10_uses 120 = .ok (.iaload, 1) := by decide +kernel
theorem dX10_uses_121 : decode cX10_uses 121 = .ok (.iastore, 1) := by decide +kernel
theorem dX10_uses_122 : decode cX10_uses 122 = .ok (.iinc 5 1, 3) := by decide +kernel
theorem dX10_uses_125 : decode cX10_uses 125 = .ok (.goto (-28), 3) := by decide +kernel
theorem dX10_uses_128 : decode cX10_uses 128 = .ok (.iload_n 3, 1) := by decide +kernel
theorem dX10_uses_129 : decode cX10_uses 129 = .ok (.iconst 0, 1) := by decide +kernel
theorem dX10_uses_130 : decode cX10_uses 130 = .ok (.invokestatic 310, 3) := by decide +kernel
theorem dX10_uses_133 : decode cX10_uses 133 = .ok (.istore 5, 2) := by decide +kernel
theorem dX10_uses_135 : decode cX10_uses 135 = .ok (.iload 5, 2) := by decide +kernel
theorem dX10_uses_137 : decode cX10_uses 137 = .ok (.iload 4, 2) := by decide +kernel
theorem dX10_uses_139 : decode cX10_uses 139 = .ok (.iconst 0, 1) := by decide +kernel
theorem dX10_uses_140 : decode cX10_uses 140 = .ok (.invokestatic 310, 3) := by decide +kernel
theorem dX10_uses_143 : decode cX10_uses 143 = .ok (.if_icmp .ge 26, 3) := by decide +kernel
theorem dX10_uses_146 : decode cX10_uses 146 = .ok (.aload_n 0, 1) := by decide +kernel
theorem dX10_uses_147 : decode cX10_uses 147 = .ok (.getfield 9, 3) := by decide +kernel
theorem dX10_uses_150 : decode cX10_uses 150 = .ok (.iload 5, 2) := by decide +kernel
theorem dX10_uses_152 : decode cX10_uses 152 = .ok (.aload_n 0, 1) := by decide +kernel
theorem dX10_uses_153 : decode cX10_uses 153 = .ok (.getfield 9, 3) := by decide +kernel
theorem dX10_uses_156 : decode cX10_uses 156 = .ok (.iload 5, 2) := by decide +kernel
theorem dX10_uses_158 : decode cX10_uses 158 = .ok (.bipush 11, 2) := by decide +kernel
theorem dX10_uses_160 : decode cX10_uses 160 = .ok (.iadd, 1) := by decide +kernel
theorem dX10_uses_161 : decode cX10_uses 161 = .ok (.iaload, 1) := by decide +kernel
theorem dX10_uses_162 : decode cX10_uses 162 = .ok (.iastore, 1) := by decide +kernel
theorem dX10_uses_163 : decode cX10_uses 163 = .ok (.iinc 5 1, 3) := by decide +kernel
theorem dX10_uses_166 : decode cX10_uses 166 = .ok (.goto (-31), 3) := by decide +kernel
theorem dX10_uses_169 : decode cX10_uses 169 = .ok (.iconst 0, 1) := by decide +kernel
theorem dX10_uses_170 : decode cX10_uses 170 = .ok (.istore 5, 2) := by decide +kernel
theorem dX10_uses_172 : decode cX10_uses 172 = .ok (.iload 5, 2) := by decide +kernel
theorem dX10_uses_174 : decode cX10_uses 174 = .ok (.bipush 11, 2) := by decide +kernel
theorem dX10_uses_176 : decode cX10_uses 176 = .ok (.if_icmp .ge 28, 3) := by decide +kernel
theorem dX10_uses_179 : decode cX10_uses 179 = .ok (.aload_n 0, 1) := by decide +kernel
theorem dX10_uses_180 : decode cX10_uses 180 = .ok (.getfield 9, 3) := by decide +kernel
theorem dX10_uses_183 : decode cX10_uses 183 = .ok (.iload 4, 2) := by decide +kernel
theorem dX10_uses_185 : decode cX10_uses 185 = .ok (.iload 5, 2) := by decide +kernel
theorem dX10_uses_187 : decode cX10_uses 187 = .ok (.invokestatic 310, 3) := by decide +kernel
theorem dX10_uses_190 : decode cX10_uses 190 = .ok (.aload_n 0, 1) := by decide +kernel
theorem dX10_uses_191 : decode cX10_uses 191 = .ok (.getfield 36, 3) := by decide +kernel
theorem dX10_uses_194 : decode cX10_uses 194 = .ok (.iload 5, 2) := by decide +kernel
theorem dX10_uses_196 : decode cX10_uses 196 = .ok (.iaload, 1) := by decide +kernel
theorem dX10_uses_197 : decode cX10_uses 197 = .ok (.iastore, 1) := by decide +kernel
theorem dX10_uses_198 : decode cX10_uses 198 = .ok (.iinc 5 1, 3) := by decide +kernel
theorem dX10_uses_201 : decode cX10_uses 201 = .ok (.goto (-29), 3) := by decide +kernel
theorem dX10_uses_204 : decode cX10_uses 204 = .ok (.iload 4, 2) := by decide +kernel
theorem dX10_uses_206 : decode cX10_uses 206 = .ok (.ireturn, 1) := by decide +kernel
theorem dX10_comes_0 : decode cX10_comes 0 = .ok (.aload_n 0, 1) := by decide +kernel
theorem dX10_comes_1 : decode cX10_comes 1 = .ok (.getfield 9, 3) := by decide +kernel
theorem dX10_comes_4 : decode cX10_comes 4 = .ok (.sipush 1578, 3) := by decide +kernel
theorem dX10_comes_7 : decode cX10_comes 7 = .ok (.iaload, 1) := by decide +kernel
theorem dX10_comes_8 : decode cX10_comes 8 = .ok (.istore_n 3, 1) := by decide +kernel
theorem dX10_comes_9 : decode cX10_comes 9 = .ok (.aload_n 0, 1) := by decide +kernel
theorem dX10_comes_10 : decode cX10_comes 10 = .ok (.getfield 9, 3) := by decide +kernel
theorem dX10_comes_13 : decode cX10_comes 13 = .ok (.iload_n 3, 1) := by decide +kernel
theorem dX10_comes_14 : decode cX10_comes 14 = .ok (.iconst 0, 1) := by decide +kernel
theorem dX10_comes_15 : decode cX10_comes 15 = .ok (.invokestatic 310, 3) := by decide +kernel
theorem dX10_comes_18 : decode cX10_comes 18 = .ok (.iload_n 1, 1) := by decide +kernel
theorem dX10_comes_19 : decode cX10_comes 19 = .ok (.iastore, 1) := by decide +kernel
theorem dX10_comes_20 : decode cX10_comes 20 = .ok (.aload_n 0, 1) := by decide +kernel
theorem dX10_comes_21 : decode cX10_comes 21 = .ok (.getfield 9, 3) := by decide +kernel
theorem dX10_comes_24 : decode cX10_comes 24 = .ok (.iload_n 3, 1) := by decide +kernel
theorem dX10_comes_25 : decode cX10_comes 25 = .ok (.iconst 1, 1) := by decide +kernel
theorem dX10_comes_26 : decode cX10_comes 26 = .ok (.invokestatic 310, 3) := by decide +kernel
theorem dX10_comes_29 : decode cX10_comes 29 = .ok (.iload_n 2, 1) := by decide +kernel
theorem dX10_comes_30 : decode cX10_comes 30 = .ok (.iastore, 1) := by decide +kernel
theorem dX10_comes_31 : decode cX10_comes 31 = .ok (.aload_n 0, 1) := by decide +kernel
theorem dX10_comes_32 : decode cX10_comes 32 = .ok (.getfield 9, 3) := by decide +kernel
theorem dX10_comes_35 : decode cX10_comes 35 = .ok (.iload_n 3, 1) := by decide +kernel
theorem dX10_comes_36 : decode cX10_comes 36 = .ok (.iconst 2, 1) := by decide +kernel
theorem dX10_comes_37 : decode cX10_comes 37 = .ok (.invokestatic 310, 3) := by decide +kernel
theorem dX10_comes_40 : decode cX10_comes 40 = .ok (.iconst 0, 1) := by decide +kernel
theorem dX10_comes_41 : decode cX10_comes 41 = .ok (.iastore, 1) := by decide +kernel
theorem dX10_comes_42 : decode cX10_comes 42 = .ok (.iconst 0, 1) := by decide +kernel
theorem dX10_comes_43 : decode cX10_comes 43 = .ok (.istore 4, 2) := by decide +kernel
theorem dX10_comes_45 : decode cX10_comes 45 = .ok (.iload 4, 2) := by decide +kernel
theorem dX10_comes_47 : decode cX10_comes 47 = .ok (.aload_n 0, 1) := by decide +kernel
theorem dX10_comes_48 : decode cX10_comes 48 = .ok (.getfield 23, 3) := by decide +kernel
theorem dX10_comes_51 : decode cX10_comes 51 = .ok (.iconst 2, 1) := by decide +kernel
theorem dX10_comes_52 : decode cX10_comes 52 = .ok (.iaload, 1) := by decide +kernel
theorem dX10_comes_53 : decode cX10_comes 53 = .ok (.if_icmp .ge 34, 3) := by decide +kernel
theorem dX10_comes_56 : decode cX10_comes 56 = .ok (.aload_n 0, 1) := by decide +kernel
theorem dX10_comes_57 : decode cX10_comes 57 = .ok (.getfield 9, 3) := by decide +kernel
theorem dX10_comes_60 : decode cX10_comes 60 = .ok (.iload_n 3, 1) := by decide +kernel
theorem dX10_comes_61 : decode cX10_comes 61 = .ok (.iconst 3, 1) := by decide +kernel
theorem dX10_comes_62 : decode cX10_comes 62 = .ok (.iload 4, 2) := by decide +kernel
theorem dX10_comes_64 : decode cX10_comes 64 = .ok (.iadd, 1) := by decide +kernel
theorem dX10_comes_65 : decode cX10_comes 65 = .ok (.invokestatic 310, 3) := by decide +kernel
theorem dX10_comes_68 : decode cX10_comes 68 = .ok (.aload_n 0, 1) := by decide +kernel
theorem dX10_comes_69 : decode cX10_comes 69 = .ok (.getfield 9, 3) := by decide +kernel
theorem dX10_comes_72 : decode cX10_comes 72 = .ok (.iload_n 1, 1) := by decide +kernel
theorem dX10_comes_73 : decode cX10_comes 73 = .ok (.iload_n 2, 1) := by decide +kernel
theorem dX10_comes_74 : decode cX10_comes 74 = .ok (.iload 4, 2) := by decide +kernel
theorem dX10_comes_76 : decode cX10_comes 76 = .ok (.invokestatic 247, 3) := by decide +kernel
theorem dX10_comes_79 : decode cX10_comes 79 = .ok (.iaload, 1) := by decide +kernel
theorem dX10_comes_80 : decode cX10_comes 80 = .ok (.iastore, 1) := by decide +kernel
theorem dX10_comes_81 : decode cX10_comes 81 = .ok (.iinc 4 1, 3) := by decide +kernel
theorem dX10_comes_84 : decode cX10_comes 84 = .ok (.goto (-39), 3) := by decide +kernel
theorem dX10_comes_87 : decode cX10_comes 87 = .ok (.aload_n 0, 1) := by decide +kernel
theorem dX10_comes_88 : decode cX10_comes 88 = .ok (.getfield 9, 3) := by decide +kernel
theorem dX10_comes_91 : decode cX10_comes 91 = .ok (.sipush 1578, 3) := by decide +kernel
theorem dX10_comes_94 : decode cX10_comes 94 = .ok (.dup2, 1) := by decide +kernel
theorem dX10_comes_95 : decode cX10_comes 95 = .ok (.iaload, 1) := by decide +kernel
theorem dX10_comes_96 : decode cX10_comes 96 = .ok (.iconst 1, 1) := by decide +kernel
theorem dX10_comes_97 : decode cX10_comes 97 = .ok (.iadd, 1) := by decide +kernel
theorem dX10_comes_98 : decode cX10_comes 98 = .ok (.iastore, 1) := by decide +kernel
theorem dX10_comes_99 : decode cX10_comes 99 = .ok (.return_, 1) := by decide +kernel
theorem dX10_found_0 : decode cX10_found 0 = .ok (.aload_n 0, 1) := by decide +kernel
theorem dX10_found_1 : decode cX10_found 1 = .ok (.getfield 23, 3) := by decide +kernel
theorem dX10_found_4 : decode cX10_found 4 = .ok (.bipush 11, 2) := by decide +kernel
theorem dX10_found_6 : decode cX10_found 6 = .ok (.iaload, 1) := by decide +kernel
theorem dX10_found_7 : decode cX10_found 7 = .ok (.ifCond .le 16, 3) := by decide +kernel
theorem dX10_found_10 : decode cX10_found 10 = .ok (.aload_n 0, 1) := by decide +kernel
theorem dX10_found_11 : decode cX10_found 11 = .ok (.iload_n 1, 1) := by decide +kernel
theorem dX10_found_12 : decode cX10_found 12 = .ok (.iload_n 2, 1) := by decide +kernel
theorem dX10_found_13 : decode cX10_found 13 = .ok (.invokevirtual 325, 3) := by decide +kernel
theorem dX10_found_16 : decode cX10_found 16 = .ok (.iconst 3, 1) := by decide +kernel
theorem dX10_found_17 : decode cX10_found 17 = .ok (.iload_n 3, 1) := by decide +kernel
theorem dX10_found_18 : decode cX10_found 18 = .ok (.iadd, 1) := by decide +kernel
theorem dX10_found_19 : decode cX10_found 19 = .ok (.invokestatic 310, 3) := by decide +kernel
theorem dX10_found_22 : decode cX10_found 22 = .ok (.ireturn, 1) := by decide +kernel
theorem dX10_found_23 : decode cX10_found 23 = .ok (.aload_n 0, 1) := by decide +kernel
theorem dX10_found_24 : decode cX10_found 24 = .ok (.getfield 9, 3) := by decide +kernel
theorem dX10_found_27 : decode cX10_found 27 = .ok (.sipush 1668, 3) := by decide +kernel
theorem dX10_found_30 : decode cX10_found 30 = .ok (.dup2, 1) := by decide +kernel
theorem dX10_found_31 : decode cX10_found 31 = .ok (.iaload, 1) := by decide +kernel
theorem dX10_found_32 : decode cX10_found 32 = .ok (.iconst 1, 1) := by decide +kernel
theorem dX10_found_33 : decode cX10_found 33 = .ok (.iadd, 1) := by decide +kernel
theorem dX10_found_34 : decode cX10_found 34 = .ok (.iastore, 1) := by decide +kernel
theorem dX10_found_35 : decode cX10_found 35 = .ok (.iload_n 1, 1) := by decide +kernel
theorem dX10_found_36 : decode cX10_found 36 = .ok (.iload_n 2, 1) := by decide +kernel
theorem dX10_found_37 : decode cX10_found 37 = .ok (.iload_n 3, 1) := by decide +kernel
theorem dX10_found_38 : decode cX10_found 38 = .ok (.invokestatic 247, 3) := by decide +kernel
theorem dX10_found_41 : decode cX10_found 41 = .ok (.ireturn, 1) := by decide +kernel
theorem dX10_hostRead_0 : decode cX10_hostRead 0 = .ok (.aload_n 0, 1) := by decide +kernel
theorem dX10_hostRead_1 : decode cX10_hostRead 1 = .ok (.iconst 0, 1) := by decide +kernel
theorem dX10_hostRead_2 : decode cX10_hostRead 2 = .ok (.putfield 60, 3) := by decide +kernel
theorem dX10_hostRead_5 : decode cX10_hostRead 5 = .ok (.aload_n 0, 1) := by decide +kernel
theorem dX10_hostRead_6 : decode cX10_hostRead 6 = .ok (.aload_n 0, 1) := by decide +kernel
theorem dX10_hostRead_7 : decode cX10_hostRead 7 = .ok (.iload_n 1, 1) := by decide +kernel
theorem dX10_hostRead_8 : decode cX10_hostRead 8 = .ok (.iload_n 2, 1) := by decide +kernel
theorem dX10_hostRead_9 : decode cX10_hostRead 9 = .ok (.invokevirtual 241, 3) := by decide +kernel
theorem dX10_hostRead_12 : decode cX10_hostRead 12 = .ok (.ifCond .eq 15, 3) := by decide +kernel
theorem dX10_hostRead_15 : decode cX10_hostRead 15 = .ok (.aload_n 0, 1) := by decide +kernel
theorem dX10_hostRead_16 : decode cX10_hostRead 16 = .ok (.iload_n 3, 1) := by decide +kernel
theorem dX10_hostRead_17 : decode cX10_hostRead 17 = .ok (.invokevirtual 244, 3) := by decide +kernel
theorem dX10_hostRead_20 : decode cX10_hostRead 20 = .ok (.ifCond .eq 7, 3) := by decide +kernel
theorem dX10_hostRead_23 : decode cX10_hostRead 23 = .ok (.iconst 1, 1) := by decide +kernel
theorem dX10_hostRead_24 : decode cX10_hostRead 24 = .ok (.goto 4, 3) := by decide +kernel
theorem dX10_hostRead_27 : decode cX10_hostRead 27 = .ok (.iconst 0, 1) := by decide +kernel
theorem dX10_hostRead_28 : decode cX10_hostRead 28 = .ok (.iconst 1, 1) := by decide +kernel
theorem dX10_hostRead_29 : decode cX10_hostRead 29 = .ok (.invokevirtual 66, 3) := by decide +kernel
theorem dX10_hostRead_32 : decode cX10_hostRead 32 = .ok (.ifCond .eq 18, 3) := by decide +kernel
theorem dX10_hostRead_35 : decode cX10_hostRead 35 = .ok (.aload_n 0, 1) := by decide +kernel
theorem dX10_hostRead_36 : decode cX10_hostRead 36 = .ok (.getfield 9, 3) := by decide +kernel
theorem dX10_hostRead_39 : decode cX10_hostRead 39 = .ok (.aload_n 0, 1) := by decide +kernel
theorem dX10_hostRead_40 : decode cX10_hostRead 40 = .ok (.iload_n 1, 1) := by decide +kernel
theorem dX10_hostRead_41 : decode cX10_hostRead 41 = .ok (.iload_n 2, 1) := by decide +kernel
theorem dX10_hostRead_42 : decode cX10_hostRead 42 = .ok (.iload_n 3, 1) := by decide +kernel
theorem dX10_hostRead_43 : decode cX10_hostRead 43 = .ok (.invokevirtual 328, 3) := by decide +kernel
theorem dX10_hostRead_46 : decode cX10_hostRead 46 = .ok (.iaload, 1) := by decide +kernel
theorem dX10_hostRead_47 : decode cX10_hostRead 47 = .ok (.goto 4, 3) := by decide +kernel
theorem dX10_hostRead_50 : decode cX10_hostRead 50 = .ok (.iconst 0, 1) := by decide +kernel
theorem dX10_hostRead_51 : decode cX10_hostRead 51 = .ok (.ireturn, 1) := by decide +kernel
theorem dX10_hostWrite_0 : decode cX10_hostWrite 0 = .ok (.aload_n 0, 1) := by decide +kernel
theorem dX10_hostWrite_1 : decode cX10_hostWrite 1 = .ok (.iconst 0, 1) := by decide +kernel
theorem dX10_hostWrite_2 : decode cX10_hostWrite 2 = .ok (.putfield 60, 3) := by decide +kernel
theorem dX10_hostWrite_5 : decode cX10_hostWrite 5 = .ok (.aload_n 0, 1) := by decide +kernel
theorem dX10_hostWrite_6 : decode cX10_hostWrite 6 = .ok (.aload_n 0, 1) := by decide +kernel
theorem dX10_hostWrite_7 : decode cX10_hostWrite 7 = .ok (.iload_n 1, 1) := by decide +kernel
theorem dX10_hostWrite_8 : decode cX10_hostWrite 8 = .ok (.iload_n 2, 1) := by decide +kernel
theorem dX10_hostWrite_9 : decode cX10_hostWrite 9 = .ok (.invokevirtual 241, 3) := by decide +kernel
theorem dX10_hostWrite_12 : decode cX10_hostWrite 12 = .ok (.ifCond .eq 15, 3) := by decide +kernel
theorem dX10_hostWrite_15 : decode cX10_hostWrite 15 = .ok (.aload_n 0, 1) := by decide +kernel
theorem dX10_hostWrite_16 : decode cX10_hostWrite 16 = .ok (.iload_n 3, 1) := by decide +kernel
theorem dX10_hostWrite_17 : decode cX10_hostWrite 17 = .ok (.invokevirtual 244, 3) := by decide +kernel
theorem dX10_hostWrite_20 : decode cX10_hostWrite 20 = .ok (.ifCond .eq 7, 3) := by decide +kernel
theorem dX10_hostWrite_23 : decode cX10_hostWrite 23 = .ok (.iconst 1, 1) := by decide +kernel
theorem dX10_hostWrite_24 : decode cX10_hostWrite 24 = .ok (.goto 4, 3) := by decide +kernel
theorem dX10_hostWrite_27 : decode cX10_hostWrite 27 = .ok (.iconst 0, 1) := by decide +kernel
theorem dX10_hostWrite_28 : decode cX10_hostWrite 28 = .ok (.iconst 1, 1) := by decide +kernel
theorem dX10_hostWrite_29 : decode cX10_hostWrite 29 = .ok (.invokevirtual 66, 3) := by decide +kernel
theorem dX10_hostWrite_32 : decode cX10_hostWrite 32 = .ok (.ifCond .ne 5, 3) := by decide +kernel
theorem dX10_hostWrite_35 : decode cX10_hostWrite 35 = .ok (.iconst 0, 1) := by decide +kernel
theorem dX10_hostWrite_36 : decode cX10_hostWrite 36 = .ok (.ireturn, 1) := by decide +kernel
theorem dX10_hostWrite_37 : decode cX10_hostWrite 37 = .ok (.aload_n 0, 1) := by decide +kernel
theorem dX10_hostWrite_38 : decode cX10_hostWrite 38 = .ok (.iload_n 1, 1) := by decide +kernel
theorem dX10_hostWrite_39 : decode cX10_hostWrite 39 = .ok (.iload_n 2, 1) := by decide +kernel
theorem dX10_hostWrite_40 : decode cX10_hostWrite 40 = .ok (.iload_n 3, 1) := by decide +kernel
theorem dX10_hostWrite_41 : decode cX10_hostWrite 41 = .ok (.invokevirtual 328, 3) := by decide +kernel
theorem dX10_hostWrite_44 : decode cX10_hostWrite 44 = .ok (.istore 5, 2) := by decide +kernel
theorem dX10_hostWrite_46 : decode cX10_hostWrite 46 = .ok (.aload_n 0, 1) := by decide +kernel
theorem dX10_hostWrite_47 : decode cX10_hostWrite 47 = .ok (.getfield 9, 3) := by decide +kernel
theorem dX10_hostWrite_50 : decode cX10_hostWrite 50 = .ok (.iload 5, 2) := by decide +kernel
theorem dX10_hostWrite_52 : decode cX10_hostWrite 52 = .ok (.iaload, 1) := by decide +kernel
theorem dX10_hostWrite_53 : decode cX10_hostWrite 53 = .ok (.istore 6, 2) := by decide +kernel
theorem dX10_hostWrite_55 : decode cX10_hostWrite 55 = .ok (.aload_n 0, 1) := by decide +kernel
theorem dX10_hostWrite_56 : decode cX10_hostWrite 56 = .ok (.getfield 9, 3) := by decide +kernel
theorem dX10_hostWrite_59 : decode cX10_hostWrite 59 = .ok (.iload 5, 2) := by decide +kernel
theorem dX10_hostWrite_61 : decode cX10_hostWrite 61 = .ok (.iload 4, 2) := by decide +kernel
theorem dX10_hostWrite_63 : decode cX10_hostWrite 63 = .ok (.iastore, 1) := by decide +kernel
theorem dX10_hostWrite_64 : decode cX10_hostWrite 64 = .ok (.aload_n 0, 1) := by decide +kernel
theorem dX10_hostWrite_65 : decode cX10_hostWrite 65 = .ok (.getfield 23, 3) := by decide +kernel
theorem dX10_hostWrite_68 : decode cX10_hostWrite 68 = .ok (.bipush 11, 2) := by decide +kernel
theorem dX10_hostWrite_70 : decode cX10_hostWrite 70 = .ok (.iaload, 1) := by decide +kernel
theorem dX10_hostWrite_71 : decode cX10_hostWrite 71 = .ok (.ifCond .le 23, 3) := by decide +kernel
theorem dX10_hostWrite_74 : decode cX10_hostWrite 74 = .ok (.aload_n 0, 1) := by decide +kernel
theorem dX10_hostWrite_75 : decode cX10_hostWrite 75 = .ok (.getfield 9, 3) := by decide +kernel
theorem dX10_hostWrite_78 : decode cX10_hostWrite 78 = .ok (.aload_n 0, 1) := by decide +kernel
theorem dX10_hostWrite_79 : decode cX10_hostWrite 79 = .ok (.getfield 9, 3) := by decide +kernel
theorem dX10_hostWrite_82 : decode cX10_hostWrite 82 = .ok (.sipush 1578, 3) := by decide +kernel
theorem dX10_hostWrite_85 : decode cX10_hostWrite 85 = .ok (.iaload, 1) := by decide +kernel
theorem dX10_hostWrite_86 : decode cX10_hostWrite 86 = .ok (.iconst 1, 1) := by decide +kernel
theorem dX10_hostWrite_87 : decode cX10_hostWrite 87 = .ok (.isub, 1) := by decide +kernel
theorem dX10_hostWrite_88 : decode cX10_hostWrite 88 = .ok (.iconst 2, 1) := by decide +kernel
theorem dX10_hostWrite_89 : decode cX10_hostWrite 89 = .ok (.invokestatic 310, 3) := by decide +kernel
theorem dX10_hostWrite_92 : decode cX10_hostWrite 92 = .ok (.iconst 1, 1) := by decide +kernel
theorem dX10_hostWrite_93 : decode cX10_hostWrite 93 = .ok (.iastore, 1) := by decide +kernel
theorem dX10_hostWrite_94 : decode cX10_hostWrite 94 = .ok (.iload 6, 2) := by decide +kernel
theorem dX10_hostWrite_96 : decode cX10_hostWrite 96 = .ok (.ireturn, 1) := by decide +kernel
theorem dX10_fill_0 : decode cX10_fill 0 = .ok (.aload_n 0, 1) := by decide +kernel
theorem dX10_fill_1 : decode cX10_fill 1 = .ok (.iconst 0, 1) := by decide +kernel
theorem dX10_fill_2 : decode cX10_fill 2 = .ok (.putfield 60, 3) := by decide +kernel
theorem dX10_fill_5 : decode cX10_fill 5 = .ok (.aload_n 0, 1) := by decide +kernel
theorem dX10_fill_6 : decode cX10_fill 6 = .ok (.aload_n 0, 1) := by decide +kernel
theorem dX10_fill_7 : decode cX10_fill 7 = .ok (.iload_n 1, 1) := by decide +kernel
theorem dX10_fill_8 : decode cX10_fill 8 = .ok (.iload_n 2, 1) := by decide +kernel
theorem dX10_fill_9 : decode cX10_fill 9 = .ok (.invokevirtual 241, 3) := by decide +kernel
theorem dX10_fill_12 : decode cX10_fill 12 = .ok (.iconst 1, 1) := by decide +kernel
theorem dX10_fill_13 : decode cX10_fill 13 = .ok (.invokevirtual 66, 3) := by decide +kernel
theorem dX10_fill_16 : decode cX10_fill 16 = .ok (.ifCond .ne 5, 3) := by decide +kernel
theorem dX10_fill_19 : decode cX10_fill 19 = .ok (.iconst 0, 1) := by decide +kernel
theorem dX10_fill_20 : decode cX10_fill 20 = .ok (.ireturn, 1) := by decide +kernel
theorem dX10_fill_21 : decode cX10_fill 21 = .ok (.iconst 0, 1) := by decide +kernel
theorem dX10_fill_22 : decode cX10_fill 22 = .ok (.istore 5, 2) := by decide +kernel
theorem dX10_fill_24 : decode cX10_fill 24 = .ok (.iload 5, 2) := by decide +kernel
theorem dX10_fill_26 : decode cX10_fill 26 = .ok (.aload_n 0, 1) := by decide +kernel
theorem dX10_fill_27 : decode cX10_fill 27 = .ok (.getfield 23, 3) := by decide +kernel
theorem dX10_fill_30 : decode cX10_fill 30 = .ok (.iconst 2, 1) := by decide +kernel
theorem dX10_fill_31 : decode cX10_fill 31 = .ok (.iaload, 1) := by decide +kernel
theorem dX10_fill_32 : decode cX10_fill 32 = .ok (.if_icmp .ge 28, 3) := by decide +kernel
theorem dX10_fill_35 : decode cX10_fill 35 = .ok (.aload_n 0, 1) := by decide +kernel
theorem dX10_fill_36 : decode cX10_fill 36 = .ok (.getfield 9, 3) := by decide +kernel
theorem dX10_fill_39 : decode cX10_fill 39 = .ok (.iload_n 1, 1) := by decide +kernel
theorem dX10_fill_40 : decode cX10_fill 40 = .ok (.iload_n 2, 1) := by decide +kernel
theorem dX10_fill_41 : decode cX10_fill 41 = .ok (.iload 5, 2) := by decide +kernel
theorem dX10_fill_43 : decode cX10_fill 43 = .ok (.invokestatic 247, 3) := by decide +kernel
theorem dX10_fill_46 : decode cX10_fill 46 = .ok (.iload_n 3, 1) := by decide +kernel
theorem dX10_fill_47 : decode cX10_fill 47 = .ok (.iload 5, 2) := by decide +kernel
theorem dX10_fill_49 : decode cX10_fill 49 = .ok (.iload 4, 2) := by decide +kernel
theorem dX10_fill_51 : decode cX10_fill 51 = .ok (.imul, 1) := by decide +kernel
theorem dX10_fill_52 : decode cX10_fill 52 = .ok (.iadd, 1) := by decide +kernel
theorem dX10_fill_53 : decode cX10_fill 53 = .ok (.iastore, 1) := by decide +kernel
theorem dX10_fill_54 : decode cX10_fill 54 = .ok (.iinc 5 1, 3) := by decide +kernel
theorem dX10_fill_57 : decode cX10_fill 57 = .ok (.goto (-33), 3) := by decide +kernel
theorem dX10_fill_60 : decode cX10_fill 60 = .ok (.aload_n 0, 1) := by decide +kernel
theorem dX10_fill_61 : decode cX10_fill 61 = .ok (.iload_n 1, 1) := by decide +kernel
theorem dX10_fill_62 : decode cX10_fill 62 = .ok (.iload_n 2, 1) := by decide +kernel
theorem dX10_fill_63 : decode cX10_fill 63 = .ok (.invokevirtual 313, 3) := by decide +kernel
theorem dX10_fill_66 : decode cX10_fill 66 = .ok (.istore 5, 2) := by decide +kernel
theorem dX10_fill_68 : decode cX10_fill 68 = .ok (.aload_n 0, 1) := by decide +kernel
theorem dX10_fill_69 : decode cX10_fill 69 = .ok (.getfield 9, 3) := by decide +kernel
theorem dX10_fill_72 : decode cX10_fill 72 = .ok (.sipush 1670, 3) := by decide +kernel
theorem dX10_fill_75 : decode cX10_fill 75 = .ok (.iaload, 1) := by decide +kernel
theorem dX10_fill_76 : decode cX10_fill 76 = .ok (.iconst 1, 1) := by decide +kernel
theorem dX10_fill_77 : decode cX10_fill 77 = .ok (.if_icmp .ne 15, 3) := by decide +kernel
theorem dX10_fill_80 : decode cX10_fill 80 = .ok (.iload 5, 2) := by decide +kernel
theorem dX10_fill_82 : decode cX10_fill 82 = .ok (.iconst (-1), 1) := by decide +kernel
theorem dX10_fill_83 : decode cX10_fill 83 = .ok (.if_icmp .eq 9, 3) := by decide +kernel
theorem dX10_fill_86 : decode cX10_fill 86 = .ok (.aload_n 0, 1) := by decide +kernel
theorem dX10_fill_87 : decode cX10_fill 87 = .ok (.iload 5, 2) := by decide +kernel
theorem dX10_fill_89 : decode cX10_fill 89 = .ok (.invokevirtual 319, 3) := by decide +kernel
theorem dX10_fill_92 : decode cX10_fill 92 = .ok (.aload_n 0, 1) := by decide +kernel
theorem dX10_fill_93 : decode cX10_fill 93 = .ok (.getfield 9, 3) := by decide +kernel
theorem dX10_fill_96 : decode cX10_fill 96 = .ok (.iload_n 1, 1) := by decide +kernel
theorem dX10_fill_97 : decode cX10_fill 97 = .ok (.iload_n 2, 1) := by decide +kernel
theorem dX10_fill_98 : decode cX10_fill 98 = .ok (.aload_n 0, 1) := by decide +kernel
theorem dX10_fill_99 : decode cX10_fill 99 = .ok (.getfield 23, 3) := by decide +kernel
theorem dX10_fill_102 : decode cX10_fill 102 = .ok (.iconst 2, 1) := by decide +kernel
theorem dX10_fill_103 : decode cX10_fill 103 = .ok (.iaload, 1) := by decide +kernel
theorem dX10_fill_104 : decode cX10_fill 104 = .ok (.iconst 1, 1) := by decide +kernel
theorem dX10_fill_105 : decode cX10_fill 105 = .ok (.isub, 1) := by decide +kernel
theorem dX10_fill_106 : decode cX10_fill 106 = .ok (.invokestatic 247, 3) := by decide +kernel
theorem dX10_fill_109 : decode cX10_fill 109 = .ok (.iaload, 1) := by decide +kernel
theorem dX10_fill_110 : decode cX10_fill 110 = .ok (.ireturn, 1) := by decide +kernel
theorem dX10_flush_0 : decode cX10_flush 0 = .ok (.aload_n 0, 1) := by decide +kernel
theorem dX10_flush_1 : decode cX10_flush 1 = .ok (.iconst 0, 1) := by decide +kernel
theorem dX10_flush_2 : decode cX10_flush 2 = .ok (.putfield 60, 3) := by decide +kernel
theorem dX10_flush_5 : decode cX10_flush 5 = .ok (.aload_n 0, 1) := by decide +kernel
theorem dX10_flush_6 : decode cX10_flush 6 = .ok (.aload_n 0, 1) := by decide +kernel
theorem dX10_flush_7 : decode cX10_flush 7 = .ok (.iload_n 1, 1) := by decide +kernel
theorem dX10_flush_8 : decode cX10_flush 8 = .ok (.iload_n 2, 1) := by decide +kernel
theorem dX10_flush_9 : decode cX10_flush 9 = .ok (.invokevirtual 241, 3) := by decide +kernel
theorem dX10_flush_12 : decode cX10_flush 12 = .ok (.iconst 1, 1) := by decide +kernel
theorem dX10_flush_13 : decode cX10_flush 13 = .ok (.invokevirtual 66, 3) := by decide +kernel
theorem dX10_flush_16 : decode cX10_flush 16 = .ok (.ifCond .ne 5, 3) := by decide +kernel
theorem dX10_flush_19 : decode cX10_flush 19 = .ok (.iconst 0, 1) := by decide +kernel
theorem dX10_flush_20 : decode cX10_flush 20 = .ok (.ireturn, 1) := by decide +kernel
theorem dX10_flush_21 : decode cX10_flush 21 = .ok (.aload_n 0, 1) := by decide +kernel
theorem dX10_flush_22 : decode cX10_flush 22 = .ok (.iload_n 1, 1) := by decide +kernel
theorem dX10_flush_23 : decode cX10_flush 23 = .ok (.iload_n 2, 1) := by decide +kernel
theorem dX10_flush_24 : decode cX10_flush 24 = .ok (.invokevirtual 313, 3) := by decide +kernel
theorem dX10_flush_27 : decode cX10_flush 27 = .ok (.istore_n 3, 1) := by decide +kernel
theorem dX10_flush_28 : decode cX10_flush 28 = .ok (.iload_n 3, 1) := by decide +kernel
theorem dX10_flush_29 : decode cX10_flush 29 = .ok (.iconst (-1), 1) := by decide +kernel
theorem dX10_flush_30 : decode cX10_flush 30 = .ok (.if_icmp .eq 15, 3) := by decide +kernel
theorem dX10_flush_33 : decode cX10_flush 33 = .ok (.aload_n 0, 1) := by decide +kernel
theorem dX10_flush_34 : decode cX10_flush 34 = .ok (.iload_n 3, 1) := by decide +kernel
theorem dX10_flush_35 : decode cX10_flush 35 = .ok (.invokevirtual 316, 3) := by decide +kernel
theorem dX10_flush_38 : decode cX10_flush 38 = .ok (.ifCond .eq 7, 3) := by decide +kernel
theorem dX10_flush_41 : decode cX10_flush 41 = .ok (.iconst 1, 1) := by decide +kernel
theorem dX10_flush_42 : decode cX10_flush 42 = .ok (.goto 4, 3) := by decide +kernel
theorem dX10_flush_45 : decode cX10_flush 45 = .ok (.iconst 0, 1) := by decide +kernel
theorem dX10_flush_46 : decode cX10_flush 46 = .ok (.ireturn, 1) := by decide +kernel
theorem dX10_flushAll_0 : decode cX10_flushAll 0 = .ok (.aload_n 0, 1) := by decide +kernel
theorem dX10_flushAll_1 : decode cX10_flushAll 1 = .ok (.iconst 0, 1) := by decide +kernel
theorem dX10_flushAll_2 : decode cX10_flushAll 2 = .ok (.putfield 60, 3) := by decide +kernel
theorem dX10_flushAll_5 : decode cX10_flushAll 5 = .ok (.iconst 0, 1) := by decide +kernel
theorem dX10_flushAll_6 : decode cX10_flushAll 6 = .ok (.istore_n 1, 1) := by decide +kernel
theorem dX10_flushAll_7 : decode cX10_flushAll 7 = .ok (.iconst 0, 1) := by decide +kernel
theorem dX10_flushAll_8 : decode cX10_flushAll 8 = .ok (.istore_n 2, 1) := by decide +kernel
theorem dX10_flushAll_9 : decode cX10_flushAll 9 = .ok (.iload_n 2, 1) := by decide +kernel
theorem dX10_flushAll_10 : decode cX10_flushAll 10 = .ok (.aload_n 0, 1) := by decide +kernel
theorem dX10_flushAll_11 : decode cX10_flushAll 11 = .ok (.getfield 9, 3) := by decide +kernel
theorem dX10_flushAll_14 : decode cX10_flushAll 14 = .ok (.sipush 1578, 3) := by decide +kernel
theorem dX10_flushAll_17 : decode cX10_flushAll 17 = .ok (.iaload, 1) := by decide +kernel
theorem dX10_flushAll_18 : decode cX10_flushAll 18 = .ok (.if_icmp .ge 25, 3) := by decide +kernel
theorem dX10_flushAll_21 : decode cX10_flushAll 21 = .ok (.iload_n 1, 1) := by decide +kernel
theorem dX10_flushAll_22 : decode cX10_flushAll 22 = .ok (.aload_n 0, 1) := by decide +kernel
theorem dX10_flushAll_23 : decode cX10_flushAll 23 = .ok (.iload_n 2, 1) := by decide +kernel
theorem dX10_flushAll_24 : decode cX10_flushAll 24 = .ok (.invokevirtual 316, 3) := by decide +kernel
theorem dX10_flushAll_27 : decode cX10_flushAll 27 = .ok (.ifCond .eq 7, 3) := by decide +kernel
theorem dX10_flushAll_30 : decode cX10_flushAll 30 = .ok (.iconst 1, 1) := by decide +kernel
theorem dX10_flushAll_31 : decode cX10_flushAll 31 = .ok (.goto 4, 3) := by decide +kernel
theorem dX10_flushAll_34 : decode cX10_flushAll 34 = .ok (.iconst 0, 1) := by decide +kernel
theorem dX10_flushAll_35 : decode cX10_flushAll 35 = .ok (.iadd, 1) := by decide +kernel
theorem dX10_flushAll_36 : decode cX10_flushAll 36 = .ok (.istore_n 1, 1) := by decide +kernel
theorem dX10_flushAll_37 : decode cX10_flushAll 37 = .ok (.iinc 2 1, 3) := by decide +kernel
theorem dX10_flushAll_40 : decode cX10_flushAll 40 = .ok (.goto (-31), 3) := by decide +kernel
theorem dX10_flushAll_43 : decode cX10_flushAll 43 = .ok (.iload_n 1, 1) := by decide +kernel
theorem dX10_flushAll_44 : decode cX10_flushAll 44 = .ok (.ireturn, 1) := by decide +kernel
theorem dX10_invalidate_0 : decode cX10_invalidate 0 = .ok (.aload_n 0, 1) := by decide +kernel
theorem dX10_invalidate_1 : decode cX10_invalidate 1 = .ok (.iconst 0, 1) := by decide +kernel
theorem dX10_invalidate_2 : decode cX10_invalidate 2 = .ok (.putfield 60, 3) := by decide +kernel
theorem dX10_invalidate_5 : decode cX10_invalidate 5 = .ok (.aload_n 0, 1) := by decide +kernel
theorem dX10_invalidate_6 : decode cX10_invalidate 6 = .ok (.aload_n 0, 1) := by decide +kernel
theorem dX10_invalidate_7 : decode cX10_invalidate 7 = .ok (.iload_n 1, 1) := by decide +kernel
theorem dX10_invalidate_8 : decode cX10_invalidate 8 = .ok (.iload_n 2, 1) := by decide +kernel
theorem dX10_invalidate_9 : decode cX10_invalidate 9 = .ok (.invokevirtual 241, 3) := by decide +kernel
theorem dX10_invalidate_12 : decode cX10_invalidate 12 = .ok (.iconst 1, 1) := by decide +kernel
theorem dX10_invalidate_13 : decode cX10_invalidate 13 = .ok (.invokevirtual 66, 3) := by decide +kernel
theorem dX10_invalidate_16 : decode cX10_invalidate 16 = .ok (.ifCond .ne 5, 3) := by decide +kernel
theorem dX10_invalidate_19 : decode cX10_invalidate 19 = .ok (.iconst 0, 1) := by decide +kernel
theorem dX10_invalidate_20 : decode cX10_invalidate 20 = .ok (.ireturn, 1) := by decide +kernel
theorem dX10_invalidate_21 : decode cX10_invalidate 21 = .ok (.aload_n 0, 1) := by decide +kernel
theorem dX10_invalidate_22 : decode cX10_invalidate 22 = .ok (.iload_n 1, 1) := by decide +kernel
theorem dX10_invalidate_23 : decode cX10_invalidate 23 = .ok (.iload_n 2, 1) := by decide +kernel
theorem dX10_invalidate_24 : decode cX10_invalidate 24 = .ok (.invokevirtual 313, 3) := by decide +kernel
theorem dX10_invalidate_27 : decode cX10_invalidate 27 = .ok (.istore_n 3, 1) := by decide +kernel
theorem dX10_invalidate_28 : decode cX10_invalidate 28 = .ok (.iload_n 3, 1) := by decide +kernel
theorem dX10_invalidate_29 : decode cX10_invalidate 29 = .ok (.iconst (-1), 1) := by decide +kernel
theorem dX10_invalidate_30 : decode cX10_invalidate 30 = .ok (.if_icmp .eq 8, 3) := by decide +kernel
theorem dX10_invalidate_33 : decode cX10_invalidate 33 = .ok (.aload_n 0, 1) := by decide +kernel
theorem dX10_invalidate_34 : decode cX10_invalidate 34 = .ok (.iload_n 3, 1) := by decide +kernel
theorem dX10_invalidate_35 : decode cX10_invalidate 35 = .ok (.invokevirtual 319, 3) := by decide +kernel
theorem dX10_invalidate_38 : decode cX10_invalidate 38 = .ok (.iload_n 3, 1) := by decide +kernel
theorem dX10_invalidate_39 : decode cX10_invalidate 39 = .ok (.iconst (-1), 1) := by decide +kernel
theorem dX10_invalidate_40 : decode cX10_invalidate 40 = .ok (.if_icmp .eq 7, 3) := by decide +kernel
theorem dX10_invalidate_43 : decode cX10_invalidate 43 = .ok (.iconst 1, 1) := by decide +kernel
theorem dX10_invalidate_44 : decode cX10_invalidate 44 = .ok (.goto 4, 3) := by decide +kernel
theorem dX10_invalidate_47 : decode cX10_invalidate 47 = .ok (.iconst 0, 1) := by decide +kernel
theorem dX10_invalidate_48 : decode cX10_invalidate 48 = .ok (.ireturn, 1) := by decide +kernel
theorem dX10_differs_0 : decode cX10_differs 0 = .ok (.iconst 0, 1) := by decide +kernel
theorem dX10_differs_1 : decode cX10_differs 1 = .ok (.istore_n 2, 1) := by decide +kernel
theorem dX10_differs_2 : decode cX10_differs 2 = .ok (.iload_n 2, 1) := by decide +kernel
theorem dX10_differs_3 : decode cX10_differs 3 = .ok (.aload_n 0, 1) := by decide +kernel
theorem dX10_differs_4 : decode cX10_differs 4 = .ok (.getfield 23, 3) := by decide +kernel
theorem dX10_differs_7 : decode cX10_differs 7 = .ok (.iconst 2, 1) := by decide +kernel
theorem dX10_differs_8 : decode cX10_differs 8 = .ok (.iaload, 1) := by decide +kernel
theorem dX10_differs_9 : decode cX10_differs 9 = .ok (.if_icmp .ge 55, 3) := by decide +kernel
theorem dX10_differs_12 : decode cX10_differs 12 = .ok (.aload_n 0, 1) := by decide +kernel
theorem dX10_differs_13 : decode cX10_differs 13 = .ok (.getfield 9, 3) := by decide +kernel
theorem dX10_differs_16 : decode cX10_differs 16 = .ok (.iload_n 1, 1) := by decide +kernel
theorem dX10_differs_17 : decode cX10_differs 17 = .ok (.iconst 3, 1) := by decide +kernel
theorem dX10_differs_18 : decode cX10_differs 18 = .ok (.iload_n 2, 1) := by decide +kernel
theorem dX10_differs_19 : decode cX10_differs 19 = .ok (.iadd, 1) := by decide +kernel
theorem dX10_differs_20 : decode cX10_differs 20 = .ok (.invokestatic 310, 3) := by decide +kernel
theorem dX10_differs_23 : decode cX10_differs 23 = .ok (.iaload, 1) := by decide +kernel
theorem dX10_differs_24 : decode cX10_differs 24 = .ok (.aload_n 0, 1) := by decide +kernel
theorem dX10_differs_25 : decode cX10_differs 25 = .ok (.getfield 9, 3) := by decide +kernel
theorem dX10_differs_28 : decode cX10_differs 28 = .ok (.aload_n 0, 1) := by decide +kernel
theorem dX10_differs_29 : decode cX10_differs 29 = .ok (.getfield 9, 3) := by decide +kernel
theorem dX10_differs_32 : decode cX10_differs 32 = .ok (.iload_n 1, 1) := by decide +kernel
theorem dX10_differs_33 : decode cX10_differs 33 = .ok (.iconst 0, 1) := by decide +kernel
theorem dX10_differs_34 : decode cX10_differs 34 = .ok (.invokestatic 310, 3) := by decide +kernel
theorem dX10_differs_37 : decode cX10_differs 37 = .ok (.iaload, 1) := by decide +kernel
theorem dX10_differs_38 : decode cX10_differs 38 = .ok (.aload_n 0, 1) := by decide +kernel
theorem dX10_differs_39 : decode cX10_differs 39 = .ok (.getfield 9, 3) := by decide +kernel
theorem dX10_differs_42 : decode cX10_differs 42 = .ok (.iload_n 1, 1) := by decide +kernel
theorem dX10_differs_43 : decode cX10_differs 43 = .ok (.iconst 1, 1) := by decide +kernel
theorem dX10_differs_44 : decode cX10_differs 44 = .ok (.invokestatic 310, 3) := by decide +kernel
theorem dX10_differs_47 : decode cX10_differs 47 = .ok (.iaload, 1) := by decide +kernel
theorem dX10_differs_48 : decode cX10_differs 48 = .ok (.iload_n 2, 1) := by decide +kernel
theorem dX10_differs_49 : decode cX10_differs 49 = .ok (.invokestatic 247, 3) := by decide +kernel
theorem dX10_differs_52 : decode cX10_differs 52 = .ok (.iaload, 1) := by decide +kernel
theorem dX10_differs_53 : decode cX10_differs 53 = .ok (.if_icmp .eq 5, 3) := by decide +kernel
theorem dX10_differs_56 : decode cX10_differs 56 = .ok (.iconst 1, 1) := by decide +kernel
theorem dX10_differs_57 : decode cX10_differs 57 = .ok (.ireturn, 1) := by decide +kernel
theorem dX10_differs_58 : decode cX10_differs 58 = .ok (.iinc 2 1, 3) := by decide +kernel
theorem dX10_differs_61 : decode cX10_differs 61 = .ok (.goto (-59), 3) := by decide +kernel
theorem dX10_differs_64 : decode cX10_differs 64 = .ok (.iconst 0, 1) := by decide +kernel
theorem dX10_differs_65 : decode cX10_differs 65 = .ok (.ireturn, 1) := by decide +kernel
theorem dX10_line_0 : decode cX10_line 0 = .ok (.aload_n 0, 1) := by decide +kernel
theorem dX10_line_1 : decode cX10_line 1 = .ok (.iconst 0, 1) := by decide +kernel
theorem dX10_line_2 : decode cX10_line 2 = .ok (.putfield 60, 3) := by decide +kernel
theorem dX10_line_5 : decode cX10_line 5 = .ok (.aload_n 0, 1) := by decide +kernel
theorem dX10_line_6 : decode cX10_line 6 = .ok (.aload_n 0, 1) := by decide +kernel
theorem dX10_line_7 : decode cX10_line 7 = .ok (.iload_n 1, 1) := by decide +kernel
theorem dX10_line_8 : decode cX10_line 8 = .ok (.iload_n 2, 1) := by decide +kernel
theorem dX10_line_9 : decode cX10_line 9 = .ok (.invokevirtual 241, 3) := by decide +kernel
theorem dX10_line_12 : decode cX10_line 12 = .ok (.iconst 1, 1) := by decide +kernel
theorem dX10_line_13 : decode cX10_line 13 = .ok (.invokevirtual 66, 3) := by decide +kernel
theorem dX10_line_16 : decode cX10_line 16 = .ok (.ifCond .ne 5, 3) := by decide +kernel
theorem dX10_line_19 : decode cX10_line 19 = .ok (.iconst 0, 1) := by decide +kernel
theorem dX10_line_20 : decode cX10_line 20 = .ok (.ireturn, 1) := by decide +kernel
theorem dX10_line_21 : decode cX10_line 21 = .ok (.aload_n 0, 1) := by decide +kernel
theorem dX10_line_22 : decode cX10_line 22 = .ok (.iload_n 1, 1) := by decide +kernel
theorem dX10_line_23 : decode cX10_line 23 = .ok (.iload_n 2, 1) := by decide +kernel
theorem dX10_line_24 : decode cX10_line 24 = .ok (.invokevirtual 313, 3) := by decide +kernel
theorem dX10_line_27 : decode cX10_line 27 = .ok (.istore_n 3, 1) := by decide +kernel
theorem dX10_line_28 : decode cX10_line 28 = .ok (.iload_n 3, 1) := by decide +kernel
theorem dX10_line_29 : decode cX10_line 29 = .ok (.iconst (-1), 1) := by decide +kernel
theorem dX10_line_30 : decode cX10_line 30 = .ok (.if_icmp .ne 7, 3) := by decide +kernel
theorem dX10_line_33 : decode cX10_line 33 = .ok (.iconst 0, 1) := by decide +kernel
theorem dX10_line_34 : decode cX10_line 34 = .ok (.goto 29, 3) := by decide +kernel
theorem dX10_line_37 : decode cX10_line 37 = .ok (.iconst 1, 1) := by decide +kernel
theorem dX10_line_38 : decode cX10_line 38 = .ok (.aload_n 0, 1) := by decide +kernel
theorem dX10_line_39 : decode cX10_line 39 = .ok (.getfield 9, 3) := by decide +kernel
theorem dX10_line_42 : decode cX10_line 42 = .ok (.iload_n 3, 1) := by decide +kernel
theorem dX10_line_43 : decode cX10_line 43 = .ok (.iconst 2, 1) := by decide +kernel
theorem dX10_line_44 : decode cX10_line 44 = .ok (.invokestatic 310, 3) := by decide +kernel
theorem dX10_line_47 : decode cX10_line 47 = .ok (.iaload, 1) := by decide +kernel
theorem dX10_line_48 : decode cX10_line 48 = .ok (.iadd, 1) := by decide +kernel
theorem dX10_line_49 : decode cX10_line 49 = .ok (.aload_n 0, 1) := by decide +kernel
theorem dX10_line_50 : decode cX10_line 50 = .ok (.iload_n 3, 1) := by decide +kernel
theorem dX10_line_51 : decode cX10_line 51 = .ok (.invokevirtual 331, 3) := by decide +kernel
theorem dX10_line_54 : decode cX10_line 54 = .ok (.ifCond .eq 7, 3) := by decide +kernel
theorem dX10_line_57 : decode cX10_line 57 = .ok (.iconst 4, 1) := by decide +kernel
theorem dX10_line_58 : decode cX10_line 58 = .ok (.goto 4, 3) := by decide +kernel
theorem dX10_line_61 : decode cX10_line 61 = .ok (.iconst 0, 1) := by decide +kernel
theorem dX10_line_62 : decode cX10_line 62 = .ok (.iadd, 1) := by decide +kernel
theorem dX10_line_63 : decode cX10_line 63 = .ok (.ireturn, 1) := by decide +kernel
theorem dX10_cache_0 : decode cX10_cache 0 = .ok (.aload_n 0, 1) := by decide +kernel
theorem dX10_cache_1 : decode cX10_cache 1 = .ok (.iconst 0, 1) := by decide +kernel
theorem dX10_cache_2 : decode cX10_cache 2 = .ok (.putfield 60, 3) := by decide +kernel
theorem dX10_cache_5 : decode cX10_cache 5 = .ok (.aload_n 0, 1) := by decide +kernel
theorem dX10_cache_6 : decode cX10_cache 6 = .ok (.iload_n 1, 1) := by decide +kernel
theorem dX10_cache_7 : decode cX10_cache 7 = .ok (.iconst 0, 1) := by decide +kernel
theorem dX10_cache_8 : decode cX10_cache 8 = .ok (.iconst 2, 1) := by decide +kernel
theorem dX10_cache_9 : decode cX10_cache 9 = .ok (.invokestatic 70, 3) := by decide +kernel
theorem dX10_cache_12 : decode cX10_cache 12 = .ok (.iconst 1, 1) := by decide +kernel
theorem dX10_cache_13 : decode cX10_cache 13 = .ok (.invokevirtual 66, 3) := by decide +kernel
theorem dX10_cache_16 : decode cX10_cache 16 = .ok (.ifCond .eq 16, 3) := by decide +kernel
theorem dX10_cache_19 : decode cX10_cache 19 = .ok (.aload_n 0, 1) := by decide +kernel
theorem dX10_cache_20 : decode cX10_cache 20 = .ok (.getfield 9, 3) := by decide +kernel
theorem dX10_cache_23 : decode cX10_cache 23 = .ok (.sipush 1667, 3) := by decide +kernel
theorem dX10_cache_26 : decode cX10_cache 26 = .ok (.iload_n 1, 1) := by decide +kernel
theorem dX10_cache_27 : decode cX10_cache 27 = .ok (.iadd, 1) := by decide +kernel
theorem dX10_cache_28 : decode cX10_cache 28 = .ok (.iaload, 1) := by decide +kernel
theorem dX10_cache_29 : decode cX10_cache 29 = .ok (.goto 4, 3) := by decide +kernel
theorem dX10_cache_32 : decode cX10_cache 32 = .ok (.iconst 0, 1) := by decide +kernel
theorem dX10_cache_33 : decode cX10_cache 33 = .ok (.ireturn, 1) := by decide +kernel
theorem dX10_setCoherence_0 : decode cX10_setCoherence 0 = .ok (.aload_n 0, 1) := by decide +kernel
theorem dX10_setCoherence_1 : decode cX10_setCoherence 1 = .ok (.iconst 0, 1) := by decide +kernel
theorem dX10_setCoherence_2 : decode cX10_setCoherence 2 = .ok (.putfield 60, 3) := by decide +kernel
theorem dX10_setCoherence_5 : decode cX10_setCoherence 5 = .ok (.aload_n 0, 1) := by decide +kernel
theorem dX10_setCoherence_6 : decode cX10_setCoherence 6 = .ok (.getfield 9, 3) := by decide +kernel
theorem dX10_setCoherence_9 : decode cX10_setCoherence 9 = .ok (.sipush 1670, 3) := by decide +kernel
theorem dX10_setCoherence_12 : decode cX10_setCoherence 12 = .ok (.iaload, 1) := by decide +kernel
theorem dX10_setCoherence_13 : decode cX10_setCoherence 13 = .ok (.iconst 1, 1) := by decide +kernel
theorem dX10_setCoherence_14 : decode cX10_setCoherence 14 = .ok (.if_icmp .ne 7, 3) := by decide +kernel
theorem dX10_setCoherence_17 : decode cX10_setCoherence 17 = .ok (.iconst 1, 1) := by decide +kernel
theorem dX10_setCoherence_18 : decode cX10_setCoherence 18 = .ok (.goto 4, 3) := by decide +kernel
theorem dX10_setCoherence_21 : decode cX10_setCoherence 21 = .ok (.iconst 0, 1) := by decide +kernel
theorem dX10_setCoherence_22 : decode cX10_setCoherence 22 = .ok (.istore_n 2, 1) := by decide +kernel
theorem dX10_setCoherence_23 : decode cX10_setCoherence 23 = .ok (.aload_n 0, 1) := by decide +kernel
theorem dX10_setCoherence_24 : decode cX10_setCoherence 24 = .ok (.getfield 9, 3) := by decide +kernel
theorem dX10_setCoherence_27 : decode cX10_setCoherence 27 = .ok (.sipush 1670, 3) := by decide +kernel
theorem dX10_setCoherence_30 : decode cX10_setCoherence 30 = .ok (.iload_n 1, 1) := by decide +kernel
theorem dX10_setCoherence_31 : decode cX10_setCoherence 31 = .ok (.ifCond .eq 7, 3) := by decide +kernel
theorem dX10_setCoherence_34 : decode cX10_setCoherence 34 = .ok (.iconst 1, 1) := by decide +kernel
theorem dX10_setCoherence_35 : decode cX10_setCoherence 35 = .ok (.goto 4, 3) := by decide +kernel
theorem dX10_setCoherence_38 : decode cX10_setCoherence 38 = .ok (.iconst 0, 1) := by decide +kernel
theorem dX10_setCoherence_39 : decode cX10_setCoherence 39 = .ok (.iastore, 1) := by decide +kernel
theorem dX10_setCoherence_40 : decode cX10_setCoherence 40 = .ok (.iload_n 2, 1) := by decide +kernel
theorem dX10_setCoherence_41 : decode cX10_setCoherence 41 = .ok (.ireturn, 1) := by decide +kernel
theorem dX10_submit_0 : decode cX10_submit 0 = .ok (.aload_n 0, 1) := by decide +kernel
theorem dX10_submit_1 : decode cX10_submit 1 = .ok (.iconst 0, 1) := by decide +kernel
theorem dX10_submit_2 : decode cX10_submit 2 = .ok (.putfield 60, 3) := by decide +kernel
theorem dX10_submit_5 : decode cX10_submit 5 = .ok (.aload_n 0, 1) := by decide +kernel
theorem dX10_submit_6 : decode cX10_submit 6 = .ok (.aload_n 0, 1) := by decide +kernel
theorem dX10_submit_7 : decode cX10_submit 7 = .ok (.iload_n 1, 1) := by decide +kernel
theorem dX10_submit_8 : decode cX10_submit 8 = .ok (.invokevirtual 235, 3) := by decide +kernel
theorem dX10_submit_11 : decode cX10_submit 11 = .ok (.iconst 1, 1) := by decide +kernel
theorem dX10_submit_12 : decode cX10_submit 12 = .ok (.invokevirtual 66, 3) := by decide +kernel
theorem dX10_submit_15 : decode cX10_submit 15 = .ok (.ifCond .eq 29, 3) := by decide +kernel
theorem dX10_submit_18 : decode cX10_submit 18 = .ok (.aload_n 0, 1) := by decide +kernel
theorem dX10_submit_19 : decode cX10_submit 19 = .ok (.aload_n 0, 1) := by decide +kernel
theorem dX10_submit_20 : decode cX10_submit 20 = .ok (.getfield 9, 3) := by decide +kernel
theorem dX10_submit_23 : decode cX10_submit 23 = .ok (.sipush 1440, 3) := by decide +kernel
theorem dX10_submit_26 : decode cX10_submit 26 = .ok (.iaload, 1) := by decide +kernel
theorem dX10_submit_27 : decode cX10_submit 27 = .ok (.bipush 16, 2) := by decide +kernel
theorem dX10_submit_29 : decode cX10_submit 29 = .ok (.if_icmp .ge 7, 3) := by decide +kernel
theorem dX10_submit_32 : decode cX10_submit 32 = .ok (.iconst 1, 1) := by decide +kernel
theorem dX10_submit_33 : decode cX10_submit 33 = .ok (.goto 4, 3) := by decide +kernel
theorem dX10_submit_36 : decode cX10_submit 36 = .ok (.iconst 0, 1) := by decide +kernel
theorem dX10_submit_37 : decode cX10_submit 37 = .ok (.iconst 2, 1) := by decide +kernel
theorem dX10_submit_38 : decode cX10_submit 38 = .ok (.invokevirtual 66, 3) := by decide +kernel
theorem dX10_submit_41 : decode cX10_submit 41 = .ok (.ifCond .ne 5, 3) := by decide +kernel
theorem dX10_submit_44 : decode cX10_submit 44 = .ok (.iconst 0, 1) := by decide +kernel
theorem dX10_submit_45 : decode cX10_submit 45 = .ok (.ireturn, 1) := by decide +kernel
theorem dX10_submit_46 : decode cX10_submit 46 = .ok (.aload_n 0, 1) := by decide +kernel
theorem dX10_submit_47 : decode cX10_submit 47 = .ok (.getfield 9, 3) := by decide +kernel
theorem dX10_submit_50 : decode cX10_submit 50 = .ok (.sipush 1441, 3) := by decide +kernel
theorem dX10_submit_53 : decode cX10_submit 53 = .ok (.aload_n 0, 1) := by decide +kernel
theorem dX10_submit_54 : decode cX10_submit 54 = .ok (.getfield 9, 3) := by decide +kernel
theorem dX10_submit_57 : decode cX10_submit 57 = .ok (.sipush 1440, 3) := by decide +kernel
theorem dX10_submit_60 : decode cX10_submit 60 = .ok (.iaload, 1) := by decide +kernel
theorem dX10_submit_61 : decode cX10_submit 61 = .ok (.iadd, 1) := by decide +kernel
theorem dX10_submit_62 : decode cX10_submit 62 = .ok (.iload_n 1, 1) := by decide +kernel
theorem dX10_submit_63 : decode cX10_submit 63 = .ok (.iastore, 1) := by decide +kernel
theorem dX10_submit_64 : decode cX10_submit 64 = .ok (.aload_n 0, 1) := by decide +kernel
theorem dX10_submit_65 : decode cX10_submit 65 = .ok (.getfield 9, 3) := by decide +kernel
theorem dX10_submit_68 : decode cX10_submit 68 = .ok (.sipush 1440, 3) := by decide +kernel
theorem dX10_submit_71 : decode cX10_submit 71 = .ok (.dup2, 1) := by decide +kernel
theorem dX10_submit_72 : decode cX10_submit 72 = .ok (.iaload, 1) := by decide +kernel
theorem dX10_submit_73 : decode cX10_submit 73 = .ok (.iconst 1, 1) := by decide +kernel
theorem dX10_submit_74 : decode cX10_submit 74 = .ok (.iadd, 1) := by decide +kernel
theorem dX10_submit_75 : decode cX10_submit 75 = .ok (.iastore, 1) := by decide +kernel
theorem dX10_submit_76 : decode cX10_submit 76 = .ok (.aload_n 0, 1) := by decide +kernel
theorem dX10_submit_77 : decode cX10_submit 77 = .ok (.getfield 9, 3) := by decide +kernel
theorem dX10_submit_80 : decode cX10_submit 80 = .ok (.sipush 1440, 3) := by decide +kernel
theorem dX10_submit_83 : decode cX10_submit 83 = .ok (.iaload, 1) := by decide +kernel
theorem dX10_submit_84 : decode cX10_submit 84 = .ok (.ireturn, 1) := by decide +kernel
theorem dX10_queued_0 : decode cX10_queued 0 = .ok (.aload_n 0, 1) := by decide +kernel
theorem dX10_queued_1 : decode cX10_queued 1 = .ok (.iconst 0, 1) := by decide +kernel
theorem dX10_queued_2 : decode cX10_queued 2 = .ok (.putfield 60, 3) := by decide +kernel
theorem dX10_queued_5 : decode cX10_queued 5 = .ok (.aload_n 0, 1) := by decide +kernel
theorem dX10_queued_6 : decode cX10_queued 6 = .ok (.iload_n 1, 1) := by decide +kernel
theorem dX10_queued_7 : decode cX10_queued 7 = .ok (.iconst 0, 1) := by decide +kernel
theorem dX10_queued_8 : decode cX10_queued 8 = .ok (.aload_n 0, 1) := by decide +kernel
theorem dX10_queued_9 : decode cX10_queued 9 = .ok (.getfield 9, 3) := by decide +kernel
theorem dX10_queued_12 : decode cX10_queued 12 = .ok (.sipush 1440, 3) := by decide +kernel
theorem dX10_queued_15 : decode cX10_queued 15 = .ok (.iaload, 1) := by decide +kernel
theorem dX10_queued_16 : decode cX10_queued 16 = .ok (.iconst 1, 1) := by decide +kernel
theorem dX10_queued_17 : decode cX10_queued 17 = .ok (.isub, 1) := by decide +kernel
theorem dX10_queued_18 : decode cX10_queued 18 = .ok (.invokestatic 70, 3) := by decide +kernel
theorem dX10_queued_21 : decode cX10_queued 21 = .ok (.iconst 1, 1) := by decide +kernel
theorem dX10_queued_22 : decode cX10_queued 22 = .ok (.invokevirtual 66, 3) := by decide +kernel
theorem dX10_queued_25 : decode cX10_queued 25 = .ok (.ifCond .eq 16, 3) := by decide +kernel
theorem dX10_queued_28 : decode cX10_queued 28 = .ok (.aload_n 0, 1) := by decide +kernel
theorem dX10_queued_29 : decode cX10_queued 29 = .ok (.getfield 9, 3) := by decide +kernel
theorem dX10_queued_32 : decode cX10_queued 32 = .ok (.sipush 1441, 3) := by decide +kernel
theorem dX10_queued_35 : decode cX10_queued 35 = .ok (.iload_n 1, 1) := by decide +kernel
theorem dX10_queued_36 : decode cX10_queued 36 = .ok (.iadd, 1) := by decide +kernel
theorem dX10_queued_37 : decode cX10_queued 37 = .ok (.iaload, 1) := by decide +kernel
theorem dX10_queued_38 : decode cX10_queued 38 = .ok (.goto 4, 3) := by decide +kernel
theorem dX10_queued_41 : decode cX10_queued 41 = .ok (.iconst 0, 1) := by decide +kernel
theorem dX10_queued_42 : decode cX10_queued 42 = .ok (.ireturn, 1) := by decide +kernel
theorem dX10_meetsLines_0 : decode cX10_meetsLines 0 = .ok (.aload_n 0, 1) := by decide +kernel
theorem dX10_meetsLines_1 : decode cX10_meetsLines 1 = .ok (.iload_n 1, 1) := by decide +kernel
theorem dX10_meetsLines_2 : decode cX10_meetsLines 2 = .ok (.invokevirtual 230, 3) := by decide +kernel
theorem dX10_meetsLines_5 : decode cX10_meetsLines 5 = .ok (.istore_n 3, 1) := by decide +kernel
theorem dX10_meetsLines_6 : decode cX10_meetsLines 6 = .ok (.iload_n 3, 1) := by decide +kernel
theorem dX10_meetsLines_7 : decode cX10_meetsLines 7 = .ok (.aload_n 0, 1) := by decide +kernel
theorem dX10_meetsLines_8 : decode cX10_meetsLines 8 = .ok (.iload_n 1, 1) := by decide +kernel
theorem dX10_meetsLines_9 : decode cX10_meetsLines 9 = .ok (.invokevirtual 266, 3) := by decide +kernel
theorem dX10_meetsLines_12 : decode cX10_meetsLines 12 = .ok (.if_icmp .ge 112, 3) := by decide +kernel
theorem dX10_meetsLines_15 : decode cX10_meetsLines 15 = .ok (.aload_n 0, 1) := by decide +kernel
theorem dX10_meetsLines_16 : decode cX10_meetsLines 16 = .ok (.iload_n 3, 1) := by decide +kernel
theorem dX10_meetsLines_17 : decode cX10_meetsLines 17 = .ok (.invokevirtual 254, 3) := by decide +kernel
theorem dX10_meetsLines_20 : decode cX10_meetsLines 20 = .ok (.iconst 1, 1) := by decide +kernel
theorem dX10_meetsLines_21 : decode cX10_meetsLines 21 = .ok (.if_icmp .eq 18, 3) := by decide +kernel
theorem dX10_meetsLines_24 : decode cX10_meetsLines 24 = .ok (.aload_n 0, 1) := by decide +kernel
theorem dX10_meetsLines_25 : decode cX10_meetsLines 25 = .ok (.iload_n 3, 1) := by decide +kernel
theorem dX10_meetsLines_26 : decode cX10_meetsLines 26 = .ok (.invokevirtual 254, 3) := by decide +kernel
theorem dX10_meetsLines_29 : decode cX10_meetsLines 29 = .ok (.ifCond .ne 89, 3) := by decide +kernel
theorem dX10_meetsLines_32 : decode cX10_meetsLines 32 = .ok (.iload_n 2, 1) := by decide +kernel
theorem dX10_meetsLines_33 : decode cX10_meetsLines 33 = .ok (.ifCond .eq 6, 3) := by decide +kernel
theorem dX10_meetsLines_36 : decode cX10_meetsLines 36 = .ok (.goto 82, 3) := by decide +kernel
theorem dX10_meetsLines_39 : decode cX10_meetsLines 39 = .ok (.iconst 0, 1) := by decide +kernel
theorem dX10_meetsLines_40 : decode cX10_meetsLines 40 = .ok (.istore 4, 2) := by decide +kernel
theorem dX10_meetsLines_42 : decode cX10_meetsLines 42 = .ok (.iload 4, 2) := by decide +kernel
theorem dX10_meetsLines_44 : decode cX10_meetsLines 44 = .ok (.aload_n 0, 1) := by decide +kernel
theorem dX10_meetsLines_45 : decode cX10_meetsLines 45 = .ok (.getfield 23, 3) := by decide +kernel
theorem dX10_meetsLines_48 : decode cX10_meetsLines 48 = .ok (.iconst 0, 1) := by decide +kernel
theorem dX10_meetsLines_49 : decode cX10_meetsLines 49 = .ok (.iaload, 1) := by decide +kernel
theorem dX10_meetsLines_50 : decode cX10_meetsLines 50 = .ok (.if_icmp .ge 68, 3) := by decide +kernel
theorem dX10_meetsLines_53 : decode cX10_meetsLines 53 = .ok (.aload_n 0, 1) := by decide +kernel
theorem dX10_meetsLines_54 : decode cX10_meetsLines 54 = .ok (.iload_n 1, 1) := by decide +kernel
theorem dX10_meetsLines_55 : decode cX10_meetsLines 55 = .ok (.invokevirtual 238, 3) := by decide +kernel
theorem dX10_meetsLines_58 : decode cX10_meetsLines 58 = .ok (.iload 4, 2) := by decide +kernel
theorem dX10_meetsLines_60 : decode cX10_meetsLines 60 = .ok (.invokestatic 169, 3) := by decide +kernel
theorem dX10_meetsLines_63 : decode cX10_meetsLines 63 = .ok (.ifCond .eq 18, 3) := by decide +kernel
theorem dX10_meetsLines_66 : decode cX10_meetsLines 66 = .ok (.aload_n 0, 1) := by decide +kernel
theorem dX10_meetsLines_67 : decode cX10_meetsLines 67 = .ok (.iload 4, 2) := by decide +kernel
theorem dX10_meetsLines_69 : decode cX10_meetsLines 69 = .ok (.aload_n 0, 1) := by decide +kernel
theorem dX10_meetsLines_70 : decode cX10_meetsLines 70 = .ok (.iload_n 3, 1) := by decide +kernel
theorem dX10_meetsLines_71 : decode cX10_meetsLines 71 = .ok (.iconst 2, 1) := by decide +kernel
theorem dX10_meetsLines_72 : decode cX10_meetsLines 72 = .ok (.invokevirtual 233, 3) := by decide +kernel
theorem dX10_meetsLines_75 : decode cX10_meetsLines 75 = .ok (.invokevirtual 313, 3) := by decide +kernel
theorem dX10_meetsLines_78 : decode cX10_meetsLines 78 = .ok (.goto 4, 3) := by decide +kernel
theorem dX10_meetsLines_81 : decode cX10_meetsLines 81 = .ok (.iconst (-1), 1) := by decide +kernel
theorem dX10_meetsLines_82 : decode cX10_meetsLines 82 = .ok (.istore 5, 2) := by decide +kernel
theorem dX10_meetsLines_84 : decode cX10_meetsLines 84 = .ok (.iload 5, 2) := by decide +kernel
theorem dX10_meetsLines_86 : decode cX10_meetsLines 86 = .ok (.iconst (-1), 1) := by decide +kernel
theorem dX10_meetsLines_87 : decode cX10_meetsLines 87 = .ok (.if_icmp .ne 6, 3) := by decide +kernel
theorem dX10_meetsLines_90 : decode cX10_meetsLines 90 = .ok (.goto 22, 3) := by decide +kernel
theorem dX10_meetsLines_93 : decode cX10_meetsLines 93 = .ok (.iload_n 2, 1) := by decide +kernel
theorem dX10_meetsLines_94 : decode cX10_meetsLines 94 = .ok (.ifCond .eq 12, 3) := by decide +kernel
theorem dX10_meetsLines_97 : decode cX10_meetsLines 97 = .ok (.aload_n 0, 1) := by decide +kernel
theorem dX10_meetsLines_98 : decode cX10_meetsLines 98 = .ok (.iload 5, 2) := by decide +kernel
theorem dX10_meetsLines_100 : decode cX10_meetsLines 100 = .ok (.invokevirtual 319, 3) := by decide +kernel
theorem dX10_meetsLines_103 : decode cX10_meetsLines 103 = .ok (.goto 9, 3) := by decide +kernel
theorem dX10_meetsLines_106 : decode cX10_meetsLines 106 = .ok (.aload_n 0, 1) := by decide +kernel
theorem dX10_meetsLines_107 : decode cX10_meetsLines 107 = .ok (.iload 5, 2) := by decide +kernel
theorem dX10_meetsLines_109 : decode cX10_meetsLines 109 = .ok (.invokevirtual 334, 3) := by decide +kernel
theorem dX10_meetsLines_112 : decode cX10_meetsLines 112 = .ok (.iinc 4 1, 3) := by decide +kernel
theorem dX10_meetsLines_115 : decode cX10_meetsLines 115 = .ok (.goto (-73), 3) := by decide +kernel
theorem dX10_meetsLines_118 : decode cX10_meetsLines 118 = .ok (.iinc 3 1, 3) := by decide +kernel
theorem dX10_meetsLines_121 : decode cX10_meetsLines 121 = .ok (.goto (-115), 3) := by decide +kernel
theorem dX10_meetsLines_124 : decode cX10_meetsLines 124 = .ok (.return_, 1) := by decide +kernel
theorem dX10_cleansNow_0 : decode cX10_cleansNow 0 = .ok (.aload_n 0, 1) := by decide +kernel
theorem dX10_cleansNow_1 : decode cX10_cleansNow 1 = .ok (.iload_n 1, 1) := by decide +kernel
theorem dX10_cleansNow_2 : decode cX10_cleansNow 2 = .ok (.invokevirtual 316, 3) := by decide +kernel
theorem dX10_cleansNow_5 : decode cX10_cleansNow 5 = .ok (.istore_n 2, 1) := by decide +kernel
theorem dX10_cleansNow_6 : decode cX10_cleansNow 6 = .ok (.return_, 1) := by decide +kernel
theorem dX10_does_0 : decode cX10_does 0 = .ok (.aload_n 0, 1) := by decide +kernel
theorem dX10_does_1 : decode cX10_does 1 = .ok (.iload_n 1, 1) := by decide +kernel
theorem dX10_does_2 : decode cX10_does 2 = .ok (.invokevirtual 238, 3) := by decide +kernel
theorem dX10_does_5 : decode cX10_does 5 = .ok (.istore_n 2, 1) := by decide +kernel
theorem dX10_does_6 : decode cX10_does 6 = .ok (.aload_n 0, 1) := by decide +kernel
theorem dX10_does_7 : decode cX10_does 7 = .ok (.getfield 9, 3) := by decide +kernel
theorem dX10_does_10 : decode cX10_does 10 = .ok (.iconst 0, 1) := by decide +kernel
theorem dX10_does_11 : decode cX10_does 11 = .ok (.iload_n 2, 1) := by decide +kernel
theorem dX10_does_12 : decode cX10_does 12 = .ok (.invokestatic 263, 3) := by decide +kernel
theorem dX10_does_15 : decode cX10_does 15 = .ok (.iadd, 1) := by decide +kernel
theorem dX10_does_16 : decode cX10_does 16 = .ok (.iaload, 1) := by decide +kernel
theorem dX10_does_17 : decode cX10_does 17 = .ok (.istore_n 3, 1) := by decide +kernel
theorem dX10_does_18 : decode cX10_does 18 = .ok (.iconst 0, 1) := by decide +kernel
theorem dX10_does_19 : decode cX10_does 19 = .ok (.istore 4, 2) := by decide +kernel
theorem dX10_does_21 : decode cX10_does 21 = .ok (.iload 4, 2) := by decide +kernel
theorem dX10_does_23 : decode cX10_does 23 = .ok (.aload_n 0, 1) := by decide +kernel
theorem dX10_does_24 : decode cX10_does 24 = .ok (.getfield 23, 3) := by decide +kernel
theorem dX10_does_27 : decode cX10_does 27 = .ok (.iconst 0, 1) := by decide +kernel
theorem dX10_does_28 : decode cX10_does 28 = .ok (.iaload, 1) := by decide +kernel
theorem dX10_does_29 : decode cX10_does 29 = .ok (.if_icmp .ge 41, 3) := by decide +kernel
theorem dX10_does_32 : decode cX10_does 32 = .ok (.iload_n 2, 1) := by decide +kernel
theorem dX10_does_33 : decode cX10_does 33 = .ok (.iload 4, 2) := by decide +kernel
theorem dX10_does_35 : decode cX10_does 35 = .ok (.invokestatic 169, 3) := by decide +kernel
theorem dX10_does_38 : decode cX10_does 38 = .ok (.ifCond .eq 26, 3) := by decide +kernel
theorem dX10_does_41 : decode cX10_does 41 = .ok (.aload_n 0, 1) := by decide +kernel
theorem dX10_does_42 : decode cX10_does 42 = .ok (.getfield 9, 3) := by decide +kernel
theorem dX10_does_45 : decode cX10_does 45 = .ok (.iconst 0, 1) := by decide +kernel
theorem dX10_does_46 : decode cX10_does 46 = .ok (.iload 4, 2) := by decide +kernel
theorem dX10_does_48 : decode cX10_does 48 = .ok (.iadd, 1) := by decide +kernel
theorem dX10_does_49 : decode cX10_does 49 = .ok (.iaload, 1) := by decide +kernel
theorem dX10_does_50 : decode cX10_does 50 = .ok (.iload_n 3, 1) := by decide +kernel
theorem dX10_does_51 : decode cX10_does 51 = .ok (.if_icmp .ge 13, 3) := by decide +kernel
theorem dX10_does_54 : decode cX10_does 54 = .ok (.aload_n 0, 1) := by decide +kernel
theorem dX10_does_55 : decode cX10_does 55 = .ok (.getfield 9, 3) := by decide +kernel
theorem dX10_does_58 : decode cX10_does 58 = .ok (.iconst 0, 1) := by decide +kernel
theorem dX10_does_59 : decode cX10_does 59 = .ok (.iload 4, 2) := by decide +kernel
theorem dX10_does_61 : decode cX10_does 61 = .ok (.iadd, 1) := by decide +kernel
theorem dX10_does_62 : decode cX10_does 62 = .ok (.iaload, 1) := by decide +kernel
theorem dX10_does_63 : decode cX10_does 63 = .ok (.istore_n 3, 1) := by decide +kernel
theorem dX10_does_64 : decode cX10_does 64 = .ok (.iinc 4 1, 3) := by decide +kernel
theorem dX10_does_67 : decode cX10_does 67 = .ok (.goto (-46), 3) := by decide +kernel
theorem dX10_does_70 : decode cX10_does 70 = .ok (.aload_n 0, 1) := by decide +kernel
theorem dX10_does_71 : decode cX10_does 71 = .ok (.getfield 9, 3) := by decide +kernel
theorem dX10_does_74 : decode cX10_does 74 = .ok (.sipush 1670, 3) := by decide +kernel
theorem dX10_does_77 : decode cX10_does 77 = .ok (.iaload, 1) := by decide +kernel
theorem dX10_does_78 : decode cX10_does 78 = .ok (.iconst 1, 1) := by decide +kernel
theorem dX10_does_79 : decode cX10_does 79 = .ok (.if_icmp .ne 9, 3) := by decide +kernel
theorem dX10_does_82 : decode cX10_does 82 = .ok (.aload_n 0, 1) := by decide +kernel
theorem dX10_does_83 : decode cX10_does 83 = .ok (.iload_n 1, 1) := by decide +kernel
theorem dX10_does_84 : decode cX10_does 84 = .ok (.iconst 0, 1) := by decide +kernel
theorem dX10_does_85 : decode cX10_does 85 = .ok (.invokevirtual 337, 3) := by decide +kernel
theorem dX10_does_88 : decode cX10_does 88 = .ok (.aload_n 0, 1) := by decide +kernel
theorem dX10_does_89 : decode cX10_does 89 = .ok (.iload_n 1, 1) := by decide +kernel
theorem dX10_does_90 : decode cX10_does 90 = .ok (.invokevirtual 341, 3) := by decide +kernel
theorem dX10_does_93 : decode cX10_does 93 = .ok (.aload_n 0, 1) := by decide +kernel
theorem dX10_does_94 : decode cX10_does 94 = .ok (.iload_n 1, 1) := by decide +kernel
theorem dX10_does_95 : decode cX10_does 95 = .ok (.invokevirtual 344, 3) := by decide +kernel
theorem dX10_does_98 : decode cX10_does 98 = .ok (.aload_n 0, 1) := by decide +kernel
theorem dX10_does_99 : decode cX10_does 99 = .ok (.getfield 9, 3) := by decide +kernel
theorem dX10_does_102 : decode cX10_does 102 = .ok (.sipush 1670, 3) := by decide +kernel
theorem dX10_does_105 : decode cX10_does 105 = .ok (.iaload, 1) := by decide +kernel
theorem dX10_does_106 : decode cX10_does 106 = .ok (.iconst 1, 1) := by decide +kernel
theorem dX10_does_107 : decode cX10_does 107 = .ok (.if_icmp .ne 9, 3) := by decide +kernel
theorem dX10_does_110 : decode cX10_does 110 = .ok (.aload_n 0, 1) := by decide +kernel
theorem dX10_does_111 : decode cX10_does 111 = .ok (.iload_n 1, 1) := by decide +kernel
theorem dX10_does_112 : decode cX10_does 112 = .ok (.iconst 1, 1) := by decide +kernel
theorem dX10_does_113 : decode cX10_does 113 = .ok (.invokevirtual 337, 3) := by decide +kernel
theorem dX10_does_116 : decode cX10_does 116 = .ok (.sipush 1458, 3) := by decide +kernel
theorem dX10_does_119 : decode cX10_does 119 = .ok (.iconst 3, 1) := by decide +kernel
theorem dX10_does_120 : decode cX10_does 120 = .ok (.aload_n 0, 1) := by decide +kernel
theorem dX10_does_121 : decode cX10_does 121 = .ok (.getfield 9, 3) := by decide +kernel
theorem dX10_does_124 : decode cX10_does 124 = .ok (.sipush 1457, 3) := by decide +kernel
theorem dX10_does_127 : decode cX10_does 127 = .ok (.iaload, 1) := by decide +kernel
theorem dX10_does_128 : decode cX10_does 128 = .ok (.bipush 40, 2) := by decide +kernel
theorem dX10_does_130 : decode cX10_does 130 = .ok (.irem, 1) := by decide +kernel
theorem dX10_does_131 : decode cX10_does 131 = .ok (.imul, 1) := by decide +kernel
theorem dX10_does_132 : decode cX10_does 132 = .ok (.iadd, 1) := by decide +kernel
theorem dX10_does_133 : decode cX10_does 133 = .ok (.istore 4, 2) := by decide +kernel
theorem dX10_does_135 : decode cX10_does 135 = .ok (.aload_n 0, 1) := by decide +kernel
theorem dX10_does_136 : decode cX10_does 136 = .ok (.getfield 9, 3) := by decide +kernel
theorem dX10_does_139 : decode cX10_does 139 = .ok (.iload 4, 2) := by decide +kernel
theorem dX10_does_141 : decode cX10_does 141 = .ok (.iload_n 1, 1) := by decide +kernel
theorem dX10_does_142 : decode cX10_does 142 = .ok (.iastore, 1) := by decide +kernel
theorem dX10_does_143 : decode cX10_does 143 = .ok (.aload_n 0, 1) := by decide +kernel
theorem dX10_does_144 : decode cX10_does 144 = .ok (.getfield 9, 3) := by decide +kernel
theorem dX10_does_147 : decode cX10_does 147 = .ok (.iload 4, 2) := by decide +kernel
theorem dX10_does_149 : decode cX10_does 149 = .ok (.iconst 1, 1) := by decide +kernel
theorem dX10_does_150 : decode cX10_does 150 = .ok (.iadd, 1) := by decide +kernel
theorem dX10_does_151 : decode cX10_does 151 = .ok (.iload_n 3, 1) := by decide +kernel
theorem dX10_does_152 : decode cX10_does 152 = .ok (.iastore, 1) := by decide +kernel
theorem dX10_does_153 : decode cX10_does 153 = .ok (.aload_n 0, 1) := by decide +kernel
theorem dX10_does_154 : decode cX10_does 154 = .ok (.getfield 9, 3) := by decide +kernel
theorem dX10_does_157 : decode cX10_does 157 = .ok (.iload 4, 2) := by decide +kernel
theorem dX10_does_159 : decode cX10_does 159 = .ok (.iconst 2, 1) := by decide +kernel
theorem dX10_does_160 : decode cX10_does 160 = .ok (.iadd, 1) := by decide +kernel
theorem dX10_does_161 : decode cX10_does 161 = .ok (.aload_n 0, 1) := by decide +kernel
theorem dX10_does_162 : decode cX10_does 162 = .ok (.iload_n 2, 1) := by decide +kernel
theorem dX10_does_163 : decode cX10_does 163 = .ok (.invokevirtual 304, 3) := by decide +kernel
theorem dX10_does_166 : decode cX10_does 166 = .ok (.iastore, 1) := by decide +kernel
theorem dX10_does_167 : decode cX10_does 167 = .ok (.aload_n 0, 1) := by decide +kernel
theorem dX10_does_168 : decode cX10_does 168 = .ok (.getfield 9, 3) := by decide +kernel
theorem dX10_does_171 : decode cX10_does 171 = .ok (.sipush 1457, 3) := by decide +kernel
theorem dX10_does_174 : decode cX10_does 174 = .ok (.dup2, 1) := by decide +kernel
theorem dX10_does_175 : decode cX10_does 175 = .ok (.iaload, 1) := by decide +kernel
theorem dX10_does_176 : decode cX10_does 176 = .ok (.iconst 1, 1) := by decide +kernel
theorem dX10_does_177 : decode cX10_does 177 = .ok (.iadd, 1) := by decide +kernel
theorem dX10_does_178 : decode cX10_does 178 = .ok (.iastore, 1) := by decide +kernel
theorem dX10_does_179 : decode cX10_does 179 = .ok (.return_, 1) := by decide +kernel
theorem dX10_runs_0 : decode cX10_runs 0 = .ok (.iload_n 1, 1) := by decide +kernel
theorem dX10_runs_1 : decode cX10_runs 1 = .ok (.aload_n 0, 1) := by decide +kernel
theorem dX10_runs_2 : decode cX10_runs 2 = .ok (.getfield 9, 3) := by decide +kernel
theorem dX10_runs_5 : decode cX10_runs 5 = .ok (.sipush 1440, 3) := by decide +kernel
theorem dX10_runs_8 : decode cX10_runs 8 = .ok (.iaload, 1) := by decide +kernel
theorem dX10_runs_9 : decode cX10_runs 9 = .ok (.if_icmp .ge 7, 3) := by decide +kernel
theorem dX10_runs_12 : decode cX10_runs 12 = .ok (.iload_n 1, 1) := by decide +kernel
theorem dX10_runs_13 : decode cX10_runs 13 = .ok (.goto 11, 3) := by decide +kernel
theorem dX10_runs_16 : decode cX10_runs 16 = .ok (.aload_n 0, 1) := by decide +kernel
theorem dX10_runs_17 : decode cX10_runs 17 = .ok (.getfield 9, 3) := by decide +kernel
theorem dX10_runs_20 : decode cX10_runs 20 = .ok (.sipush 1440, 3) := by decide +kernel
theorem dX10_runs_23 : decode cX10_runs 23 = .ok (.iaload, 1) := by decide +kernel
theorem dX10_runs_24 : decode cX10_runs 24 = .ok (.istore_n 2, 1) := by decide +kernel
theorem dX10_runs_25 : decode cX10_runs 25 = .ok (.iconst 0, 1) := by decide +kernel
theorem dX10_runs_26 : decode cX10_runs 26 = .ok (.istore_n 3, 1) := by decide +kernel
theorem dX10_runs_27 : decode cX10_runs 27 = .ok (.iload_n 3, 1) := by decide +kernel
theorem dX10_runs_28 : decode cX10_runs 28 = .ok (.iload_n 2, 1) := by decide +kernel
theorem dX10_runs_29 : decode cX10_runs 29 = .ok (.if_icmp .ge 23, 3) := by decide +kernel
theorem dX10_runs_32 : decode cX10_runs 32 = .ok (.aload_n 0, 1) := by decide +kernel
theorem dX10_runs_33 : decode cX10_runs 33 = .ok (.aload_n 0, 1) := by decide +kernel
theorem dX10_runs_34 : decode cX10_runs 34 = .ok (.getfield 9, 3) := by decide +kernel
theorem dX10_runs_37 : decode cX10_runs 37 = .ok (.sipush 1441, 3) := by decide +kernel
theorem dX10_runs_40 : decode cX10_runs 40 = .ok (.iload_n 3, 1) := by decide +kernel
theorem dX10_runs_41 : decode cX10_runs 41 = .ok (.iadd, 1) := by decide +kernel
theorem dX10_runs_42 : decode cX10_runs 42 = .ok (.iaload, 1) := by decide +kernel
theorem dX10_runs_43 : decode cX10_runs 43 = .ok (.invokevirtual 347, 3) := by decide +kernel
theorem dX10_runs_46 : decode cX10_runs 46 = .ok (.iinc 3 1, 3) := by decide +kernel
theorem dX10_runs_49 : decode cX10_runs 49 = .ok (.goto (-22), 3) := by decide +kernel
theorem dX10_runs_52 : decode cX10_runs 52 = .ok (.aload_n 0, 1) := by decide +kernel
theorem dX10_runs_53 : decode cX10_runs 53 = .ok (.getfield 9, 3) := by decide +kernel
theorem dX10_runs_56 : decode cX10_runs 56 = .ok (.sipush 1440, 3) := by decide +kernel
theorem dX10_runs_59 : decode cX10_runs 59 = .ok (.dup2, 1) := by decide +kernel
theorem dX10_runs_60 : decode cX10_runs 60 = .ok (.iaload, 1) := by decide +kernel
theorem dX10_runs_61 : decode cX10_runs 61 = .ok (.iload_n 2, 1) := by decide +kernel
theorem dX10_runs_62 : decode cX10_runs 62 = .ok (.isub, 1) := by decide +kernel
theorem dX10_runs_63 : decode cX10_runs 63 = .ok (.iastore, 1) := by decide +kernel
theorem dX10_runs_64 : decode cX10_runs 64 = .ok (.iconst 0, 1) := by decide +kernel
theorem dX10_runs_65 : decode cX10_runs 65 = .ok (.istore_n 3, 1) := by decide +kernel
theorem dX10_runs_66 : decode cX10_runs 66 = .ok (.iload_n 3, 1) := by decide +kernel
theorem dX10_runs_67 : decode cX10_runs 67 = .ok (.aload_n 0, 1) := by decide +kernel
theorem dX10_runs_68 : decode cX10_runs 68 = .ok (.getfield 9, 3) := by decide +kernel
theorem dX10_runs_71 : decode cX10_runs 71 = .ok (.sipush 1440, 3) := by decide +kernel
theorem dX10_runs_74 : decode cX10_runs 74 = .ok (.iaload, 1) := by decide +kernel
theorem dX10_runs_75 : decode cX10_runs 75 = .ok (.if_icmp .ge 31, 3) := by decide +kernel
theorem dX10_runs_78 : decode cX10_runs 78 = .ok (.aload_n 0, 1) := by decide +kernel
theorem dX10_runs_79 : decode cX10_runs 79 = .ok (.getfield 9, 3) := by decide +kernel
theorem dX10_runs_82 : decode cX10_runs 82 = .ok (.sipush 1441, 3) := by decide +kernel
theorem dX10_runs_85 : decode cX10_runs 85 = .ok (.iload_n 3, 1) := by decide +kernel
theorem dX10_runs_86 : decode cX10_runs 86 = .ok (.iadd, 1) := by decide +kernel
theorem dX10_runs_87 : decode cX10_runs 87 = .ok (.aload_n 0, 1) := by decide +kernel
theorem dX10_runs_88 : decode cX10_runs 88 = .ok (.getfield 9, 3) := by decide +kernel
theorem dX10_runs_91 : decode cX10_runs 91 = .ok (.sipush 1441, 3) := by decide +kernel
theorem dX10_runs_94 : decode cX10_runs 94 = .ok (.iload_n 2, 1) := by decide +kernel
theorem dX10_runs_95 : decode cX10_runs 95 = .ok (.iadd, 1) := by decide +kernel
theorem dX10_runs_96 : decode cX10_runs 96 = .ok (.iload_n 3, 1) := by decide +kernel
theorem dX10_runs_97 : decode cX10_runs 97 = .ok (.iadd, 1) := by decide +kernel
theorem dX10_runs_98 : decode cX10_runs 98 = .ok (.iaload, 1) := by decide +kernel
theorem dX10_runs_99 : decode cX10_runs 99 = .ok (.iastore, 1) := by decide +kernel
theorem dX10_runs_100 : decode cX10_runs 100 = .ok (.iinc 3 1, 3) := by decide +kernel
theorem dX10_runs_103 : decode cX10_runs 103 = .ok (.goto (-37), 3) := by decide +kernel
theorem dX10_runs_106 : decode cX10_runs 106 = .ok (.iload_n 2, 1) := by decide +kernel
theorem dX10_runs_107 : decode cX10_runs 107 = .ok (.ireturn, 1) := by decide +kernel
theorem dX10_run_0 : decode cX10_run 0 = .ok (.aload_n 0, 1) := by decide +kernel
theorem dX10_run_1 : decode cX10_run 1 = .ok (.iconst 0, 1) := by decide +kernel
theorem dX10_run_2 : decode cX10_run 2 = .ok (.putfield 60, 3) := by decide +kernel
theorem dX10_run_5 : decode cX10_run 5 = .ok (.aload_n 0, 1) := by decide +kernel
theorem dX10_run_6 : decode cX10_run 6 = .ok (.iload_n 1, 1) := by decide +kernel
theorem dX10_run_7 : decode cX10_run 7 = .ok (.iconst 1, 1) := by decide +kernel
theorem dX10_run_8 : decode cX10_run 8 = .ok (.bipush 16, 2) := by decide +kernel
theorem dX10_run_10 : decode cX10_run 10 = .ok (.invokestatic 70, 3) := by decide +kernel
theorem dX10_run_13 : decode cX10_run 13 = .ok (.iconst 1, 1) := by decide +kernel
theorem dX10_run_14 : decode cX10_run 14 = .ok (.invokevirtual 66, 3) := by decide +kernel
theorem dX10_run_17 : decode cX10_run 17 = .ok (.ifCond .eq 11, 3) := by decide +kernel
theorem dX10_run_20 : decode cX10_run 20 = .ok (.aload_n 0, 1) := by decide +kernel
theorem dX10_run_21 : decode cX10_run 21 = .ok (.iload_n 1, 1) := by decide +kernel
theorem dX10_run_22 : decode cX10_run 22 = .ok (.invokevirtual 350, 3) := by decide +kernel
theorem dX10_run_25 : decode cX10_run 25 = .ok (.goto 4, 3) := by decide +kernel
theorem dX10_run_28 : decode cX10_run 28 = .ok (.iconst 0, 1) := by decide +kernel
theorem dX10_run_29 : decode cX10_run 29 = .ok (.ireturn, 1) := by decide +kernel
theorem dX10_runOf_0 : decode cX10_runOf 0 = .ok (.aload_n 0, 1) := by decide +kernel
theorem dX10_runOf_1 : decode cX10_runOf 1 = .ok (.iconst 0, 1) := by decide +kernel
theorem dX10_runOf_2 : decode cX10_runOf 2 = .ok (.putfield 60, 3) := by decide +kernel
theorem dX10_runOf_5 : decode cX10_runOf 5 = .ok (.aload_n 0, 1) := by decide +kernel
theorem dX10_runOf_6 : decode cX10_runOf 6 = .ok (.getfield 9, 3) := by decide +kernel
theorem dX10_runOf_9 : decode cX10_runOf 9 = .ok (.sipush 1457, 3) := by decide +kernel
theorem dX10_runOf_12 : decode cX10_runOf 12 = .ok (.iaload, 1) := by decide +kernel
theorem dX10_runOf_13 : decode cX10_runOf 13 = .ok (.bipush 40, 2) := by decide +kernel
theorem dX10_runOf_15 : decode cX10_runOf 15 = .ok (.if_icmp .le 17, 3) := by decide +kernel
theorem dX10_runOf_18 : decode cX10_runOf 18 = .ok (.aload_n 0, 1) := by decide +kernel
theorem dX10_runOf_19 : decode cX10_runOf 19 = .ok (.getfield 9, 3) := by decide +kernel
theorem dX10_runOf_22 : decode cX10_runOf 22 = .ok (.sipush 1457, 3) := by decide +kernel
theorem dX10_runOf_25 : decode cX10_runOf 25 = .ok (.iaload, 1) := by decide +kernel
theorem dX10_runOf_26 : decode cX10_runOf 26 = .ok (.bipush 40, 2) := by decide +kernel
theorem dX10_runOf_28 : decode cX10_runOf 28 = .ok (.isub, 1) := by decide +kernel
theorem dX10_runOf_29 : decode cX10_runOf 29 = .ok (.goto 4, 3) := by decide +kernel
theorem dX10_runOf_32 : decode cX10_runOf 32 = .ok (.iconst 0, 1) := by decide +kernel
theorem dX10_runOf_33 : decode cX10_runOf 33 = .ok (.istore_n 3, 1) := by decide +kernel
theorem dX10_runOf_34 : decode cX10_runOf 34 = .ok (.aload_n 0, 1) := by decide +kernel
theorem dX10_runOf_35 : decode cX10_runOf 35 = .ok (.iload_n 1, 1) := by decide +kernel
theorem dX10_runOf_36 : decode cX10_runOf 36 = .ok (.iload_n 3, 1) := by decide +kernel
theorem dX10_runOf_37 : decode cX10_runOf 37 = .ok (.aload_n 0, 1) := by decide +kernel
theorem dX10_runOf_38 : decode cX10_runOf 38 = .ok (.getfield 9, 3) := by decide +kernel
theorem dX10_runOf_41 : decode cX10_runOf 41 = .ok (.sipush 1457, 3) := by decide +kernel
theorem dX10_runOf_44 : decode cX10_runOf 44 = .ok (.iaload, 1) := by decide +kernel
theorem dX10_runOf_45 : decode cX10_runOf 45 = .ok (.iconst 1, 1) := by decide +kernel
theorem dX10_runOf_46 : decode cX10_runOf 46 = .ok (.isub, 1) := by decide +kernel
theorem dX10_runOf_47 : decode cX10_runOf 47 = .ok (.invokestatic 70, 3) := by decide +kernel
theorem dX10_runOf_50 : decode cX10_runOf 50 = .ok (.iconst 1, 1) := by decide +kernel
theorem dX10_runOf_51 : decode cX10_runOf 51 = .ok (.invokevirtual 66, 3) := by decide +kernel
theorem dX10_runOf_54 : decode cX10_runOf 54 = .ok (.ifCond .eq 17, 3) := by decide +kernel
theorem dX10_runOf_57 : decode cX10_runOf 57 = .ok (.aload_n 0, 1) := by decide +kernel
theorem dX10_runOf_58 : decode cX10_runOf 58 = .ok (.iload_n 2, 1) := by decide +kernel
theorem dX10_runOf_59 : decode cX10_runOf 59 = .ok (.iconst 0, 1) := by decide +kernel
theorem dX10_runOf_60 : decode cX10_runOf 60 = .ok (.iconst 2, 1) := by decide +kernel
theorem dX10_runOf_61 : decode cX10_runOf 61 = .ok (.invokestatic 70, 3) := by decide +kernel
theorem dX10_runOf_64 : decode cX10_runOf 64 = .ok (.iconst 2, 1) := by decide +kernel
theorem dX10_runOf_65 : decode cX10_runOf 65 = .ok (.invokevirtual 66, 3) := by decide +kernel
theorem dX10_runOf_68 : decode cX10_runOf 68 = .ok (.ifCond .ne 5, 3) := by decide +kernel
theorem dX10_runOf_71 : decode cX10_runOf 71 = .ok (.iconst 0, 1) := by decide +kernel
theorem dX10_runOf_72 : decode cX10_runOf 72 = .ok (.ireturn, 1) := by decide +kernel
theorem dX10_runOf_73 : decode cX10_runOf 73 = .ok (.aload_n 0, 1) := by decide +kernel
theorem dX10_runOf_74 : decode cX10_runOf 74 = .ok (.getfield 9, 3) := by decide +kernel
theorem dX10_runOf_77 : decode cX10_runOf 77 = .ok (.sipush 1458, 3) := by decide +kernel
theorem dX10_runOf_80 : decode cX10_runOf 80 = .ok (.iconst 3, 1) := by decide +kernel
theorem dX10_runOf_81 : decode cX10_runOf 81 = .ok (.iload_n 1, 1) := by decide +kernel
theorem dX10_runOf_82 : decode cX10_runOf 82 = .ok (.bipush 40, 2) := by decide +kernel
theorem dX10_runOf_84 : decode cX10_runOf 84 = .ok (.irem, 1) := by decide +kernel
theorem dX10_runOf_85 : decode cX10_runOf 85 = .ok (.imul, 1) := by decide +kernel
theorem dX10_runOf_86 : decode cX10_runOf 86 = .ok (.iadd, 1) := by decide +kernel
theorem dX10_runOf_87 : decode cX10_runOf 87 = .ok (.iload_n 2, 1) := by decide +kernel
theorem dX10_runOf_88 : decode cX10_runOf 88 = .ok (.iadd, 1) := by decide +kernel
theorem dX10_runOf_89 : decode cX10_runOf 89 = .ok (.iaload, 1) := by decide +kernel
theorem dX10_runOf_90 : decode cX10_runOf 90 = .ok (.ireturn, 1) := by decide +kernel
theorem dX10_keeps_0 : decode cX10_keeps 0 = .ok (.iconst 0, 1) := by decide +kernel
theorem dX10_keeps_1 : decode cX10_keeps 1 = .ok (.istore_n 1, 1) := by decide +kernel
theorem dX10_keeps_2 : decode cX10_keeps 2 = .ok (.iload_n 1, 1) := by decide +kernel
theorem dX10_keeps_3 : decode cX10_keeps 3 = .ok (.sipush 1671, 3) := by decide +kernel
theorem dX10_keeps_6 : decode cX10_keeps 6 = .ok (.if_icmp .ge 21, 3) := by decide +kernel
theorem dX10_keeps_9 : decode cX10_keeps 9 = .ok (.aload_n 0, 1) := by decide +kernel
theorem dX10_keeps_10 : decode cX10_keeps 10 = .ok (.getfield 16, 3) := by decide +kernel
theorem dX10_keeps_13 : decode cX10_keeps 13 = .ok (.iload_n 1, 1) := by decide +kernel
theorem dX10_keeps_14 : decode cX10_keeps 14 = .ok (.aload_n 0, 1) := by decide +kernel
theorem dX10_keeps_15 : decode cX10_keeps 15 = .ok (.getfield 9, 3) := by decide +kernel
theorem dX10_keeps_18 : decode cX10_keeps 18 = .ok (.iload_n 1, 1) := by decide +kernel
theorem dX10_keeps_19 : decode cX10_keeps 19 = .ok (.iaload, 1) := by decide +kernel
theorem dX10_keeps_20 : decode cX10_keeps 20 = .ok (.iastore, 1) := by decide +kernel
theorem dX10_keeps_21 : decode cX10_keeps 21 = .ok (.iinc 1 1, 3) := by decide +kernel
theorem dX10_keeps_24 : decode cX10_keeps 24 = .ok (.goto (-22), 3) := by decide +kernel
theorem dX10_keeps_27 : decode cX10_keeps 27 = .ok (.return_, 1) := by decide +kernel
theorem dX10_comesBack_0 : decode cX10_comesBack 0 = .ok (.iconst 0, 1) := by decide +kernel
theorem dX10_comesBack_1 : decode cX10_comesBack 1 = .ok (.istore_n 1, 1) := by decide +kernel
theorem dX10_comesBack_2 : decode cX10_comesBack 2 = .ok (.iload_n 1, 1) := by decide +kernel
theorem dX10_comesBack_3 : decode cX10_comesBack 3 = .ok (.sipush 1671, 3) := by decide +kernel
theorem dX10_comesBack_6 : decode cX10_comesBack 6 = .ok (.if_icmp .ge 21, 3) := by decide +kernel
theorem dX10_comesBack_9 : decode cX10_comesBack 9 = .ok (.aload_n 0, 1) := by decide +kernel
theorem dX10_comesBack_10 : decode cX10_comesBack 10 = .ok (.getfield 9, 3) := by decide +kernel
theorem dX10_comesBack_13 : decode cX10_comesBack 13 = .ok (.iload_n 1, 1) := by decide +kernel
theorem dX10_comesBack_14 : decode cX10_comesBack 14 = .ok (.aload_n 0, 1) := by decide +kernel
theorem dX10_comesBack_15 : decode cX10_comesBack 15 = .ok (.getfield 16, 3) := by decide +kernel
theorem dX10_comesBack_18 : decode cX10_comesBack 18 = .ok (.iload_n 1, 1) := by decide +kernel
theorem dX10_comesBack_19 : decode cX10_comesBack 19 = .ok (.iaload, 1) := by decide +kernel
theorem dX10_comesBack_20 : decode cX10_comesBack 20 = .ok (.iastore, 1) := by decide +kernel
theorem dX10_comesBack_21 : decode cX10_comesBack 21 = .ok (.iinc 1 1, 3) := by decide +kernel
theorem dX10_comesBack_24 : decode cX10_comesBack 24 = .ok (.goto (-22), 3) := by decide +kernel
theorem dX10_comesBack_27 : decode cX10_comesBack 27 = .ok (.return_, 1) := by decide +kernel
theorem dX10_allTicks_0 : decode cX10_allTicks 0 = .ok (.iconst 0, 1) := by decide +kernel
theorem dX10_allTicks_1 : decode cX10_allTicks 1 = .ok (.istore_n 1, 1) := by decide +kernel
theorem dX10_allTicks_2 : decode cX10_allTicks 2 = .ok (.iload_n 1, 1) := by decide +kernel
theorem dX10_allTicks_3 : decode cX10_allTicks 3 = .ok (.aload_n 0, 1) := by decide +kernel
theorem dX10_allTicks_4 : decode cX10_allTicks 4 = .ok (.getfield 9, 3) := by decide +kernel
theorem dX10_allTicks_7 : decode cX10_allTicks 7 = .ok (.sipush 1440, 3) := by decide +kernel
theorem dX10_allTicks_10 : decode cX10_allTicks 10 = .ok (.iaload, 1) := by decide +kernel
theorem dX10_allTicks_11 : decode cX10_allTicks 11 = .ok (.if_icmp .ge 23, 3) := by decide +kernel
theorem dX10_allTicks_14 : decode cX10_allTicks 14 = .ok (.aload_n 0, 1) := by decide +kernel
theorem dX10_allTicks_15 : decode cX10_allTicks 15 = .ok (.aload_n 0, 1) := by decide +kernel
theorem dX10_allTicks_16 : decode cX10_allTicks 16 = .ok (.getfield 9, 3) := by decide +kernel
theorem dX10_allTicks_19 : decode cX10_allTicks 19 = .ok (.sipush 1441, 3) := by decide +kernel
theorem dX10_allTicks_22 : decode cX10_allTicks 22 = .ok (.iload_n 1, 1) := by decide +kernel
theorem dX10_allTicks_23 : decode cX10_allTicks 23 = .ok (.iadd, 1) := by decide +kernel
theorem dX10_allTicks_24 : decode cX10_allTicks 24 = .ok (.iaload, 1) := by decide +kernel
theorem dX10_allTicks_25 : decode cX10_allTicks 25 = .ok (.invokevirtual 344, 3) := by decide +kernel
theorem dX10_allTicks_28 : decode cX10_allTicks 28 = .ok (.iinc 1 1, 3) := by decide +kernel
theorem dX10_allTicks_31 : decode cX10_allTicks 31 = .ok (.goto (-29), 3) := by decide +kernel
theorem dX10_allTicks_34 : decode cX10_allTicks 34 = .ok (.aload_n 0, 1) := by decide +kernel
theorem dX10_allTicks_35 : decode cX10_allTicks 35 = .ok (.invokevirtual 307, 3) := by decide +kernel
theorem dX10_allTicks_38 : decode cX10_allTicks 38 = .ok (.ireturn, 1) := by decide +kernel
theorem dX10_wouldFinish_0 : decode cX10_wouldFinish 0 = .ok (.aload_n 0, 1) := by decide +kernel
theorem dX10_wouldFinish_1 : decode cX10_wouldFinish 1 = .ok (.iconst 0, 1) := by decide +kernel
theorem dX10_wouldFinish_2 : decode cX10_wouldFinish 2 = .ok (.putfield 60, 3) := by decide +kernel
theorem dX10_wouldFinish_5 : decode cX10_wouldFinish 5 = .ok (.aload_n 0, 1) := by decide +kernel
theorem dX10_wouldFinish_6 : decode cX10_wouldFinish 6 = .ok (.iload_n 1, 1) := by decide +kernel
theorem dX10_wouldFinish_7 : decode cX10_wouldFinish 7 = .ok (.iconst (-1), 1) := by decide +kernel
theorem dX10_wouldFinish_8 : decode cX10_wouldFinish 8 = .ok (.if_icmp .eq 11, 3) := by decide +kernel
theorem dX10_wouldFinish_11 : decode cX10_wouldFinish 11 = .ok (.aload_n 0, 1) := by decide +kernel
theorem dX10_wouldFinish_12 : decode cX10_wouldFinish 12 = .ok (.iload_n 1, 1) := by decide +kernel
theorem dX10_wouldFinish_13 : decode cX10_wouldFinish 13 = .ok (.invokevirtual 235, 3) := by decide +kernel
theorem dX10_wouldFinish_16 : decode cX10_wouldFinish 16 = .ok (.ifCond .eq 7, 3) := by decide +kernel
theorem dX10_wouldFinish_19 : decode cX10_wouldFinish 19 = .ok (.iconst 1, 1) := by decide +kernel
theorem dX10_wouldFinish_20 : decode cX10_wouldFinish 20 = .ok (.goto 4, 3) := by decide +kernel
theorem dX10_wouldFinish_23 : decode cX10_wouldFinish 23 = .ok (.iconst 0, 1) := by decide +kernel
theorem dX10_wouldFinish_24 : decode cX10_wouldFinish 24 = .ok (.iconst 1, 1) := by decide +kernel
theorem dX10_wouldFinish_25 : decode cX10_wouldFinish 25 = .ok (.invokevirtual 66, 3) := by decide +kernel
theorem dX10_wouldFinish_28 : decode cX10_wouldFinish 28 = .ok (.ifCond .ne 5, 3) := by decide +kernel
theorem dX10_wouldFinish_31 : decode cX10_wouldFinish 31 = .ok (.iconst 0, 1) := by decide +kernel
theorem dX10_wouldFinish_32 : decode cX10_wouldFinish 32 = .ok (.ireturn, 1) := by decide +kernel
theorem dX10_wouldFinish_33 : decode cX10_wouldFinish 33 = .ok (.aload_n 0, 1) := by decide +kernel
theorem dX10_wouldFinish_34 : decode cX10_wouldFinish 34 = .ok (.invokevirtual 353, 3) := by decide +kernel
theorem dX10_wouldFinish_37 : decode cX10_wouldFinish 37 = .ok (.aload_n 0, 1) := by decide +kernel
theorem dX10_wouldFinish_38 : decode cX10_wouldFinish 38 = .ok (.invokevirtual 356, 3) := by decide +kernel
theorem dX10_wouldFinish_41 : decode cX10_wouldFinish 41 = .ok (.istore_n 2, 1) := by decide +kernel
theorem dX10_wouldFinish_42 : decode cX10_wouldFinish 42 = .ok (.iload_n 1, 1) := by decide +kernel
theorem dX10_wouldFinish_43 : decode cX10_wouldFinish 43 = .ok (.iconst (-1), 1) := by decide +kernel
theorem dX10_wouldFinish_44 : decode cX10_wouldFinish 44 = .ok (.if_icmp .eq 8, 3) := by decide +kernel
theorem dX10_wouldFinish_47 : decode cX10_wouldFinish 47 = .ok (.aload_n 0, 1) := by decide +kernel
theorem dX10_wouldFinish_48 : decode cX10_wouldFinish 48 = .ok (.iload_n 1, 1) := by decide +kernel
theorem dX10_wouldFinish_49 : decode cX10_wouldFinish 49 = .ok (.invokevirtual 344, 3) := by decide +kernel
theorem dX10_wouldFinish_52 : decode cX10_wouldFinish 52 = .ok (.aload_n 0, 1) := by decide +kernel
theorem dX10_wouldFinish_53 : decode cX10_wouldFinish 53 = .ok (.invokevirtual 307, 3) := by decide +kernel
theorem dX10_wouldFinish_56 : decode cX10_wouldFinish 56 = .ok (.istore_n 2, 1) := by decide +kernel
theorem dX10_wouldFinish_57 : decode cX10_wouldFinish 57 = .ok (.aload_n 0, 1) := by decide +kernel
theorem dX10_wouldFinish_58 : decode cX10_wouldFinish 58 = .ok (.invokevirtual 359, 3) := by decide +kernel
theorem dX10_wouldFinish_61 : decode cX10_wouldFinish 61 = .ok (.iload_n 2, 1) := by decide +kernel
theorem dX10_wouldFinish_62 : decode cX10_wouldFinish 62 = .ok (.ireturn, 1) := by decide +kernel
theorem dX10_wouldBe_0 : decode cX10_wouldBe 0 = .ok (.aload_n 0, 1) := by decide +kernel
theorem dX10_wouldBe_1 : decode cX10_wouldBe 1 = .ok (.iconst 0, 1) := by decide +kernel
theorem dX10_wouldBe_2 : decode cX10_wouldBe 2 = .ok (.putfield 60, 3) := by decide +kernel
theorem dX10_wouldBe_5 : decode cX10_wouldBe 5 = .ok (.aload_n 0, 1) := by decide +kernel
theorem dX10_wouldBe_6 : decode cX10_wouldBe 6 = .ok (.aload_n 0, 1) := by decide +kernel
theorem dX10_wouldBe_7 : decode cX10_wouldBe 7 = .ok (.iload_n 1, 1) := by decide +kernel
theorem dX10_wouldBe_8 : decode cX10_wouldBe 8 = .ok (.invokevirtual 227, 3) := by decide +kernel
theorem dX10_wouldBe_11 : decode cX10_wouldBe 11 = .ok (.ifCond .eq 24, 3) := by decide +kernel
theorem dX10_wouldBe_14 : decode cX10_wouldBe 14 = .ok (.iload_n 2, 1) := by decide +kernel
theorem dX10_wouldBe_15 : decode cX10_wouldBe 15 = .ok (.iconst 0, 1) := by decide +kernel
theorem dX10_wouldBe_16 : decode cX10_wouldBe 16 = .ok (.iconst 3, 1) := by decide +kernel
theorem dX10_wouldBe_17 : decode cX10_wouldBe 17 = .ok (.invokestatic 70, 3) := by decide +kernel
theorem dX10_wouldBe_20 : decode cX10_wouldBe 20 = .ok (.ifCond .eq 15, 3) := by decide +kernel
theorem dX10_wouldBe_23 : decode cX10_wouldBe 23 = .ok (.aload_n 0, 1) := by decide +kernel
theorem dX10_wouldBe_24 : decode cX10_wouldBe 24 = .ok (.iload_n 3, 1) := by decide +kernel
theorem dX10_wouldBe_25 : decode cX10_wouldBe 25 = .ok (.invokevirtual 244, 3) := by decide +kernel
theorem dX10_wouldBe_28 : decode cX10_wouldBe 28 = .ok (.ifCond .eq 7, 3) := by decide +kernel
theorem dX10_wouldBe_31 : decode cX10_wouldBe 31 = .ok (.iconst 1, 1) := by decide +kernel
theorem dX10_wouldBe_32 : decode cX10_wouldBe 32 = .ok (.goto 4, 3) := by decide +kernel
theorem dX10_wouldBe_35 : decode cX10_wouldBe 35 = .ok (.iconst 0, 1) := by decide +kernel
theorem dX10_wouldBe_36 : decode cX10_wouldBe 36 = .ok (.iconst 1, 1) := by decide +kernel
theorem dX10_wouldBe_37 : decode cX10_wouldBe 37 = .ok (.invokevirtual 66, 3) := by decide +kernel
theorem dX10_wouldBe_40 : decode cX10_wouldBe 40 = .ok (.ifCond .ne 5, 3) := by decide +kernel
theorem dX10_wouldBe_43 : decode cX10_wouldBe 43 = .ok (.iconst 0, 1) := by decide +kernel
theorem dX10_wouldBe_44 : decode cX10_wouldBe 44 = .ok (.ireturn, 1) := by decide +kernel
theorem dX10_wouldBe_45 : decode cX10_wouldBe 45 = .ok (.aload_n 0, 1) := by decide +kernel
theorem dX10_wouldBe_46 : decode cX10_wouldBe 46 = .ok (.invokevirtual 353, 3) := by decide +kernel
theorem dX10_wouldBe_49 : decode cX10_wouldBe 49 = .ok (.aload_n 0, 1) := by decide +kernel
theorem dX10_wouldBe_50 : decode cX10_wouldBe 50 = .ok (.bipush 16, 2) := by decide +kernel
theorem dX10_wouldBe_52 : decode cX10_wouldBe 52 = .ok (.invokevirtual 350, 3) := by decide +kernel
theorem dX10_wouldBe_55 : decode cX10_wouldBe 55 = .ok (.istore 4, 2) := by decide +kernel
theorem dX10_wouldBe_57 : decode cX10_wouldBe 57 = .ok (.aload_n 0, 1) := by decide +kernel
theorem dX10_wouldBe_58 : decode cX10_wouldBe 58 = .ok (.getfield 9, 3) := by decide +kernel
theorem dX10_wouldBe_61 : decode cX10_wouldBe 61 = .ok (.iload_n 1, 1) := by decide +kernel
theorem dX10_wouldBe_62 : decode cX10_wouldBe 62 = .ok (.iload_n 2, 1) := by decide +kernel
theorem dX10_wouldBe_63 : decode cX10_wouldBe 63 = .ok (.iload_n 3, 1) := by decide +kernel
theorem dX10_wouldBe_64 : decode cX10_wouldBe 64 = .ok (.invokestatic 251, 3) := by decide +kernel
theorem dX10_wouldBe_67 : decode cX10_wouldBe 67 = .ok (.iaload, 1) := by decide +kernel
theorem dX10_wouldBe_68 : decode cX10_wouldBe 68 = .ok (.istore 5, 2) := by decide +kernel
theorem dX10_wouldBe_70 : decode cX10_wouldBe 70 = .ok (.aload_n 0, 1) := by decide +kernel
theorem dX10_wouldBe_71 : decode cX10_wouldBe 71 = .ok (.invokevirtual 359, 3) := by decide +kernel
theorem dX10_wouldBe_74 : decode cX10_wouldBe 74 = .ok (.iload 5, 2) := by decide +kernel
theorem dX10_wouldBe_76 : decode cX10_wouldBe 76 = .ok (.ireturn, 1) := by decide +kernel
theorem dX10_touches_0 : decode cX10_touches 0 = .ok (.aload_n 0, 1) := by decide +kernel
theorem dX10_touches_1 : decode cX10_touches 1 = .ok (.iconst 0, 1) := by decide +kernel
theorem dX10_touches_2 : decode cX10_touches 2 = .ok (.putfield 362, 3) := by decide +kernel
theorem dX10_touches_5 : decode cX10_touches 5 = .ok (.aload_n 0, 1) := by decide +kernel
theorem dX10_touches_6 : decode cX10_touches 6 = .ok (.iconst 0, 1) := by decide +kernel
theorem dX10_touches_7 : decode cX10_touches 7 = .ok (.putfield 365, 3) := by decide +kernel
theorem dX10_touches_10 : decode cX10_touches 10 = .ok (.aload_n 0, 1) := by decide +kernel
theorem dX10_touches_11 : decode cX10_touches 11 = .ok (.iload_n 1, 1) := by decide +kernel
theorem dX10_touches_12 : decode cX10_touches 12 = .ok (.invokevirtual 238, 3) := by decide +kernel
theorem dX10_touches_15 : decode cX10_touches 15 = .ok (.invokestatic 263, 3) := by decide +kernel
theorem dX10_touches_18 : decode cX10_touches 18 = .ok (.iload_n 2, 1) := by decide +kernel
theorem dX10_touches_19 : decode cX10_touches 19 = .ok (.if_icmp .ne 7, 3) := by decide +kernel
theorem dX10_touches_22 : decode cX10_touches 22 = .ok (.iconst 1, 1) := by decide +kernel
theorem dX10_touches_23 : decode cX10_touches 23 = .ok (.goto 4, 3) := by decide +kernel
theorem dX10_touches_26 : decode cX10_touches 26 = .ok (.iconst 0, 1) := by decide +kernel
theorem dX10_touches_27 : decode cX10_touches 27 = .ok (.istore_n 3, 1) := by decide +kernel
theorem dX10_touches_28 : decode cX10_touches 28 = .ok (.aload_n 0, 1) := by decide +kernel
theorem dX10_touches_29 : decode cX10_touches 29 = .ok (.iload_n 1, 1) := by decide +kernel
theorem dX10_touches_30 : decode cX10_touches 30 = .ok (.invokevirtual 230, 3) := by decide +kernel
theorem dX10_touches_33 : decode cX10_touches 33 = .ok (.istore 4, 2) := by decide +kernel
theorem dX10_touches_35 : decode cX10_touches 35 = .ok (.iload 4, 2) := by decide +kernel
theorem dX10_touches_37 : decode cX10_touches 37 = .ok (.aload_n 0, 1) := by decide +kernel
theorem dX10_touches_38 : decode cX10_touches 38 = .ok (.iload_n 1, 1) := by decide +kernel
theorem dX10_touches_39 : decode cX10_touches 39 = .ok (.invokevirtual 266, 3) := by decide +kernel
theorem dX10_touches_42 : decode cX10_touches 42 = .ok (.if_icmp .ge 289, 3) := by decide +kernel
theorem dX10_touches_45 : decode cX10_touches 45 = .ok (.iconst 1, 1) := by decide +kernel
theorem dX10_touches_46 : decode cX10_touches 46 = .ok (.aload_n 0, 1) := by decide +kernel
theorem dX10_touches_47 : decode cX10_touches 47 = .ok (.iload 4, 2) := by decide +kernel
theorem dX10_touches_49 : decode cX10_touches 49 = .ok (.iconst 1, 1) := by decide +kernel
theorem dX10_touches_50 : decode cX10_touches 50 = .ok (.invokevirtual 233, 3) := by decide +kernel
theorem dX10_touches_53 : decode cX10_touches 53 = .ok (.ishl, 1) := by decide +kernel
theorem dX10_touches_54 : decode cX10_touches 54 = .ok (.istore 5, 2) := by decide +kernel
theorem dX10_touches_56 : decode cX10_touches 56 = .ok (.bipush 16, 2) := by decide +kernel
theorem dX10_touches_58 : decode cX10_touches 58 = .ok (.aload_n 0, 1) := by decide +kernel
theorem dX10_touches_59 : decode cX10_touches 59 = .ok (.iload 4, 2) := by decide +kernel
theorem dX10_touches_61 : decode cX10_touches 61 = .ok (.iconst 2, 1) := by decide +kernel
theorem dX10_touches_62 : decode cX10_touches 62 = .ok (.invokevirtual 233, 3) := by decide +kernel
theorem dX10_touches_65 : decode cX10_touches 65 = .ok (.bipush 16, 2) := by decide +kernel
theorem dX10_touches_67 : decode cX10_touches 67 = .ok (.irem, 1) := by decide +kernel
theorem dX10_touches_68 : decode cX10_touches 68 = .ok (.ishl, 1) := by decide +kernel
theorem dX10_touches_69 : decode cX10_touches 69 = .ok (.istore 6, 2) := by decide +kernel
theorem dX10_touches_71 : decode cX10_touches 71 = .ok (.aload_n 0, 1) := by decide +kernel
theorem dX10_touches_72 : decode cX10_touches 72 = .ok (.iload 4, 2) := by decide +kernel
theorem dX10_touches_74 : decode cX10_touches 74 = .ok (.invokevirtual 254, 3) := by decide +kernel
theorem dX10_touches_77 : decode cX10_touches 77 = .ok (.tableswitch 248 0 6 #[43, 68, 93, 107, 174, 149, 207], 43) := by decide +kernel
theorem dX10_touches_120 : decode cX10_touches 120 = .ok (.aload_n 0, 1) := by decide +kernel
theorem dX10_touches_121 : decode cX10_touches 121 = .ok (.dup, 1) := by decide +kernel
theorem dX10_touches_122 : decode cX10_touches 122 = .ok (.getfield 362, 3) := by decide +kernel
theorem dX10_touches_125 : decode cX10_touches 125 = .ok (.iload 6, 2) := by decide +kernel
theorem dX10_touches_127 : decode cX10_touches 127 = .ok (.ior, 1) := by decide +kernel
theorem dX10_touches_128 : decode cX10_touches 128 = .ok (.putfield 362, 3) := by decide +kernel
theorem dX10_touches_131 : decode cX10_touches 131 = .ok (.aload_n 0, 1) := by decide +kernel
theorem dX10_touches_132 : decode cX10_touches 132 = .ok (.dup, 1) := by decide +kernel
theorem dX10_touches_133 : decode cX10_touches 133 = .ok (.getfield 365, 3) := by decide +kernel
theorem dX10_touches_136 : decode cX10_touches 136 = .ok (.iload 5, 2) := by decide +kernel
theorem dX10_touches_138 : decode cX10_touches 138 = .ok (.ior, 1) := by decide +kernel
theorem dX10_touches_139 : decode cX10_touches 139 = .ok (.putfield 365, 3) := by decide +kernel
theorem dX10_touches_142 : decode cX10_touches 142 = .ok (.goto 183, 3) := by decide +kernel
theorem dX10_touches_145 : decode cX10_touches 145 = .ok (.aload_n 0, 1) := by decide +kernel
theorem dX10_touches_146 : decode cX10_touches 146 = .ok (.dup, 1) := by decide +kernel
theorem dX10_touches_147 : decode cX10_touches 147 = .ok (.getfield 362, 3) := by decide +kernel
theorem dX10_touches_150 : decode cX10_touches 150 = .ok (.iload 5, 2) := by decide +kernel
theorem dX10_touches_152 : decode cX10_touches 152 = .ok (.ior, 1) := by decide +kernel
theorem dX10_touches_153 : decode cX10_touches 153 = .ok (.putfield 362, 3) := by decide +kernel
theorem dX10_touches_156 : decode cX10_touches 156 = .ok (.aload_n 0, 1) := by decide +kernel
theorem dX10_touches_157 : decode cX10_touches 157 = .ok (.dup, 1) := by decide +kernel
theorem dX10_touches_158 : decode cX10_touches 158 = .ok (.getfield 365, 3) := by decide +kernel
theorem dX10_touches_161 : decode cX10_touches 161 = .ok (.iload 6, 2) := by decide +kernel
theorem dX10_touches_163 : decode cX10_touches 163 = .ok (.ior, 1) := by decide +kernel
theorem dX10_touches_164 : decode cX10_touches 164 = .ok (.putfield 365, 3) := by decide +kernel
theorem dX10_touches_167 : decode cX10_touches 167 = .ok (.goto 158, 3) := by decide +kernel
theorem dX10_touches_170 : decode cX10_touches 170 = .ok (.aload_n 0, 1) := by decide +kernel
theorem dX10_touches_171 : decode cX10_touches 171 = .ok (.dup, 1) := by decide +kernel
theorem dX10_touches_172 : decode cX10_touches 172 = .ok (.getfield 365, 3) := by decide +kernel
theorem dX10_touches_175 : decode cX10_touches 175 = .ok (.iload 5, 2) := by decide +kernel
theorem dX10_touches_177 : decode cX10_touches 177 = .ok (.ior, 1) := by decide +kernel
theorem dX10_touches_178 : decode cX10_touches 178 = .ok (.putfield 365, 3) := by decide +kernel
theorem dX10_touches_181 : decode cX10_touches 181 = .ok (.goto 144, 3) := by decide +kernel
theorem dX10_touches_184 : decode cX10_touches 184 = .ok (.aload_n 0, 1) := by decide +kernel
theorem dX10_touches_185 : decode cX10_touches 185 = .ok (.dup, 1) := by decide +kernel
theorem dX10_touches_186 : decode cX10_touches 186 = .ok (.getfield 362, 3) := by decide +kernel
theorem dX10_touches_189 : decode cX10_touches 189 = .ok (.iconst 1, 1) := by decide +kernel
theorem dX10_touches_190 : decode cX10_touches 190 = .ok (.aload_n 0, 1) := by decide +kernel
theorem dX10_touches_191 : decode cX10_touches 191 = .ok (.iload 4, 2) := by decide +kernel
theorem dX10_touches_193 : decode cX10_touches 193 = .ok (.iconst 2, 1) := by decide +kernel
theorem dX10_touches_194 : decode cX10_touches 194 = .ok (.invokevirtual 233, 3) := by decide +kernel
theorem dX10_touches_197 : decode cX10_touches 197 = .ok (.ishl, 1) := by decide +kernel
theorem dX10_touches_198 : decode cX10_touches 198 = .ok (.iconst 1, 1) := by decide +kernel
theorem dX10_touches_199 : decode cX10_touches 199 = .ok (.aload_n 0, 1) := by decide +kernel
theorem dX10_touches_200 : decode cX10_touches 200 = .ok (.iload 4, 2) := by decide +kernel
theorem dX10_touches_202 : decode cX10_touches 202 = .ok (.iconst 3, 1) := by decide +kernel
theorem dX10_touches_203 : decode cX10_touches 203 = .ok (.invokevirtual 233, 3) := by decide +kernel
theorem dX10_touches_206 : decode cX10_touches 206 = .ok (.ishl, 1) := by decide +kernel
theorem dX10_touches_207 : decode cX10_touches 207 = .ok (.ior, 1) := by decide +kernel
theorem dX10_touches_208 : decode cX10_touches 208 = .ok (.ior, 1) := by decide +kernel
theorem dX10_touches_209 : decode cX10_touches 209 = .ok (.putfield 362, 3) := by decide +kernel
theorem dX10_touches_212 : decode cX10_touches 212 = .ok (.aload_n 0, 1) := by decide +kernel
theorem dX10_touches_213 : decode cX10_touches 213 = .ok (.dup, 1) := by decide +kernel
theorem dX10_touches_214 : decode cX10_touches 214 = .ok (.getfield 365, 3) := by decide +kernel
theorem dX10_touches_217 : decode cX10_touches 217 = .ok (.iload 5, 2) := by decide +kernel
theorem dX10_touches_219 : decode cX10_touches 219 = .ok (.ior, 1) := by decide +kernel
theorem dX10_touches_220 : decode cX10_touches 220 = .ok (.putfield 365, 3) := by decide +kernel
theorem dX10_touches_223 : decode cX10_touches 223 = .ok (.goto 102, 3) := by decide +kernel
theorem dX10_touches_226 : decode cX10_touches 226 = .ok (.aload_n 0, 1) := by decide +kernel
theorem dX10_touches_227 : decode cX10_touches 227 = .ok (.dup, 1) := by decide +kernel
theorem dX10_touches_228 : decode cX10_touches 228 = .ok (.getfield 362, 3) := by decide +kernel
theorem dX10_touches_231 : decode cX10_touches 231 = .ok (.iload 5, 2) := by decide +kernel
theorem dX10_touches_233 : decode cX10_touches 233 = .ok (.ior, 1) := by decide +kernel
theorem dX10_touches_234 : decode cX10_touches 234 = .ok (.putfield 362, 3) := by decide +kernel
theorem dX10_touches_237 : decode cX10_touches 237 = .ok (.aload_n 0, 1) := by decide +kernel
theorem dX10_touches_238 : decode cX10_touches 238 = .ok (.dup, 1) := by decide +kernel
theorem dX10_touches_239 : decode cX10_touches 239 = .ok (.getfield 365, 3) := by decide +kernel
theorem dX10_touches_242 : decode cX10_touches 242 = .ok (.iload 5, 2) := by decide +kernel
theorem dX10_touches_244 : decode cX10_touches 244 = .ok (.ior, 1) := by decide +kernel
theorem dX10_touches_245 : decode cX10_touches 245 = .ok (.putfield 365, 3) := by decide +kernel
theorem dX10_touches_248 : decode cX10_touches 248 = .ok (.goto 77, 3) := by decide +kernel
theorem dX10_touches_251 : decode cX10_touches 251 = .ok (.aload_n 0, 1) := by decide +kernel
theorem dX10_touches_252 : decode cX10_touches 252 = .ok (.dup, 1) := by decide +kernel
theorem dX10_touches_253 : decode cX10_touches 253 = .ok (.getfield 362, 3) := by decide +kernel
theorem dX10_touches_256 : decode cX10_touches 256 = .ok (.iload 5, 2) := by decide +kernel
theorem dX10_touches_258 : decode cX10_touches 258 = .ok (.ior, 1) := by decide +kernel
theorem dX10_touches_259 : decode cX10_touches 259 = .ok (.putfield 362, 3) := by decide +kernel
theorem dX10_touches_262 : decode cX10_touches 262 = .ok (.aload_n 0, 1) := by decide +kernel
theorem dX10_touches_263 : decode cX10_touches 263 = .ok (.dup, 1) := by decide +kernel
theorem dX10_touches_264 : decode cX10_touches 264 = .ok (.getfield 365, 3) := by decide +kernel
theorem dX10_touches_267 : decode cX10_touches 267 = .ok (.iload_n 3, 1) := by decide +kernel
theorem dX10_touches_268 : decode cX10_touches 268 = .ok (.ifCond .eq 8, 3) := by decide +kernel
theorem dX10_touches_271 : decode cX10_touches 271 = .ok (.iload 5, 2) := by decide +kernel
theorem dX10_touches_273 : decode cX10_touches 273 = .ok (.goto 4, 3) := by decide +kernel
theorem dX10_touches_276 : decode cX10_touches 276 = .ok (.iconst 0, 1) := by decide +kernel
theorem dX10_touches_277 : decode cX10_touches 277 = .ok (.ior, 1) := by decide +kernel
theorem dX10_touches_278 : decode cX10_touches 278 = .ok (.putfield 365, 3) := by decide +kernel
theorem dX10_touches_281 : decode cX10_touches 281 = .ok (.goto 44, 3) := by decide +kernel
theorem dX10_touches_284 : decode cX10_touches 284 = .ok (.aload_n 0, 1) := by decide +kernel
theorem dX10_touches_285 : decode cX10_touches 285 = .ok (.dup, 1) := by decide +kernel
theorem dX10_touches_286 : decode cX10_touches 286 = .ok (.getfield 362, 3) := by decide +kernel
theorem dX10_touches_289 : decode cX10_touches 289 = .ok (.iload_n 3, 1) := by decide +kernel
theorem dX10_touches_290 : decode cX10_touches 290 = .ok (.ifCond .eq 8, 3) := by decide +kernel
theorem dX10_touches_293 : decode cX10_touches 293 = .ok (.iload 5, 2) := by decide +kernel
theorem dX10_touches_295 : decode cX10_touches 295 = .ok (.goto 4, 3) := by decide +kernel
theorem dX10_touches_298 : decode cX10_touches 298 = .ok (.iconst 0, 1) := by decide +kernel
theorem dX10_touches_299 : decode cX10_touches 299 = .ok (.ior, 1) := by decide +kernel
theorem dX10_touches_300 : decode cX10_touches 300 = .ok (.putfield 362, 3) := by decide +kernel
theorem dX10_touches_303 : decode cX10_touches 303 = .ok (.aload_n 0, 1) := by decide +kernel
theorem dX10_touches_304 : decode cX10_touches 304 = .ok (.dup, 1) := by decide +kernel
theorem dX10_touches_305 : decode cX10_touches 305 = .ok (.getfield 365, 3) := by decide +kernel
theorem dX10_touches_308 : decode cX10_touches 308 = .ok (.iload_n 3, 1) := by decide +kernel
theorem dX10_touches_309 : decode cX10_touches 309 = .ok (.ifCond .eq 7, 3) := by decide +kernel
theorem dX10_touches_312 : decode cX10_touches 312 = .ok (.iconst 0, 1) := by decide +kernel
theorem dX10_touches_313 : decode cX10_touches 313 = .ok (.goto 5, 3) := by decide +kernel
theorem dX10_touches_316 : decode cX10_touches 316 = .ok (.iload 5, 2) := by decide +kernel
theorem dX10_touches_318 : decode cX10_touches 318 = .ok (.ior, 1) := by decide +kernel
theorem dX10_touches_319 : decode cX10_touches 319 = .ok (.putfield 365, 3) := by decide +kernel
theorem dX10_touches_322 : decode cX10_touches 322 = .ok (.goto 3, 3) := by decide +kernel
theorem dX10_touches_325 : decode cX10_touches 325 = .ok (.iinc 4 1, 3) := by decide +kernel
theorem dX10_touches_328 : decode cX10_touches 328 = .ok (.goto (-293), 3) := by decide +kernel
theorem dX10_touches_331 : decode cX10_touches 331 = .ok (.return_, 1) := by decide +kernel
theorem dX10_meets_0 : decode cX10_meets 0 = .ok (.iconst 0, 1) := by decide +kernel
theorem dX10_meets_1 : decode cX10_meets 1 = .ok (.istore_n 3, 1) := by decide +kernel
theorem dX10_meets_2 : decode cX10_meets 2 = .ok (.iload_n 3, 1) := by decide +kernel
theorem dX10_meets_3 : decode cX10_meets 3 = .ok (.aload_n 0, 1) := by decide +kernel
theorem dX10_meets_4 : decode cX10_meets 4 = .ok (.getfield 23, 3) := by decide +kernel
theorem dX10_meets_7 : decode cX10_meets 7 = .ok (.iconst 0, 1) := by decide +kernel
theorem dX10_meets_8 : decode cX10_meets 8 = .ok (.iaload, 1) := by decide +kernel
theorem dX10_meets_9 : decode cX10_meets 9 = .ok (.if_icmp .ge 87, 3) := by decide +kernel
theorem dX10_meets_12 : decode cX10_meets 12 = .ok (.aload_n 0, 1) := by decide +kernel
theorem dX10_meets_13 : decode cX10_meets 13 = .ok (.iload_n 1, 1) := by decide +kernel
theorem dX10_meets_14 : decode cX10_meets 14 = .ok (.invokevirtual 238, 3) := by decide +kernel
theorem dX10_meets_17 : decode cX10_meets 17 = .ok (.iload_n 3, 1) := by decide +kernel
theorem dX10_meets_18 : decode cX10_meets 18 = .ok (.invokestatic 169, 3) := by decide +kernel
theorem dX10_meets_21 : decode cX10_meets 21 = .ok (.ifCond .eq 69, 3) := by decide +kernel
theorem dX10_meets_24 : decode cX10_meets 24 = .ok (.aload_n 0, 1) := by decide +kernel
theorem dX10_meets_25 : decode cX10_meets 25 = .ok (.iload_n 2, 1) := by decide +kernel
theorem dX10_meets_26 : decode cX10_meets 26 = .ok (.invokevirtual 238, 3) := by decide +kernel
theorem dX10_meets_29 : decode cX10_meets 29 = .ok (.iload_n 3, 1) := by decide +kernel
theorem dX10_meets_30 : decode cX10_meets 30 = .ok (.invokestatic 169, 3) := by decide +kernel
theorem dX10_meets_33 : decode cX10_meets 33 = .ok (.ifCond .ne 6, 3) := by decide +kernel
theorem dX10_meets_36 : decode cX10_meets 36 = .ok (.goto 54, 3) := by decide +kernel
theorem dX10_meets_39 : decode cX10_meets 39 = .ok (.aload_n 0, 1) := by decide +kernel
theorem dX10_meets_40 : decode cX10_meets 40 = .ok (.iload_n 1, 1) := by decide +kernel
theorem dX10_meets_41 : decode cX10_meets 41 = .ok (.iload_n 3, 1) := by decide +kernel
theorem dX10_meets_42 : decode cX10_meets 42 = .ok (.invokevirtual 368, 3) := by decide +kernel
theorem dX10_meets_45 : decode cX10_meets 45 = .ok (.aload_n 0, 1) := by decide +kernel
theorem dX10_meets_46 : decode cX10_meets 46 = .ok (.getfield 362, 3) := by decide +kernel
theorem dX10_meets_49 : decode cX10_meets 49 = .ok (.istore 4, 2) := by decide +kernel
theorem dX10_meets_51 : decode cX10_meets 51 = .ok (.aload_n 0, 1) := by decide +kernel
theorem dX10_meets_52 : decode cX10_meets 52 = .ok (.getfield 365, 3) := by decide +kernel
theorem dX10_meets_55 : decode cX10_meets 55 = .ok (.istore 5, 2) := by decide +kernel
theorem dX10_meets_57 : decode cX10_meets 57 = .ok (.aload_n 0, 1) := by decide +kernel
theorem dX10_meets_58 : decode cX10_meets 58 = .ok (.iload_n 2, 1) := by decide +kernel
theorem dX10_meets_59 : decode cX10_meets 59 = .ok (.iload_n 3, 1) := by decide +kernel
theorem dX10_meets_60 : decode cX10_meets 60 = .ok (.invokevirtual 368, 3) := by decide +kernel
theorem dX10_meets_63 : decode cX10_meets 63 = .ok (.iload 5, 2) := by decide +kernel
theorem dX10_meets_65 : decode cX10_meets 65 = .ok (.aload_n 0, 1) := by decide +kernel
theorem dX10_meets_66 : decode cX10_meets 66 = .ok (.getfield 362, 3) := by decide +kernel
theorem dX10_meets_69 : decode cX10_meets 69 = .ok (.aload_n 0, 1) := by decide +kernel
theorem dX10_meets_70 : decode cX10_meets 70 = .ok (.getfield 365, 3) := by decide +kernel
theorem dX10_meets_73 : decode cX10_meets 73 = .ok (.ior, 1) := by decide +kernel
theorem dX10_meets_74 : decode cX10_meets 74 = .ok (.iand, 1) := by decide +kernel
theorem dX10_meets_75 : decode cX10_meets 75 = .ok (.ifCond .ne 13, 3) := by decide +kernel
theorem dX10_meets_78 : decode cX10_meets 78 = .ok (.aload_n 0, 1) := by decide +kernel
theorem dX10_meets_79 : decode cX10_meets 79 = .ok (.getfield 365, 3) := by decide +kernel
theorem dX10_meets_82 : decode cX10_meets 82 = .ok (.iload 4, 2) := by decide +kernel
theorem dX10_meets_84 : decode cX10_meets 84 = .ok (.iand, 1) := by decide +kernel
theorem dX10_meets_85 : decode cX10_meets 85 = .ok (.ifCond .eq 5, 3) := by decide +kernel
theorem dX10_meets_88 : decode cX10_meets 88 = .ok (.iconst 1, 1) := by decide +kernel
theorem dX10_meets_89 : decode cX10_meets 89 = .ok (.ireturn, 1) := by decide +kernel
theorem dX10_meets_90 : decode cX10_meets 90 = .ok (.iinc 3 1, 3) := by decide +kernel
theorem dX10_meets_93 : decode cX10_meets 93 = .ok (.goto (-91), 3) := by decide +kernel
theorem dX10_meets_96 : decode cX10_meets 96 = .ok (.iconst 0, 1) := by decide +kernel
theorem dX10_meets_97 : decode cX10_meets 97 = .ok (.ireturn, 1) := by decide +kernel
theorem dX10_isConflict_0 : decode cX10_isConflict 0 = .ok (.aload_n 0, 1) := by decide +kernel
theorem dX10_isConflict_1 : decode cX10_isConflict 1 = .ok (.iconst 0, 1) := by decide +kernel
theorem dX10_isConflict_2 : decode cX10_isConflict 2 = .ok (.putfield 60, 3) := by decide +kernel
theorem dX10_isConflict_5 : decode cX10_isConflict 5 = .ok (.aload_n 0, 1) := by decide +kernel
theorem dX10_isConflict_6 : decode cX10_isConflict 6 = .ok (.aload_n 0, 1) := by decide +kernel
theorem dX10_isConflict_7 : decode cX10_isConflict 7 = .ok (.iload_n 1, 1) := by decide +kernel
theorem dX10_isConflict_8 : decode cX10_isConflict 8 = .ok (.invokevirtual 235, 3) := by decide +kernel
theorem dX10_isConflict_11 : decode cX10_isConflict 11 = .ok (.ifCond .eq 15, 3) := by decide +kernel
theorem dX10_isConflict_14 : decode cX10_isConflict 14 = .ok (.aload_n 0, 1) := by decide +kernel
theorem dX10_isConflict_15 : decode cX10_isConflict 15 = .ok (.iload_n 2, 1) := by decide +kernel
theorem dX10_isConflict_16 : decode cX10_isConflict 16 = .ok (.invokevirtual 235, 3) := by decide +kernel
theorem dX10_isConflict_19 : decode cX10_isConflict 19 = .ok (.ifCond .eq 7, 3) := by decide +kernel
theorem dX10_isConflict_22 : decode cX10_isConflict 22 = .ok (.iconst 1, 1) := by decide +kernel
theorem dX10_isConflict_23 : decode cX10_isConflict 23 = .ok (.goto 4, 3) := by decide +kernel
theorem dX10_isConflict_26 : decode cX10_isConflict 26 = .ok (.iconst 0, 1) := by decide +kernel
theorem dX10_isConflict_27 : decode cX10_isConflict 27 = .ok (.iconst 1, 1) := by decide +kernel
theorem dX10_isConflict_28 : decode cX10_isConflict 28 = .ok (.invokevirtual 66, 3) := by decide +kernel
theorem dX10_isConflict_31 : decode cX10_isConflict 31 = .ok (.ifCond .eq 16, 3) := by decide +kernel
theorem dX10_isConflict_34 : decode cX10_isConflict 34 = .ok (.aload_n 0, 1) := by decide +kernel
theorem dX10_isConflict_35 : decode cX10_isConflict 35 = .ok (.iload_n 1, 1) := by decide +kernel
theorem dX10_isConflict_36 : decode cX10_isConflict 36 = .ok (.iload_n 2, 1) := by decide +kernel
theorem dX10_isConflict_37 : decode cX10_isConflict 37 = .ok (.invokevirtual 371, 3) := by decide +kernel
theorem dX10_isConflict_40 : decode cX10_isConflict 40 = .ok (.ifCond .eq 7, 3) := by decide +kernel
theorem dX10_isConflict_43 : decode cX10_isConflict 43 = .ok (.iconst 1, 1) := by decide +kernel
theorem dX10_isConflict_44 : decode cX10_isConflict 44 = .ok (.goto 4, 3) := by decide +kernel
theorem dX10_isConflict_47 : decode cX10_isConflict 47 = .ok (.iconst 0, 1) := by decide +kernel
theorem dX10_isConflict_48 : decode cX10_isConflict 48 = .ok (.ireturn, 1) := by decide +kernel
theorem dX10_longestChain_0 : decode cX10_longestChain 0 = .ok (.aload_n 0, 1) := by decide +kernel
theorem dX10_longestChain_1 : decode cX10_longestChain 1 = .ok (.iconst 0, 1) := by decide +kernel
theorem dX10_longestChain_2 : decode cX10_longestChain 2 = .ok (.putfield 60, 3) := by decide +kernel
theorem dX10_longestChain_5 : decode cX10_longestChain 5 = .ok (.iconst 0, 1) := by decide +kernel
theorem dX10_longestChain_6 : decode cX10_longestChain 6 = .ok (.istore_n 1, 1) := by decide +kernel
theorem dX10_longestChain_7 : decode cX10_longestChain 7 = .ok (.iconst 0, 1) := by decide +kernel
theorem dX10_longestChain_8 : decode cX10_longestChain 8 = .ok (.istore_n 2, 1) := by decide +kernel
theorem dX10_longestChain_9 : decode cX10_longestChain 9 = .ok (.iload_n 2, 1) := by decide +kernel
theorem dX10_longestChain_10 : decode cX10_longestChain 10 = .ok (.aload_n 0, 1) := by decide +kernel
theorem dX10_longestChain_11 : decode cX10_longestChain 11 = .ok (.getfield 9, 3) := by decide +kernel
theorem dX10_longestChain_14 : decode cX10_longestChain 14 = .ok (.sipush 1440, 3) := by decide +kernel
theorem dX10_longestChain_17 : decode cX10_longestChain 17 = .ok (.iaload, 1) := by decide +kernel
theorem dX10_longestChain_18 : decode cX10_longestChain 18 = .ok (.if_icmp .ge 96, 3) := by decide +kernel
theorem dX10_longestChain_21 : decode cX10_longestChain 21 = .ok (.aload_n 0, 1) := by decide +kernel
theorem dX10_longestChain_22 : decode cX10_longestChain 22 = .ok (.getfield 39, 3) := by decide +kernel
theorem dX10_longestChain_25 : decode cX10_longestChain 25 = .ok (.iload_n 2, 1) := by decide +kernel
theorem dX10_longestChain_26 : decode cX10_longestChain 26 = .ok (.iconst 1, 1) := by decide +kernel
theorem dX10_longestChain_27 : decode cX10_longestChain 27 = .ok (.iastore, 1) := by decide +kernel
theorem dX10_longestChain_28 : decode cX10_longestChain 28 = .ok (.iconst 0, 1) := by decide +kernel
theorem dX10_longestChain_29 : decode cX10_longestChain 29 = .ok (.istore_n 3, 1) := by decide +kernel
theorem dX10_longestChain_30 : decode cX10_longestChain 30 = .ok (.iload_n 3, 1) := by decide +kernel
theorem dX10_longestChain_31 : decode cX10_longestChain 31 = .ok (.iload_n 2, 1) := by decide +kernel
theorem dX10_longestChain_32 : decode cX10_longestChain 32 = .ok (.if_icmp .ge 65, 3) := by decide +kernel
theorem dX10_longestChain_35 : decode cX10_longestChain 35 = .ok (.aload_n 0, 1) := by decide +kernel
theorem dX10_longestChain_36 : decode cX10_longestChain 36 = .ok (.getfield 39, 3) := by decide +kernel
theorem dX10_longestChain_39 : decode cX10_longestChain 39 = .ok (.iload_n 3, 1) := by decide +kernel
theorem dX10_longestChain_40 : decode cX10_longestChain 40 = .ok (.iaload, 1) := by decide +kernel
theorem dX10_longestChain_41 : decode cX10_longestChain 41 = .ok (.aload_n 0, 1) := by decide +kernel
theorem dX10_longestChain_42 : decode cX10_longestChain 42 = .ok (.getfield 39, 3) := by decide +kernel
theorem dX10_longestChain_45 : decode cX10_longestChain 45 = .ok (.iload_n 2, 1) := by decide +kernel
theorem dX10_longestChain_46 : decode cX10_longestChain 46 = .ok (.iaload, 1) := by decide +kernel
theorem dX10_longestChain_47 : decode cX10_longestChain 47 = .ok (.if_icmp .lt 44, 3) := by decide +kernel
theorem dX10_longestChain_50 : decode cX10_longestChain 50 = .ok (.aload_n 0, 1) := by decide +kernel
theorem dX10_longestChain_51 : decode cX10_longestChain 51 = .ok (.aload_n 0, 1) := by decide +kernel
theorem dX10_longestChain_52 : decode cX10_longestChain 52 = .ok (.getfield 9, 3) := by decide +kernel
theorem dX10_longestChain_55 : decode cX10_longestChain 55 = .ok (.sipush 1441, 3) := by decide +kernel
theorem dX10_longestChain_58 : decode cX10_longestChain 58 = .ok (.iload_n 3, 1) := by decide +kernel
theorem dX10_longestChain_59 : decode cX10_longestChain 59 = .ok (.iadd, 1) := by decide +kernel
theorem dX10_longestChain_60 : decode cX10_longestChain 60 = .ok (.iaload, 1) := by decide +kernel
theorem dX10_longestChain_61 : decode cX10_longestChain 61 = .ok (.aload_n 0, 1) := by decide +kernel
theorem dX10_longestChain_62 : decode cX10_longestChain 62 = .ok (.getfield 9, 3) := by decide +kernel
theorem dX10_longestChain_65 : decode cX10_longestChain 65 = .ok (.sipush 1441, 3) := by decide +kernel
theorem dX10_longestChain_68 : decode cX10_longestChain 68 = .ok (.iload_n 2, 1) := by decide +kernel
theorem dX10_longestChain_69 : decode cX10_longestChain 69 = .ok (.iadd, 1) := by decide +kernel
theorem dX10_longestChain_70 : decode cX10_longestChain 70 = .ok (.iaload, 1) := by decide +kernel
theorem dX10_longestChain_71 : decode cX10_longestChain 71 = .ok (.invokevirtual 371, 3) := by decide +kernel
theorem dX10_longestChain_74 : decode cX10_longestChain 74 = .ok (.ifCond .eq 17, 3) := by decide +kernel
theorem dX10_longestChain_77 : decode cX10_longestChain 77 = .ok (.aload_n 0, 1) := by decide +kernel
theorem dX10_longestChain_78 : decode cX10_longestChain 78 = .ok (.getfield 39, 3) := by decide +kernel
theorem dX10_longestChain_81 : decode cX10_longestChain 81 = .ok (.iload_n 2, 1) := by decide +kernel
theorem dX10_longestChain_82 : decode cX10_longestChain 82 = .ok (.aload_n 0, 1) := by decide +kernel
theorem dX10_longestChain_83 : decode cX10_longestChain 83 = .ok (.getfield 39, 3) := by decide +kernel
theorem dX10_longestChain_86 : decode cX10_longestChain 86 = .ok (.iload_n 3, 1) := by decide +kernel
theorem dX10_longestChain_87 : decode cX10_longestChain 87 = .ok (.iaload, 1) := by decide +kernel
theorem dX10_longestChain_88 : decode cX10_longestChain 88 = .ok (.iconst 1, 1) := by decide +kernel
theorem dX10_longestChain_89 : decode cX10_longestChain 89 = .ok (.iadd, 1) := by decide +kernel
theorem dX10_longestChain_90 : decode cX10_longestChain 90 = .ok (.iastore, 1) := by decide +kernel
theorem dX10_longestChain_91 : decode cX10_longestChain 91 = .ok (.iinc 3 1, 3) := by decide +kernel
theorem dX10_longestChain_94 : decode cX10_longestChain 94 = .ok (.goto (-64), 3) := by decide +kernel
theorem dX10_longestChain_97 : decode cX10_longestChain 97 = .ok (.iload_n 1, 1) := by decide +kernel
theorem dX10_longestChain_98 : decode cX10_longestChain 98 = .ok (.aload_n 0, 1) := by decide +kernel
theorem dX10_longestChain_99 : decode cX10_longestChain 99 = .ok (.getfield 39, 3) := by decide +kernel
theorem dX10_longestChain_102 : decode cX10_longestChain 102 = .ok (.iload_n 2, 1) := by decide +kernel
theorem dX10_longestChain_103 : decode cX10_longestChain 103 = .ok (.iaload, 1) := by decide +kernel
theorem dX10_longestChain_104 : decode cX10_longestChain 104 = .ok (.invokestatic 279, 3) := by decide +kernel
theorem dX10_longestChain_107 : decode cX10_longestChain 107 = .ok (.istore_n 1, 1) := by decide +kernel
theorem dX10_longestChain_108 : decode cX10_longestChain 108 = .ok (.iinc 2 1, 3) := by decide +kernel
theorem dX10_longestChain_111 : decode cX10_longestChain 111 = .ok (.goto (-102), 3) := by decide +kernel
theorem dX10_longestChain_114 : decode cX10_longestChain 114 = .ok (.iload_n 1, 1) := by decide +kernel
theorem dX10_longestChain_115 : decode cX10_longestChain 115 = .ok (.ireturn, 1) := by decide +kernel
theorem dX10_tries_0 : decode cX10_tries 0 = .ok (.iload_n 1, 1) := by decide +kernel
theorem dX10_tries_1 : decode cX10_tries 1 = .ok (.aload_n 0, 1) := by decide +kernel
theorem dX10_tries_2 : decode cX10_tries 2 = .ok (.getfield 9, 3) := by decide +kernel
theorem dX10_tries_5 : decode cX10_tries 5 = .ok (.sipush 1440, 3) := by decide +kernel
theorem dX10_tries_8 : decode cX10_tries 8 = .ok (.iaload, 1) := by decide +kernel
theorem dX10_tries_9 : decode cX10_tries 9 = .ok (.if_icmp .ne 60, 3) := by decide +kernel
theorem dX10_tries_12 : decode cX10_tries 12 = .ok (.aload_n 0, 1) := by decide +kernel
theorem dX10_tries_13 : decode cX10_tries 13 = .ok (.invokevirtual 307, 3) := by decide +kernel
theorem dX10_tries_16 : decode cX10_tries 16 = .ok (.istore_n 3, 1) := by decide +kernel
theorem dX10_tries_17 : decode cX10_tries 17 = .ok (.aload_n 0, 1) := by decide +kernel
theorem dX10_tries_18 : decode cX10_tries 18 = .ok (.getfield 374, 3) := by decide +kernel
theorem dX10_tries_21 : decode cX10_tries 21 = .ok (.iconst (-1), 1) := by decide +kernel
theorem dX10_tries_22 : decode cX10_tries 22 = .ok (.if_icmp .eq 12, 3) := by decide +kernel
theorem dX10_tries_25 : decode cX10_tries 25 = .ok (.iload_n 3, 1) := by decide +kernel
theorem dX10_tries_26 : decode cX10_tries 26 = .ok (.aload_n 0, 1) := by decide +kernel
theorem dX10_tries_27 : decode cX10_tries 27 = .ok (.getfield 374, 3) := by decide +kernel
theorem dX10_tries_30 : decode cX10_tries 30 = .ok (.if_icmp .lt 4, 3) := by decide +kernel
theorem dX10_tries_33 : decode cX10_tries 33 = .ok (.return_, 1) := by decide +kernel
theorem dX10_tries_34 : decode cX10_tries 34 = .ok (.aload_n 0, 1) := by decide +kernel
theorem dX10_tries_35 : decode cX10_tries 35 = .ok (.iload_n 3, 1) := by decide +kernel
theorem dX10_tries_36 : decode cX10_tries 36 = .ok (.putfield 374, 3) := by decide +kernel
theorem dX10_tries_39 : decode cX10_tries 39 = .ok (.iconst 0, 1) := by decide +kernel
theorem dX10_tries_40 : decode cX10_tries 40 = .ok (.istore 4, 2) := by decide +kernel
theorem dX10_tries_42 : decode cX10_tries 42 = .ok (.iload 4, 2) := by decide +kernel
theorem dX10_tries_44 : decode cX10_tries 44 = .ok (.iload_n 1, 1) := by decide +kernel
theorem dX10_tries_45 : decode cX10_tries 45 = .ok (.if_icmp .ge 23, 3) := by decide +kernel
theorem dX10_tries_48 : decode cX10_tries 48 = .ok (.aload_n 0, 1) := by decide +kernel
theorem dX10_tries_49 : decode cX10_tries 49 = .ok (.getfield 45, 3) := by decide +kernel
theorem dX10_tries_52 : decode cX10_tries 52 = .ok (.iload 4, 2) := by decide +kernel
theorem dX10_tries_54 : decode cX10_tries 54 = .ok (.aload_n 0, 1) := by decide +kernel
theorem dX10_tries_55 : decode cX10_tries 55 = .ok (.getfield 42, 3) := by decide +kernel
theorem dX10_tries_58 : decode cX10_tries 58 = .ok (.iload 4, 2) := by decide +kernel
theorem dX10_tries_60 : decode cX10_tries 60 = .ok (.iaload, 1) := by decide +kernel
theorem dX10_tries_61 : decode cX10_tries 61 = .ok (.iastore, 1) := by decide +kernel
theorem dX10_tries_62 : decode cX10_tries 62 = .ok (.iinc 4 1, 3) := by decide +kernel
theorem dX10_tries_65 : decode cX10_tries 65 = .ok (.goto (-23), 3) := by decide +kernel
theorem dX10_tries_68 : decode cX10_tries 68 = .ok (.return_, 1) := by decide +kernel
theorem dX10_tries_69 : decode cX10_tries 69 = .ok (.iconst 0, 1) := by decide +kernel
theorem dX10_tries_70 : decode cX10_tries 70 = .ok (.istore_n 3, 1) := by decide +kernel
theorem dX10_tries_71 : decode cX10_tries 71 = .ok (.iload_n 3, 1) := by decide +kernel
theorem dX10_tries_72 : decode cX10_tries 72 = .ok (.sipush 160, 3) := by decide +kernel
theorem dX10_tries_75 : decode cX10_tries 75 = .ok (.if_icmp .ge 27, 3) := by decide +kernel
theorem dX10_tries_78 : decode cX10_tries 78 = .ok (.aload_n 0, 1) := by decide +kernel
theorem dX10_tries_79 : decode cX10_tries 79 = .ok (.getfield 48, 3) := by decide +kernel
theorem dX10_tries_82 : decode cX10_tries 82 = .ok (.sipush 160, 3) := by decide +kernel
theorem dX10_tries_85 : decode cX10_tries 85 = .ok (.iload_n 1, 1) := by decide +kernel
theorem dX10_tries_86 : decode cX10_tries 86 = .ok (.imul, 1) := by decide +kernel
theorem dX10_tries_87 : decode cX10_tries 87 = .ok (.iload_n 3, 1) := by decide +kernel
theorem dX10_tries_88 : decode cX10_tries 88 = .ok (.iadd, 1) := by decide +kernel
theorem dX10_tries_89 : decode cX10_tries 89 = .ok (.aload_n 0, 1) := by decide +kernel
theorem dX10_tries_90 : decode cX10_tries 90 = .ok (.getfield 9, 3) := by decide +kernel
theorem dX10_tries_93 : decode cX10_tries 93 = .ok (.iload_n 3, 1) := by decide +kernel
theorem dX10_tries_94 : decode cX10_tries 94 = .ok (.iaload, 1) := by decide +kernel
theorem dX10_tries_95 : decode cX10_tries 95 = .ok (.iastore, 1) := by decide +kernel
theorem dX10_tries_96 : decode cX10_tries 96 = .ok (.iinc 3 1, 3) := by decide +kernel
theorem dX10_tries_99 : decode cX10_tries 99 = .ok (.goto (-28), 3) := by decide +kernel
theorem dX10_tries_102 : decode cX10_tries 102 = .ok (.iconst 0, 1) := by decide +kernel
theorem dX10_tries_103 : decode cX10_tries 103 = .ok (.istore_n 3, 1) := by decide +kernel
theorem dX10_tries_104 : decode cX10_tries 104 = .ok (.iload_n 3, 1) := by decide +kernel
theorem dX10_tries_105 : decode cX10_tries 105 = .ok (.aload_n 0, 1) := by decide +kernel
theorem dX10_tries_106 : decode cX10_tries 106 = .ok (.getfield 9, 3) := by decide +kernel
theorem dX10_tries_109 : decode cX10_tries 109 = .ok (.sipush 1440, 3) := by decide +kernel
theorem dX10_tries_112 : decode cX10_tries 112 = .ok (.iaload, 1) := by decide +kernel
theorem dX10_tries_113 : decode cX10_tries 113 = .ok (.if_icmp .ge 103, 3) := by decide +kernel
theorem dX10_tries_116 : decode cX10_tries 116 = .ok (.iload_n 2, 1) := by decide +kernel
theorem dX10_tries_117 : decode cX10_tries 117 = .ok (.iload_n 3, 1) := by decide +kernel
theorem dX10_tries_118 : decode cX10_tries 118 = .ok (.invokestatic 169, 3) := by decide +kernel
theorem dX10_tries_121 : decode cX10_tries 121 = .ok (.ifCond .ne 89, 3) := by decide +kernel
theorem dX10_tries_124 : decode cX10_tries 124 = .ok (.aload_n 0, 1) := by decide +kernel
theorem dX10_tries_125 : decode cX10_tries 125 = .ok (.getfield 51, 3) := by decide +kernel
theorem dX10_tries_128 : decode cX10_tries 128 = .ok (.iload_n 3, 1) := by decide +kernel
theorem dX10_tries_129 : decode cX10_tries 129 = .ok (.iaload, 1) := by decide +kernel
theorem dX10_tries_130 : decode cX10_tries 130 = .ok (.iload_n 2, 1) := by decide +kernel
theorem dX10_tries_131 : decode cX10_tries 131 = .ok (.iconst (-1), 1) := by decide +kernel
theorem dX10_tries_132 : decode cX10_tries 132 = .ok (.ixor, 1) := by decide +kernel
theorem dX10_tries_133 : decode cX10_tries 133 = .ok (.iand, 1) := by decide +kernel
theorem dX10_tries_134 : decode cX10_tries 134 = .ok (.ifCond .eq 6, 3) := by decide +kernel
theorem dX10_tries_137 : decode cX10_tries 137 = .ok (.goto 73, 3) := by decide +kernel
theorem dX10_tries_140 : decode cX10_tries 140 = .ok (.aload_n 0, 1) := by decide +kernel
theorem dX10_tries_141 : decode cX10_tries 141 = .ok (.getfield 42, 3) := by decide +kernel
theorem dX10_tries_144 : decode cX10_tries 144 = .ok (.iload_n 1, 1) := by decide +kernel
theorem dX10_tries_145 : decode cX10_tries 145 = .ok (.iload_n 3, 1) := by decide +kernel
theorem dX10_tries_146 : decode cX10_tries 146 = .ok (.iastore, 1) := by decide +kernel
theorem dX10_tries_147 : decode cX10_tries 147 = .ok (.aload_n 0, 1) := by decide +kernel
theorem dX10_tries_148 : decode cX10_tries 148 = .ok (.aload_n 0, 1) := by decide +kernel
theorem dX10_tries_149 : decode cX10_tries 149 = .ok (.getfield 9, 3) := by decide +kernel
theorem dX10_tries_152 : decode cX10_tries 152 = .ok (.sipush 1441, 3) := by decide +kernel
theorem dX10_tries_155 : decode cX10_tries 155 = .ok (.iload_n 3, 1) := by decide +kernel
theorem dX10_tries_156 : decode cX10_tries 156 = .ok (.iadd, 1) := by decide +kernel
theorem dX10_tries_157 : decode cX10_tries 157 = .ok (.iaload, 1) := by decide +kernel
theorem dX10_tries_158 : decode cX10_tries 158 = .ok (.invokevirtual 344, 3) := by decide +kernel
theorem dX10_tries_161 : decode cX10_tries 161 = .ok (.aload_n 0, 1) := by decide +kernel
theorem dX10_tries_162 : decode cX10_tries 162 = .ok (.iload_n 1, 1) := by decide +kernel
theorem dX10_tries_163 : decode cX10_tries 163 = .ok (.iconst 1, 1) := by decide +kernel
theorem dX10_tries_164 : decode cX10_tries 164 = .ok (.iadd, 1) := by decide +kernel
theorem dX10_tries_165 : decode cX10_tries 165 = .ok (.iload_n 2, 1) := by decide +kernel
theorem dX10_tries_166 : decode cX10_tries 166 = .ok (.iconst 1, 1) := by decide +kernel
theorem dX10_tries_167 : decode cX10_tries 167 = .ok (.iload_n 3, 1) := by decide +kernel
theorem dX10_tries_168 : decode cX10_tries 168 = .ok (.ishl, 1) := by decide +kernel
theorem dX10_tries_169 : decode cX10_tries 169 = .ok (.ior, 1) := by decide +kernel
theorem dX10_tries_170 : decode cX10_tries 170 = .ok (.invokevirtual 377, 3) := by decide +kernel
theorem dX10_tries_173 : decode cX10_tries 173 = .ok (.iconst 0, 1) := by decide +kernel
theorem dX10_tries_174 : decode cX10_tries 174 = .ok (.istore 4, 2) := by decide +kernel
theorem dX10_tries_176 : decode cX10_tries 176 = .ok (.iload 4, 2) := by decide +kernel
theorem dX10_tries_178 : decode cX10_tries 178 = .ok (.sipush 160, 3) := by decide +kernel
theorem dX10_tries_181 : decode cX10_tries 181 = .ok (.if_icmp .ge 29, 3) := by decide +kernel
theorem dX10_tries_184 : decode cX10_tries 184 = .ok (.aload_n 0, 1) := by decide +kernel
theorem dX10_tries_185 : decode cX10_tries 185 = .ok (.getfield 9, 3) := by decide +kernel
theorem dX10_tries_188 : decode cX10_tries 188 = .ok (.iload 4, 2) := by decide +kernel
theorem dX10_tries_190 : decode cX10_tries 190 = .ok (.aload_n 0, 1) := by decide +kernel
theorem dX10_tries_191 : decode cX10_tries 191 = .ok (.getfield 48, 3) := by decide +kernel
theorem dX10_tries_194 : decode cX10_tries 194 = .ok (.sipush 160, 3) := by decide +kernel
theorem dX10_tries_197 : decode cX10_tries 197 = .ok (.iload_n 1, 1) := by decide +kernel
theorem dX10_tries_198 : decode cX10_tries 198 = .ok (.imul, 1) := by decide +kernel
theorem dX10_tries_199 : decode cX10_tries 199 = .ok (.iload 4, 2) := by decide +kernel
theorem dX10_tries_201 : decode cX10_tries 201 = .ok (.iadd, 1) := by decide +kernel
theorem dX10_tries_202 : decode cX10_tries 202 = .ok (.iaload, 1) := by decide +kernel
theorem dX10_tries_203 : decode cX10_tries 203 = .ok (.iastore, 1) := by decide +kernel
theorem dX10_tries_204 : decode cX10_tries 204 = .ok (.iinc 4 1, 3) := by decide +kernel
theorem dX10_tries_207 : decode cX10_tries 207 = .ok (.goto (-31), 3) := by decide +kernel
theorem dX10_tries_210 : decode cX10_tries 210 = .ok (.iinc 3 1, 3) := by decide +kernel
theorem dX10_tries_213 : decode cX10_tries 213 = .ok (.goto (-109), 3) := by decide +kernel
theorem dX10_tries_216 : decode cX10_tries 216 = .ok (.return_, 1) := by decide +kernel
theorem dX10_finds_0 : decode cX10_finds 0 = .ok (.iconst 0, 1) := by decide +kernel
theorem dX10_finds_1 : decode cX10_finds 1 = .ok (.istore_n 1, 1) := by decide +kernel
theorem dX10_finds_2 : decode cX10_finds 2 = .ok (.iload_n 1, 1) := by decide +kernel
theorem dX10_finds_3 : decode cX10_finds 3 = .ok (.aload_n 0, 1) := by decide +kernel
theorem dX10_finds_4 : decode cX10_finds 4 = .ok (.getfield 9, 3) := by decide +kernel
theorem dX10_finds_7 : decode cX10_finds 7 = .ok (.sipush 1440, 3) := by decide +kernel
theorem dX10_finds_10 : decode cX10_finds 10 = .ok (.iaload, 1) := by decide +kernel
theorem dX10_finds_11 : decode cX10_finds 11 = .ok (.if_icmp .ge 72, 3) := by decide +kernel
theorem dX10_finds_14 : decode cX10_finds 14 = .ok (.aload_n 0, 1) := by decide +kernel
theorem dX10_finds_15 : decode cX10_finds 15 = .ok (.getfield 51, 3) := by decide +kernel
theorem dX10_finds_18 : decode cX10_finds 18 = .ok (.iload_n 1, 1) := by decide +kernel
theorem dX10_finds_19 : decode cX10_finds 19 = .ok (.iconst 0, 1) := by decide +kernel
theorem dX10_finds_20 : decode cX10_finds 20 = .ok (.iastore, 1) := by decide +kernel
theorem dX10_finds_21 : decode cX10_finds 21 = .ok (.iconst 0, 1) := by decide +kernel
theorem dX10_finds_22 : decode cX10_finds 22 = .ok (.istore_n 2, 1) := by decide +kernel
theorem dX10_finds_23 : decode cX10_finds 23 = .ok (.iload_n 2, 1) := by decide +kernel
theorem dX10_finds_24 : decode cX10_finds 24 = .ok (.iload_n 1, 1) := by decide +kernel
theorem dX10_finds_25 : decode cX10_finds 25 = .ok (.if_icmp .ge 52, 3) := by decide +kernel
theorem dX10_finds_28 : decode cX10_finds 28 = .ok (.aload_n 0, 1) := by decide +kernel
theorem dX10_finds_29 : decode cX10_finds 29 = .ok (.getfield 51, 3) := by decide +kernel
theorem dX10_finds_32 : decode cX10_finds 32 = .ok (.iload_n 1, 1) := by decide +kernel
theorem dX10_finds_33 : decode cX10_finds 33 = .ok (.dup2, 1) := by decide +kernel
theorem dX10_finds_34 : decode cX10_finds 34 = .ok (.iaload, 1) := by decide +kernel
theorem dX10_finds_35 : decode cX10_finds 35 = .ok (.aload_n 0, 1) := by decide +kernel
theorem dX10_finds_36 : decode cX10_finds 36 = .ok (.aload_n 0, 1) := by decide +kernel
theorem dX10_finds_37 : decode cX10_finds 37 = .ok (.getfield 9, 3) := by decide +kernel
theorem dX10_finds_40 : decode cX10_finds 40 = .ok (.sipush 1441, 3) := by decide +kernel
theorem dX10_finds_43 : decode cX10_finds 43 = .ok (.iload_n 2, 1) := by decide +kernel
theorem dX10_finds_44 : decode cX10_finds 44 = .ok (.iadd, 1) := by decide +kernel
theorem dX10_finds_45 : decode cX10_finds 45 = .ok (.iaload, 1) := by decide +kernel
theorem dX10_finds_46 : decode cX10_finds 46 = .ok (.aload_n 0, 1) := by decide +kernel
theorem dX10_finds_47 : decode cX10_finds 47 = .ok (.getfield 9, 3) := by decide +kernel
theorem dX10_finds_50 : decode cX10_finds 50 = .ok (.sipush 1441, 3) := by decide +kernel
theorem dX10_finds_53 : decode cX10_finds 53 = .ok (.iload_n 1, 1) := by decide +kernel
theorem dX10_finds_54 : decode cX10_finds 54 = .ok (.iadd, 1) := by decide +kernel
theorem dX10_finds_55 : decode cX10_finds 55 = .ok (.iaload, 1) := by decide +kernel
theorem dX10_finds_56 : decode cX10_finds 56 = .ok (.invokevirtual 371, 3) := by decide +kernel
theorem dX10_finds_59 : decode cX10_finds 59 = .ok (.ifCond .eq 9, 3) := by decide +kernel
theorem dX10_finds_62 : decode cX10_finds 62 = .ok (.iconst 1, 1) := by decide +kernel
theorem dX10_finds_63 : decode cX10_finds 63 = .ok (.iload_n 2, 1) := by decide +kernel
theorem dX10_finds_64 : decode cX10_finds 64 = .ok (.ishl, 1) := by decide +kernel
theorem dX10_finds_65 : decode cX10_finds 65 = .ok (.goto 4, 3) := by decide +kernel
theorem dX10_finds_68 : decode cX10_finds 68 = .ok (.iconst 0, 1) := by decide +kernel
theorem dX10_finds_69 : decode cX10_finds 69 = .ok (.ior, 1) := by decide +kernel
theorem dX10_finds_70 : decode cX10_finds 70 = .ok (.iastore, 1) := by decide +kernel
theorem dX10_finds_71 : decode cX10_finds 71 = .ok (.iinc 2 1, 3) := by decide +kernel
theorem dX10_finds_74 : decode cX10_finds 74 = .ok (.goto (-51), 3) := by decide +kernel
theorem dX10_finds_77 : decode cX10_finds 77 = .ok (.iinc 1 1, 3) := by decide +kernel
theorem dX10_finds_80 : decode cX10_finds 80 = .ok (.goto (-78), 3) := by decide +kernel
theorem dX10_finds_83 : decode cX10_finds 83 = .ok (.aload_n 0, 1) := by decide +kernel
theorem dX10_finds_84 : decode cX10_finds 84 = .ok (.iconst (-1), 1) := by decide +kernel
theorem dX10_finds_85 : decode cX10_finds 85 = .ok (.putfield 374, 3) := by decide +kernel
theorem dX10_finds_88 : decode cX10_finds 88 = .ok (.aload_n 0, 1) := by decide +kernel
theorem dX10_finds_89 : decode cX10_finds 89 = .ok (.iconst 0, 1) := by decide +kernel
theorem dX10_finds_90 : decode cX10_finds 90 = .ok (.iconst 0, 1) := by decide +kernel
theorem dX10_finds_91 : decode cX10_finds 91 = .ok (.invokevirtual 377, 3) := by decide +kernel
theorem dX10_finds_94 : decode cX10_finds 94 = .ok (.aload_n 0, 1) := by decide +kernel
theorem dX10_finds_95 : decode cX10_finds 95 = .ok (.getfield 374, 3) := by decide +kernel
theorem dX10_finds_98 : decode cX10_finds 98 = .ok (.ireturn, 1) := by decide +kernel
theorem dX10_bestFinish_0 : decode cX10_bestFinish 0 = .ok (.aload_n 0, 1) := by decide +kernel
theorem dX10_bestFinish_1 : decode cX10_bestFinish 1 = .ok (.iconst 0, 1) := by decide +kernel
theorem dX10_bestFinish_2 : decode cX10_bestFinish 2 = .ok (.putfield 60, 3) := by decide +kernel
theorem dX10_bestFinish_5 : decode cX10_bestFinish 5 = .ok (.aload_n 0, 1) := by decide +kernel
theorem dX10_bestFinish_6 : decode cX10_bestFinish 6 = .ok (.aload_n 0, 1) := by decide +kernel
theorem dX10_bestFinish_7 : decode cX10_bestFinish 7 = .ok (.getfield 9, 3) := by decide +kernel
theorem dX10_bestFinish_10 : decode cX10_bestFinish 10 = .ok (.sipush 1440, 3) := by decide +kernel
theorem dX10_bestFinish_13 : decode cX10_bestFinish 13 = .ok (.iaload, 1) := by decide +kernel
theorem dX10_bestFinish_14 : decode cX10_bestFinish 14 = .ok (.bipush 6, 2) := by decide +kernel
theorem dX10_bestFinish_16 : decode cX10_bestFinish 16 = .ok (.if_icmp .gt 7, 3) := by decide +kernel
theorem dX10_bestFinish_19 : decode cX10_bestFinish 19 = .ok (.iconst 1, 1) := by decide +kernel
theorem dX10_bestFinish_20 : decode cX10_bestFinish 20 = .ok (.goto 4, 3) := by decide +kernel
theorem dX10_bestFinish_23 : decode cX10_bestFinish 23 = .ok (.iconst 0, 1) := by decide +kernel
theorem dX10_bestFinish_24 : decode cX10_bestFinish 24 = .ok (.iconst 1, 1) := by decide +kernel
theorem dX10_bestFinish_25 : decode cX10_bestFinish 25 = .ok (.invokevirtual 66, 3) := by decide +kernel
theorem dX10_bestFinish_28 : decode cX10_bestFinish 28 = .ok (.ifCond .eq 10, 3) := by decide +kernel
theorem dX10_bestFinish_31 : decode cX10_bestFinish 31 = .ok (.aload_n 0, 1) := by decide +kernel
theorem dX10_bestFinish_32 : decode cX10_bestFinish 32 = .ok (.invokevirtual 380, 3) := by decide +kernel
theorem dX10_bestFinish_35 : decode cX10_bestFinish 35 = .ok (.goto 4, 3) := by decide +kernel
theorem dX10_bestFinish_38 : decode cX10_bestFinish 38 = .ok (.iconst 0, 1) := by decide +kernel
theorem dX10_bestFinish_39 : decode cX10_bestFinish 39 = .ok (.ireturn, 1) := by decide +kernel
theorem dX10_bestOrder_0 : decode cX10_bestOrder 0 = .ok (.aload_n 0, 1) := by decide +kernel
theorem dX10_bestOrder_1 : decode cX10_bestOrder 1 = .ok (.iconst 0, 1) := by decide +kernel
theorem dX10_bestOrder_2 : decode cX10_bestOrder 2 = .ok (.putfield 60, 3) := by decide +kernel
theorem dX10_bestOrder_5 : decode cX10_bestOrder 5 = .ok (.aload_n 0, 1) := by decide +kernel
theorem dX10_bestOrder_6 : decode cX10_bestOrder 6 = .ok (.aload_n 0, 1) := by decide +kernel
theorem dX10_bestOrder_7 : decode cX10_bestOrder 7 = .ok (.getfield 9, 3) := by decide +kernel
theorem dX10_bestOrder_10 : decode cX10_bestOrder 10 = .ok (.sipush 1440, 3) := by decide +kernel
theorem dX10_bestOrder_13 : decode cX10_bestOrder 13 = .ok (.iaload, 1) := by decide +kernel
theorem dX10_bestOrder_14 : decode cX10_bestOrder 14 = .ok (.bipush 6, 2) := by decide +kernel
theorem dX10_bestOrder_16 : decode cX10_bestOrder 16 = .ok (.if_icmp .gt 7, 3) := by decide +kernel
theorem dX10_bestOrder_19 : decode cX10_bestOrder 19 = .ok (.iconst 1, 1) := by decide +kernel
theorem dX10_bestOrder_20 : decode cX10_bestOrder 20 = .ok (.goto 4, 3) := by decide +kernel
theorem dX10_bestOrder_23 : decode cX10_bestOrder 23 = .ok (.iconst 0, 1) := by decide +kernel
theorem dX10_bestOrder_24 : decode cX10_bestOrder 24 = .ok (.iconst 1, 1) := by decide +kernel
theorem dX10_bestOrder_25 : decode cX10_bestOrder 25 = .ok (.invokevirtual 66, 3) := by decide +kernel
theorem dX10_bestOrder_28 : decode cX10_bestOrder 28 = .ok (.ifCond .eq 26, 3) := by decide +kernel
theorem dX10_bestOrder_31 : decode cX10_bestOrder 31 = .ok (.aload_n 0, 1) := by decide +kernel
theorem dX10_bestOrder_32 : decode cX10_bestOrder 32 = .ok (.iload_n 1, 1) := by decide +kernel
theorem dX10_bestOrder_33 : decode cX10_bestOrder 33 = .ok (.iconst 0, 1) := by decide +kernel
theorem dX10_bestOrder_34 : decode cX10_bestOrder 34 = .ok (.aload_n 0, 1) := by decide +kernel
theorem dX10_bestOrder_35 : decode cX10_bestOrder 35 = .ok (.getfield 9, 3) := by decide +kernel
theorem dX10_bestOrder_38 : decode cX10_bestOrder 38 = .ok (.sipush 1440, 3) := by decide +kernel
theorem dX10_bestOrder_41 : decode cX10_bestOrder 41 = .ok (.iaload, 1) := by decide +kernel
theorem dX10_bestOrder_42 : decode cX10_bestOrder 42 = .ok (.iconst 1, 1) := by decide +kernel
theorem dX10_bestOrder_43 : decode cX10_bestOrder 43 = .ok (.isub, 1) := by decide +kernel
theorem dX10_bestOrder_44 : decode cX10_bestOrder 44 = .ok (.invokestatic 70, 3) := by decide +kernel
theorem dX10_bestOrder_47 : decode cX10_bestOrder 47 = .ok (.iconst 2, 1) := by decide +kernel
theorem dX10_bestOrder_48 : decode cX10_bestOrder 48 = .ok (.invokevirtual 66, 3) := by decide +kernel
theorem dX10_bestOrder_51 : decode cX10_bestOrder 51 = .ok (.ifCond .ne 5, 3) := by decide +kernel
theorem dX10_bestOrder_54 : decode cX10_bestOrder 54 = .ok (.iconst 0, 1) := by decide +kernel
theorem dX10_bestOrder_55 : decode cX10_bestOrder 55 = .ok (.ireturn, 1) := by decide +kernel
theorem dX10_bestOrder_56 : decode cX10_bestOrder 56 = .ok (.aload_n 0, 1) := by decide +kernel
theorem dX10_bestOrder_57 : decode cX10_bestOrder 57 = .ok (.invokevirtual 380, 3) := by decide +kernel
theorem dX10_bestOrder_60 : decode cX10_bestOrder 60 = .ok (.istore_n 2, 1) := by decide +kernel
theorem dX10_bestOrder_61 : decode cX10_bestOrder 61 = .ok (.aload_n 0, 1) := by decide +kernel
theorem dX10_bestOrder_62 : decode cX10_bestOrder 62 = .ok (.getfield 45, 3) := by decide +kernel
theorem dX10_bestOrder_65 : decode cX10_bestOrder 65 = .ok (.iload_n 1, 1) := by decide +kernel
theorem dX10_bestOrder_66 : decode cX10_bestOrder 66 = .ok (.iaload, 1) := by decide +kernel
theorem dX10_bestOrder_67 : decode cX10_bestOrder 67 = .ok (.ireturn, 1) := by decide +kernel
theorem dX10_reorder_0 : decode cX10_reorder 0 = .ok (.aload_n 0, 1) := by decide +kernel
theorem dX10_reorder_1 : decode cX10_reorder 1 = .ok (.iconst 0, 1) := by decide +kernel
theorem dX10_reorder_2 : decode cX10_reorder 2 = .ok (.putfield 60, 3) := by decide +kernel
theorem dX10_reorder_5 : decode cX10_reorder 5 = .ok (.aload_n 0, 1) := by decide +kernel
theorem dX10_reorder_6 : decode cX10_reorder 6 = .ok (.aload_n 0, 1) := by decide +kernel
theorem dX10_reorder_7 : decode cX10_reorder 7 = .ok (.getfield 9, 3) := by decide +kernel
theorem dX10_reorder_10 : decode cX10_reorder 10 = .ok (.sipush 1440, 3) := by decide +kernel
theorem dX10_reorder_13 : decode cX10_reorder 13 = .ok (.iaload, 1) := by decide +kernel
theorem dX10_reorder_14 : decode cX10_reorder 14 = .ok (.bipush 6, 2) := by decide +kernel
theorem dX10_reorder_16 : decode cX10_reorder 16 = .ok (.if_icmp .gt 7, 3) := by decide +kernel
theorem dX10_reorder_19 : decode cX10_reorder 19 = .ok (.iconst 1, 1) := by decide +kernel
theorem dX10_reorder_20 : decode cX10_reorder 20 = .ok (.goto 4, 3) := by decide +kernel
theorem dX10_reorder_23 : decode cX10_reorder 23 = .ok (.iconst 0, 1) := by decide +kernel
theorem dX10_reorder_24 : decode cX10_reorder 24 = .ok (.iconst 1, 1) := by decide +kernel
theorem dX10_reorder_25 : decode cX10_reorder 25 = .ok (.invokevirtual 66, 3) := by decide +kernel
theorem dX10_reorder_28 : decode cX10_reorder 28 = .ok (.ifCond .ne 5, 3) := by decide +kernel
theorem dX10_reorder_31 : decode cX10_reorder 31 = .ok (.iconst 0, 1) := by decide +kernel
theorem dX10_reorder_32 : decode cX10_reorder 32 = .ok (.ireturn, 1) := by decide +kernel
theorem dX10_reorder_33 : decode cX10_reorder 33 = .ok (.aload_n 0, 1) := by decide +kernel
theorem dX10_reorder_34 : decode cX10_reorder 34 = .ok (.iconst (-1), 1) := by decide +kernel
theorem dX10_reorder_35 : decode cX10_reorder 35 = .ok (.invokevirtual 383, 3) := by decide +kernel
theorem dX10_reorder_38 : decode cX10_reorder 38 = .ok (.istore_n 1, 1) := by decide +kernel
theorem dX10_reorder_39 : decode cX10_reorder 39 = .ok (.aload_n 0, 1) := by decide +kernel
theorem dX10_reorder_40 : decode cX10_reorder 40 = .ok (.invokevirtual 380, 3) := by decide +kernel
theorem dX10_reorder_43 : decode cX10_reorder 43 = .ok (.istore_n 2, 1) := by decide +kernel
theorem dX10_reorder_44 : decode cX10_reorder 44 = .ok (.iconst 0, 1) := by decide +kernel
theorem dX10_reorder_45 : decode cX10_reorder 45 = .ok (.istore_n 3, 1) := by decide +kernel
theorem dX10_reorder_46 : decode cX10_reorder 46 = .ok (.iload_n 3, 1) := by decide +kernel
theorem dX10_reorder_47 : decode cX10_reorder 47 = .ok (.aload_n 0, 1) := by decide +kernel
theorem dX10_reorder_48 : decode cX10_reorder 48 = .ok (.getfield 9, 3) := by decide +kernel
theorem dX10_reorder_51 : decode cX10_reorder 51 = .ok (.sipush 1440, 3) := by decide +kernel
theorem dX10_reorder_54 : decode cX10_reorder 54 = .ok (.iaload, 1) := by decide +kernel
theorem dX10_reorder_55 : decode cX10_reorder 55 = .ok (.if_icmp .ge 30, 3) := by decide +kernel
theorem dX10_reorder_58 : decode cX10_reorder 58 = .ok (.aload_n 0, 1) := by decide +kernel
theorem dX10_reorder_59 : decode cX10_reorder 59 = .ok (.getfield 39, 3) := by decide +kernel
theorem dX10_reorder_62 : decode cX10_reorder 62 = .ok (.iload_n 3, 1) := by decide +kernel
theorem dX10_reorder_63 : decode cX10_reorder 63 = .ok (.aload_n 0, 1) := by decide +kernel
theorem dX10_reorder_64 : decode cX10_reorder 64 = .ok (.getfield 9, 3) := by decide +kernel
theorem dX10_reorder_67 : decode cX10_reorder 67 = .ok (.sipush 1441, 3) := by decide +kernel
theorem dX10_reorder_70 : decode cX10_reorder 70 = .ok (.aload_n 0, 1) := by decide +kernel
theorem dX10_reorder_71 : decode cX10_reorder 71 = .ok (.getfield 45, 3) := by decide +kernel
theorem dX10_reorder_74 : decode cX10_reorder 74 = .ok (.iload_n 3, 1) := by decide +kernel
theorem dX10_reorder_75 : decode cX10_reorder 75 = .ok (.iaload, 1) := by decide +kernel
theorem dX10_reorder_76 : decode cX10_reorder 76 = .ok (.iadd, 1) := by decide +kernel
theorem dX10_reorder_77 : decode cX10_reorder 77 = .ok (.iaload, 1) := by decide +kernel
theorem dX10_reorder_78 : decode cX10_reorder 78 = .ok (.iastore, 1) := by decide +kernel
theorem dX10_reorder_79 : decode cX10_reorder 79 = .ok (.iinc 3 1, 3) := by decide +kernel
theorem dX10_reorder_82 : decode cX10_reorder 82 = .ok (.goto (-36), 3) := by decide +kernel
theorem dX10_reorder_85 : decode cX10_reorder 85 = .ok (.iconst 0, 1) := by decide +kernel
theorem dX10_reorder_86 : decode cX10_reorder 86 = .ok (.istore_n 3, 1) := by decide +kernel
theorem dX10_reorder_87 : decode cX10_reorder 87 = .ok (.iload_n 3, 1) := by decide +kernel
theorem dX10_reorder_88 : decode cX10_reorder 88 = .ok (.aload_n 0, 1) := by decide +kernel
theorem dX10_reorder_89 : decode cX10_reorder 89 = .ok (.getfield 9, 3) := by decide +kernel
theorem dX10_reorder_92 : decode cX10_reorder 92 = .ok (.sipush 1440, 3) := by decide +kernel
theorem dX10_reorder_95 : decode cX10_reorder 95 = .ok (.iaload, 1) := by decide +kernel
theorem dX10_reorder_96 : decode cX10_reorder 96 = .ok (.if_icmp .ge 25, 3) := by decide +kernel
theorem dX10_reorder_99 : decode cX10_reorder 99 = .ok (.aload_n 0, 1) := by decide +kernel
theorem dX10_reorder_100 : decode cX10_reorder 100 = .ok (.getfield 9, 3) := by decide +kernel
theorem dX10_reorder_103 : decode cX10_reorder 103 = .ok (.sipush 1441, 3) := by decide +kernel
theorem dX10_reorder_106 : decode cX10_reorder 106 = .ok (.iload_n 3, 1) := by decide +kernel
theorem dX10_reorder_107 : decode cX10_reorder 107 = .ok (.iadd, 1) := by decide +kernel
theorem dX10_reorder_108 : decode cX10_reorder 108 = .ok (.aload_n 0, 1) := by decide +kernel
theorem dX10_reorder_109 : decode cX10_reorder 109 = .ok (.getfield 39, 3) := by decide +kernel
theorem dX10_reorder_112 : decode cX10_reorder 112 = .ok (.iload_n 3, 1) := by decide +kernel
theorem dX10_reorder_113 : decode cX10_reorder 113 = .ok (.iaload, 1) := by decide +kernel
theorem dX10_reorder_114 : decode cX10_reorder 114 = .ok (.iastore, 1) := by decide +kernel
theorem dX10_reorder_115 : decode cX10_reorder 115 = .ok (.iinc 3 1, 3) := by decide +kernel
theorem dX10_reorder_118 : decode cX10_reorder 118 = .ok (.goto (-31), 3) := by decide +kernel
theorem dX10_reorder_121 : decode cX10_reorder 121 = .ok (.iload_n 1, 1) := by decide +kernel
theorem dX10_reorder_122 : decode cX10_reorder 122 = .ok (.iload_n 2, 1) := by decide +kernel
theorem dX10_reorder_123 : decode cX10_reorder 123 = .ok (.isub, 1) := by decide +kernel
theorem dX10_reorder_124 : decode cX10_reorder 124 = .ok (.ireturn, 1) := by decide +kernel
theorem dX10_budgetFor_0 : decode cX10_budgetFor 0 = .ok (.aload_n 0, 1) := by decide +kernel
theorem dX10_budgetFor_1 : decode cX10_budgetFor 1 = .ok (.iconst 0, 1) := by decide +kernel
theorem dX10_budgetFor_2 : decode cX10_budgetFor 2 = .ok (.putfield 60, 3) := by decide +kernel
theorem dX10_budgetFor_5 : decode cX10_budgetFor 5 = .ok (.aload_n 0, 1) := by decide +kernel
theorem dX10_budgetFor_6 : decode cX10_budgetFor 6 = .ok (.getfield 23, 3) := by decide +kernel
theorem dX10_budgetFor_9 : decode cX10_budgetFor 9 = .ok (.bipush 9, 2) := by decide +kernel
theorem dX10_budgetFor_11 : decode cX10_budgetFor 11 = .ok (.iaload, 1) := by decide +kernel
theorem dX10_budgetFor_12 : decode cX10_budgetFor 12 = .ok (.istore_n 2, 1) := by decide +kernel
theorem dX10_budgetFor_13 : decode cX10_budgetFor 13 = .ok (.iconst (-1), 1) := by decide +kernel
theorem dX10_budgetFor_14 : decode cX10_budgetFor 14 = .ok (.istore_n 3, 1) := by decide +kernel
theorem dX10_budgetFor_15 : decode cX10_budgetFor 15 = .ok (.aload_n 0, 1) := by decide +kernel
theorem dX10_budgetFor_16 : decode cX10_budgetFor 16 = .ok (.invokevirtual 353, 3) := by decide +kernel
theorem dX10_budgetFor_19 : decode cX10_budgetFor 19 = .ok (.iconst 1, 1) := by decide +kernel
theorem dX10_budgetFor_20 : decode cX10_budgetFor 20 = .ok (.istore 4, 2) := by decide +kernel
theorem dX10_budgetFor_22 : decode cX10_budgetFor 22 = .ok (.iload 4, 2) := by decide +kernel
theorem dX10_budgetFor_24 : decode cX10_budgetFor 24 = .ok (.bipush 8, 2) := by decide +kernel
theorem dX10_budgetFor_26 : decode cX10_budgetFor 26 = .ok (.if_icmp .gt 42, 3) := by decide +kernel
theorem dX10_budgetFor_29 : decode cX10_budgetFor 29 = .ok (.iload_n 3, 1) := by decide +kernel
theorem dX10_budgetFor_30 : decode cX10_budgetFor 30 = .ok (.iconst (-1), 1) := by decide +kernel
theorem dX10_budgetFor_31 : decode cX10_budgetFor 31 = .ok (.if_icmp .ne 37, 3) := by decide +kernel
theorem dX10_budgetFor_34 : decode cX10_budgetFor 34 = .ok (.aload_n 0, 1) := by decide +kernel
theorem dX10_budgetFor_35 : decode cX10_budgetFor 35 = .ok (.getfield 23, 3) := by decide +kernel
theorem dX10_budgetFor_38 : decode cX10_budgetFor 38 = .ok (.bipush 9, 2) := by decide +kernel
theorem dX10_budgetFor_40 : decode cX10_budgetFor 40 = .ok (.iload 4, 2) := by decide +kernel
theorem dX10_budgetFor_42 : decode cX10_budgetFor 42 = .ok (.iastore, 1) := by decide +kernel
theorem dX10_budgetFor_43 : decode cX10_budgetFor 43 = .ok (.aload_n 0, 1) := by decide +kernel
theorem dX10_budgetFor_44 : decode cX10_budgetFor 44 = .ok (.invokevirtual 356, 3) := by decide +kernel
theorem dX10_budgetFor_47 : decode cX10_budgetFor 47 = .ok (.iload_n 1, 1) := by decide +kernel
theorem dX10_budgetFor_48 : decode cX10_budgetFor 48 = .ok (.if_icmp .gt 8, 3) := by decide +kernel
theorem dX10_budgetFor_51 : decode cX10_budgetFor 51 = .ok (.iload 4, 2) := by decide +kernel
theorem dX10_budgetFor_53 : decode cX10_budgetFor 53 = .ok (.goto 4, 3) := by decide +kernel
theorem dX10_budgetFor_56 : decode cX10_budgetFor 56 = .ok (.iconst (-1), 1) := by decide +kernel
theorem dX10_budgetFor_57 : decode cX10_budgetFor 57 = .ok (.istore_n 3, 1) := by decide +kernel
theorem dX10_budgetFor_58 : decode cX10_budgetFor 58 = .ok (.aload_n 0, 1) := by decide +kernel
theorem dX10_budgetFor_59 : decode cX10_budgetFor 59 = .ok (.invokevirtual 359, 3) := by decide +kernel
theorem dX10_budgetFor_62 : decode cX10_budgetFor 62 = .ok (.iinc 4 1, 3) := by decide +kernel
theorem dX10_budgetFor_65 : decode cX10_budgetFor 65 = .ok (.goto (-43), 3) := by decide +kernel
theorem dX10_budgetFor_68 : decode cX10_budgetFor 68 = .ok (.aload_n 0, 1) := by decide +kernel
theorem dX10_budgetFor_69 : decode cX10_budgetFor 69 = .ok (.getfield 23, 3) := by decide +kernel
theorem dX10_budgetFor_72 : decode cX10_budgetFor 72 = .ok (.bipush 9, 2) := by decide +kernel
theorem dX10_budgetFor_74 : decode cX10_budgetFor 74 = .ok (.iload_n 2, 1) := by decide +kernel
theorem dX10_budgetFor_75 : decode cX10_budgetFor 75 = .ok (.iastore, 1) := by decide +kernel
theorem dX10_budgetFor_76 : decode cX10_budgetFor 76 = .ok (.aload_n 0, 1) := by decide +kernel
theorem dX10_budgetFor_77 : decode cX10_budgetFor 77 = .ok (.iload_n 3, 1) := by decide +kernel
theorem dX10_budgetFor_78 : decode cX10_budgetFor 78 = .ok (.iconst (-1), 1) := by decide +kernel
theorem dX10_budgetFor_79 : decode cX10_budgetFor 79 = .ok (.if_icmp .eq 7, 3) := by decide +kernel
theorem dX10_budgetFor_82 : decode cX10_budgetFor 82 = .ok (.iconst 1, 1) := by decide +kernel
theorem dX10_budgetFor_83 : decode cX10_budgetFor 83 = .ok (.goto 4, 3) := by decide +kernel
theorem dX10_budgetFor_86 : decode cX10_budgetFor 86 = .ok (.iconst 0, 1) := by decide +kernel
theorem dX10_budgetFor_87 : decode cX10_budgetFor 87 = .ok (.iconst 1, 1) := by decide +kernel
theorem dX10_budgetFor_88 : decode cX10_budgetFor 88 = .ok (.invokevirtual 66, 3) := by decide +kernel
theorem dX10_budgetFor_91 : decode cX10_budgetFor 91 = .ok (.ifCond .eq 7, 3) := by decide +kernel
theorem dX10_budgetFor_94 : decode cX10_budgetFor 94 = .ok (.iload_n 3, 1) := by decide +kernel
theorem dX10_budgetFor_95 : decode cX10_budgetFor 95 = .ok (.goto 4, 3) := by decide +kernel
theorem dX10_budgetFor_98 : decode cX10_budgetFor 98 = .ok (.iconst 0, 1) := by decide +kernel
