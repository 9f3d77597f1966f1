theorem dX9_four_0 : decode cX9_four 0 = .ok (.bipush 24, 2) := by decide +kernel
theorem dX9_four_2 : decode cX9_four 2 = .ok (.istore_n 2, 1) := by decide +kernel
theorem dX9_four_3 : decode cX9_four 3 = .ok (.iload_n 2, 1) := by decide +kernel
theorem dX9_four_4 : decode cX9_four 4 = .ok (.ifCond .lt 35, 3) := by decide +kernel
theorem dX9_four_7 : decode cX9_four 7 = .ok (.aload_n 0, 1) := by decide +kernel
theorem dX9_four_8 : decode cX9_four 8 = .ok (.getfield 19, 3) := by decide +kernel
theorem dX9_four_11 : decode cX9_four 11 = .ok (.aload_n 0, 1) := by decide +kernel
theorem dX9_four_12 : decode cX9_four 12 = .ok (.getfield 80, 3) := by decide +kernel
theorem dX9_four_15 : decode cX9_four 15 = .ok (.iload_n 1, 1) := by decide +kernel
theorem dX9_four_16 : decode cX9_four 16 = .ok (.iload_n 2, 1) := by decide +kernel
theorem dX9_four_17 : decode cX9_four 17 = .ok (.ishr, 1) := by decide +kernel
theorem dX9_four_18 : decode cX9_four 18 = .ok (.sipush 255, 3) := by decide +kernel
theorem dX9_four_21 : decode cX9_four 21 = .ok (.iand, 1) := by decide +kernel
theorem dX9_four_22 : decode cX9_four 22 = .ok (.iastore, 1) := by decide +kernel
theorem dX9_four_23 : decode cX9_four 23 = .ok (.aload_n 0, 1) := by decide +kernel
theorem dX9_four_24 : decode cX9_four 24 = .ok (.dup, 1) := by decide +kernel
theorem dX9_four_25 : decode cX9_four 25 = .ok (.getfield 80, 3) := by decide +kernel
theorem dX9_four_28 : decode cX9_four 28 = .ok (.iconst 1, 1) := by decide +kernel
theorem dX9_four_29 : decode cX9_four 29 = .ok (.iadd, 1) := by decide +kernel
theorem dX9_four_30 : decode cX9_four 30 = .ok (.putfield 80, 3) := by decide +kernel
theorem dX9_four_33 : decode cX9_four 33 = .ok (.iinc 2 (-8), 3) := by decide +kernel
theorem dX9_four_36 : decode cX9_four 36 = .ok (.goto (-33), 3) := by decide +kernel
theorem dX9_four_39 : decode cX9_four 39 = .ok (.return_, 1) := by decide +kernel
theorem dX9_feed_0 : decode cX9_feed 0 = .ok (.aload_n 0, 1) := by decide +kernel
theorem dX9_feed_1 : decode cX9_feed 1 = .ok (.getfield 80, 3) := by decide +kernel
theorem dX9_feed_4 : decode cX9_feed 4 = .ok (.bipush 20, 2) := by decide +kernel
theorem dX9_feed_6 : decode cX9_feed 6 = .ok (.iadd, 1) := by decide +kernel
theorem dX9_feed_7 : decode cX9_feed 7 = .ok (.sipush 300, 3) := by decide +kernel
theorem dX9_feed_10 : decode cX9_feed 10 = .ok (.if_icmp .le 5, 3) := by decide +kernel
theorem dX9_feed_13 : decode cX9_feed 13 = .ok (.iconst (-1), 1) := by decide +kernel
theorem dX9_feed_14 : decode cX9_feed 14 = .ok (.ireturn, 1) := by decide +kernel
theorem dX9_feed_15 : decode cX9_feed 15 = .ok (.aload_n 0, 1) := by decide +kernel
theorem dX9_feed_16 : decode cX9_feed 16 = .ok (.iload_n 1, 1) := by decide +kernel
theorem dX9_feed_17 : decode cX9_feed 17 = .ok (.invokevirtual 83, 3) := by decide +kernel
theorem dX9_feed_20 : decode cX9_feed 20 = .ok (.aload_n 0, 1) := by decide +kernel
theorem dX9_feed_21 : decode cX9_feed 21 = .ok (.iload_n 2, 1) := by decide +kernel
theorem dX9_feed_22 : decode cX9_feed 22 = .ok (.invokevirtual 83, 3) := by decide +kernel
theorem dX9_feed_25 : decode cX9_feed 25 = .ok (.aload_n 0, 1) := by decide +kernel
theorem dX9_feed_26 : decode cX9_feed 26 = .ok (.iload_n 3, 1) := by decide +kernel
theorem dX9_feed_27 : decode cX9_feed 27 = .ok (.invokevirtual 83, 3) := by decide +kernel
theorem dX9_feed_30 : decode cX9_feed 30 = .ok (.aload_n 0, 1) := by decide +kernel
theorem dX9_feed_31 : decode cX9_feed 31 = .ok (.iload 4, 2) := by decide +kernel
theorem dX9_feed_33 : decode cX9_feed 33 = .ok (.invokevirtual 83, 3) := by decide +kernel
theorem dX9_feed_36 : decode cX9_feed 36 = .ok (.aload_n 0, 1) := by decide +kernel
theorem dX9_feed_37 : decode cX9_feed 37 = .ok (.iload 5, 2) := by decide +kernel
theorem dX9_feed_39 : decode cX9_feed 39 = .ok (.invokevirtual 83, 3) := by decide +kernel
theorem dX9_feed_42 : decode cX9_feed 42 = .ok (.aload_n 0, 1) := by decide +kernel
theorem dX9_feed_43 : decode cX9_feed 43 = .ok (.getfield 80, 3) := by decide +kernel
theorem dX9_feed_46 : decode cX9_feed 46 = .ok (.ireturn, 1) := by decide +kernel
theorem dX9_end_0 : decode cX9_end 0 = .ok (.iload_n 1, 1) := by decide +kernel
theorem dX9_end_1 : decode cX9_end 1 = .ok (.iconst 0, 1) := by decide +kernel
theorem dX9_end_2 : decode cX9_end 2 = .ok (.aload_n 0, 1) := by decide +kernel
theorem dX9_end_3 : decode cX9_end 3 = .ok (.getfield 80, 3) := by decide +kernel
theorem dX9_end_6 : decode cX9_end 6 = .ok (.invokestatic 69, 3) := by decide +kernel
theorem dX9_end_9 : decode cX9_end 9 = .ok (.ifCond .ne 5, 3) := by decide +kernel
theorem dX9_end_12 : decode cX9_end 12 = .ok (.iconst (-1), 1) := by decide +kernel
theorem dX9_end_13 : decode cX9_end 13 = .ok (.ireturn, 1) := by decide +kernel
theorem dX9_end_14 : decode cX9_end 14 = .ok (.aload_n 0, 1) := by decide +kernel
theorem dX9_end_15 : decode cX9_end 15 = .ok (.iload_n 1, 1) := by decide +kernel
theorem dX9_end_16 : decode cX9_end 16 = .ok (.putfield 80, 3) := by decide +kernel
theorem dX9_end_19 : decode cX9_end 19 = .ok (.iload_n 1, 1) := by decide +kernel
theorem dX9_end_20 : decode cX9_end 20 = .ok (.ireturn, 1) := by decide +kernel
theorem dX9_byteAt_0 : decode cX9_byteAt 0 = .ok (.iload_n 1, 1) := by decide +kernel
theorem dX9_byteAt_1 : decode cX9_byteAt 1 = .ok (.aload_n 0, 1) := by decide +kernel
theorem dX9_byteAt_2 : decode cX9_byteAt 2 = .ok (.getfield 80, 3) := by decide +kernel
theorem dX9_byteAt_5 : decode cX9_byteAt 5 = .ok (.if_icmp .ge 12, 3) := by decide +kernel
theorem dX9_byteAt_8 : decode cX9_byteAt 8 = .ok (.aload_n 0, 1) := by decide +kernel
theorem dX9_byteAt_9 : decode cX9_byteAt 9 = .ok (.getfield 19, 3) := by decide +kernel
theorem dX9_byteAt_12 : decode cX9_byteAt 12 = .ok (.iload_n 1, 1) := by decide +kernel
theorem dX9_byteAt_13 : decode cX9_byteAt 13 = .ok (.iaload, 1) := by decide +kernel
theorem dX9_byteAt_14 : decode cX9_byteAt 14 = .ok (.goto 4, 3) := by decide +kernel
theorem dX9_byteAt_17 : decode cX9_byteAt 17 = .ok (.iconst (-1), 1) := by decide +kernel
theorem dX9_byteAt_18 : decode cX9_byteAt 18 = .ok (.ireturn, 1) := by decide +kernel
theorem dX9_isDigit_0 : decode cX9_isDigit 0 = .ok (.iload_n 0, 1) := by decide +kernel
theorem dX9_isDigit_1 : decode cX9_isDigit 1 = .ok (.bipush 48, 2) := by decide +kernel
theorem dX9_isDigit_3 : decode cX9_isDigit 3 = .ok (.bipush 57, 2) := by decide +kernel
theorem dX9_isDigit_5 : decode cX9_isDigit 5 = .ok (.invokestatic 69, 3) := by decide +kernel
theorem dX9_isDigit_8 : decode cX9_isDigit 8 = .ok (.ireturn, 1) := by decide +kernel
theorem dX9_isLetter_0 : decode cX9_isLetter 0 = .ok (.iload_n 0, 1) := by decide +kernel
theorem dX9_isLetter_1 : decode cX9_isLetter 1 = .ok (.bipush 97, 2) := by decide +kernel
theorem dX9_isLetter_3 : decode cX9_isLetter 3 = .ok (.bipush 122, 2) := by decide +kernel
theorem dX9_isLetter_5 : decode cX9_isLetter 5 = .ok (.invokestatic 69, 3) := by decide +kernel
theorem dX9_isLetter_8 : decode cX9_isLetter 8 = .ok (.ifCond .ne 14, 3) := by decide +kernel
theorem dX9_isLetter_11 : decode cX9_isLetter 11 = .ok (.iload_n 0, 1) := by decide +kernel
theorem dX9_isLetter_12 : decode cX9_isLetter 12 = .ok (.bipush 65, 2) := by decide +kernel
theorem dX9_isLetter_14 : decode cX9_isLetter 14 = .ok (.bipush 90, 2) := by decide +kernel
theorem dX9_isLetter_16 : decode cX9_isLetter 16 = .ok (.invokestatic 69, 3) := by decide +kernel
theorem dX9_isLetter_19 : decode cX9_isLetter 19 = .ok (.ifCond .eq 7, 3) := by decide +kernel
theorem dX9_isLetter_22 : decode cX9_isLetter 22 = .ok (.iconst 1, 1) := by decide +kernel
theorem dX9_isLetter_23 : decode cX9_isLetter 23 = .ok (.goto 4, 3) := by decide +kernel
theorem dX9_isLetter_26 : decode cX9_isLetter 26 = .ok (.iconst 0, 1) := by decide +kernel
theorem dX9_isLetter_27 : decode cX9_isLetter 27 = .ok (.ireturn, 1) := by decide +kernel
theorem dX9_nextToken_0 : decode cX9_nextToken 0 = .ok (.aload_n 0, 1) := by decide +kernel
theorem dX9_nextToken_1 : decode cX9_nextToken 1 = .ok (.aload_n 0, 1) := by decide +kernel
theorem dX9_nextToken_2 : decode cX9_nextToken 2 = .ok (.getfield 87, 3) := by decide +kernel
theorem dX9_nextToken_5 : decode cX9_nextToken 5 = .ok (.invokevirtual 90, 3) := by decide +kernel
theorem dX9_nextToken_8 : decode cX9_nextToken 8 = .ok (.bipush 32, 2) := by decide +kernel
theorem dX9_nextToken_10 : decode cX9_nextToken 10 = .ok (.if_icmp .eq 16, 3) := by decide +kernel
theorem dX9_nextToken_13 : decode cX9_nextToken 13 = .ok (.aload_n 0, 1) := by decide +kernel
theorem dX9_nextToken_14 : decode cX9_nextToken 14 = .ok (.aload_n 0, 1) := by decide +kernel
theorem dX9_nextToken_15 : decode cX9_nextToken 15 = .ok (.getfield 87, 3) := by decide +kernel
theorem dX9_nextToken_18 : decode cX9_nextToken 18 = .ok (.invokevirtual 90, 3) := by decide +kernel
theorem dX9_nextToken_21 : decode cX9_nextToken 21 = .ok (.bipush 10, 2) := by decide +kernel
theorem dX9_nextToken_23 : decode cX9_nextToken 23 = .ok (.if_icmp .ne 16, 3) := by decide +kernel
theorem dX9_nextToken_26 : decode cX9_nextToken 26 = .ok (.aload_n 0, 1) := by decide +kernel
theorem dX9_nextToken_27 : decode cX9_nextToken 27 = .ok (.dup, 1) := by decide +kernel
theorem dX9_nextToken_28 : decode cX9_nextToken 28 = .ok (.getfield 87, 3) := by decide +kernel
theorem dX9_nextToken_31 : decode cX9_nextToken 31 = .ok (.iconst 1, 1) := by decide +kernel
theorem dX9_nextToken_32 : decode cX9_nextToken 32 = .ok (.iadd, 1) := by decide +kernel
theorem dX9_nextToken_33 : decode cX9_nextToken 33 = .ok (.putfield 87, 3) := by decide +kernel
theorem dX9_nextToken_36 : decode cX9_nextToken 36 = .ok (.goto (-36), 3) := by decide +kernel
theorem dX9_nextToken_39 : decode cX9_nextToken 39 = .ok (.aload_n 0, 1) := by decide +kernel
theorem dX9_nextToken_40 : decode cX9_nextToken 40 = .ok (.aload_n 0, 1) := by decide +kernel
theorem dX9_nextToken_41 : decode cX9_nextToken 41 = .ok (.getfield 87, 3) := by decide +kernel
theorem dX9_nextToken_44 : decode cX9_nextToken 44 = .ok (.putfield 94, 3) := by decide +kernel
theorem dX9_nextToken_47 : decode cX9_nextToken 47 = .ok (.aload_n 0, 1) := by decide +kernel
theorem dX9_nextToken_48 : decode cX9_nextToken 48 = .ok (.aload_n 0, 1) := by decide +kernel
theorem dX9_nextToken_49 : decode cX9_nextToken 49 = .ok (.getfield 87, 3) := by decide +kernel
theorem dX9_nextToken_52 : decode cX9_nextToken 52 = .ok (.invokevirtual 90, 3) := by decide +kernel
theorem dX9_nextToken_55 : decode cX9_nextToken 55 = .ok (.istore_n 1, 1) := by decide +kernel
theorem dX9_nextToken_56 : decode cX9_nextToken 56 = .ok (.iload_n 1, 1) := by decide +kernel
theorem dX9_nextToken_57 : decode cX9_nextToken 57 = .ok (.ifCond .ge 11, 3) := by decide +kernel
theorem dX9_nextToken_60 : decode cX9_nextToken 60 = .ok (.aload_n 0, 1) := by decide +kernel
theorem dX9_nextToken_61 : decode cX9_nextToken 61 = .ok (.iconst 0, 1) := by decide +kernel
theorem dX9_nextToken_62 : decode cX9_nextToken 62 = .ok (.putfield 97, 3) := by decide +kernel
theorem dX9_nextToken_65 : decode cX9_nextToken 65 = .ok (.goto 325, 3) := by decide +kernel
theorem dX9_nextToken_68 : decode cX9_nextToken 68 = .ok (.iload_n 1, 1) := by decide +kernel
theorem dX9_nextToken_69 : decode cX9_nextToken 69 = .ok (.invokestatic 100, 3) := by decide +kernel
theorem dX9_nextToken_72 : decode cX9_nextToken 72 = .ok (.ifCond .eq 72, 3) := by decide +kernel
theorem dX9_nextToken_75 : decode cX9_nextToken 75 = .ok (.aload_n 0, 1) := by decide +kernel
theorem dX9_nextToken_76 : decode cX9_nextToken 76 = .ok (.iconst 1, 1) := by decide +kernel
theorem dX9_nextToken_77 : decode cX9_nextToken 77 = .ok (.putfield 97, 3) := by decide +kernel
theorem dX9_nextToken_80 : decode cX9_nextToken 80 = .ok (.aload_n 0, 1) := by decide +kernel
theorem dX9_nextToken_81 : decode cX9_nextToken 81 = .ok (.iconst 0, 1) := by decide +kernel
theorem dX9_nextToken_82 : decode cX9_nextToken 82 = .ok (.putfield 103, 3) := by decide +kernel
theorem dX9_nextToken_85 : decode cX9_nextToken 85 = .ok (.aload_n 0, 1) := by decide +kernel
theorem dX9_nextToken_86 : decode cX9_nextToken 86 = .ok (.aload_n 0, 1) := by decide +kernel
theorem dX9_nextToken_87 : decode cX9_nextToken 87 = .ok (.getfield 87, 3) := by decide +kernel
theorem dX9_nextToken_90 : decode cX9_nextToken 90 = .ok (.invokevirtual 90, 3) := by decide +kernel
theorem dX9_nextToken_93 : decode cX9_nextToken 93 = .ok (.invokestatic 100, 3) := by decide +kernel
theorem dX9_nextToken_96 : decode cX9_nextToken 96 = .ok (.ifCond .eq 294, 3) := by decide +kernel
theorem dX9_nextToken_99 : decode cX9_nextToken 99 = .ok (.aload_n 0, 1) := by decide +kernel
theorem dX9_nextToken_100 : decode cX9_nextToken 100 = .ok (.getfield 103, 3) := by decide +kernel
theorem dX9_nextToken_103 : decode cX9_nextToken 103 = .ok (.ldc 106, 2) := by decide +kernel
theorem dX9_nextToken_105 : decode cX9_nextToken 105 = .ok (.if_icmp .ge 26, 3) := by decide +kernel
theorem dX9_nextToken_108 : decode cX9_nextToken 108 = .ok (.aload_n 0, 1) := by decide +kernel
theorem dX9_nextToken_109 : decode cX9_nextToken 109 = .ok (.bipush 10, 2) := by decide +kernel
theorem dX9_nextToken_111 : decode cX9_nextToken 111 = .ok (.aload_n 0, 1) := by decide +kernel
theorem dX9_nextToken_112 : decode cX9_nextToken 112 = .ok (.getfield 103, 3) := by decide +kernel
theorem dX9_nextToken_115 : decode cX9_nextToken 115 = .ok (.imul, 1) := by decide +kernel
theorem dX9_nextToken_116 : decode cX9_nextToken 116 = .ok (.aload_n 0, 1) := by decide +kernel
theorem dX9_nextToken_117 : decode cX9_nextToken 117 = .ok (.aload_n 0, 1) := by decide +kernel
theorem dX9_nextToken_118 : decode cX9_nextToken 118 = .ok (.getfield 87, 3) := by decide +kernel
theorem dX9_nextToken_121 : decode cX9_nextToken 121 = .ok (.invokevirtual 90, 3) := by decide +kernel
theorem dX9_nextToken_124 : decode cX9_nextToken 124 = .ok (.iadd, 1) := by decide +kernel
theorem dX9_nextToken_125 : decode cX9_nextToken 125 = .ok (.bipush 48, 2) := by decide +kernel
theorem dX9_nextToken_127 : decode cX9_nextToken 127 = .ok (.isub, 1) := by decide +kernel
theorem dX9_nextToken_128 : decode cX9_nextToken 128 = .ok (.putfield 103, 3) := by decide +kernel
theorem dX9_nextToken_131 : decode cX9_nextToken 131 = .ok (.aload_n 0, 1) := by decide +kernel
theorem dX9_nextToken_132 : decode cX9_nextToken 132 = .ok (.dup, 1) := by decide +kernel
theorem dX9_nextToken_133 : decode cX9_nextToken 133 = .ok (.getfield 87, 3) := by decide +kernel
theorem dX9_nextToken_136 : decode cX9_nextToken 136 = .ok (.iconst 1, 1) := by decide +kernel
theorem dX9_nextToken_137 : decode cX9_nextToken 137 = .ok (.iadd, 1) := by decide +kernel
theorem dX9_nextToken_138 : decode cX9_nextToken 138 = .ok (.putfield 87, 3) := by decide +kernel
theorem dX9_nextToken_141 : decode cX9_nextToken 141 = .ok (.goto (-56), 3) := by decide +kernel
theorem dX9_nextToken_144 : decode cX9_nextToken 144 = .ok (.iload_n 1, 1) := by decide +kernel
theorem dX9_nextToken_145 : decode cX9_nextToken 145 = .ok (.invokestatic 107, 3) := by decide +kernel
theorem dX9_nextToken_148 : decode cX9_nextToken 148 = .ok (.ifCond .eq 97, 3) := by decide +kernel
theorem dX9_nextToken_151 : decode cX9_nextToken 151 = .ok (.aload_n 0, 1) := by decide +kernel
theorem dX9_nextToken_152 : decode cX9_nextToken 152 = .ok (.iconst 2, 1) := by decide +kernel
theorem dX9_nextToken_153 : decode cX9_nextToken 153 = .ok (.putfield 97, 3) := by decide +kernel
theorem dX9_nextToken_156 : decode cX9_nextToken 156 = .ok (.aload_n 0, 1) := by decide +kernel
theorem dX9_nextToken_157 : decode cX9_nextToken 157 = .ok (.lconst 0, 1) := by decide +kernel
theorem dX9_nextToken_158 : decode cX9_nextToken 158 = .ok (.putfield 110, 3) := by decide +kernel
theorem dX9_nextToken_161 : decode cX9_nextToken 161 = .ok (.aload_n 0, 1) := by decide +kernel
theorem dX9_nextToken_162 : decode cX9_nextToken 162 = .ok (.aload_n 0, 1) := by decide +kernel
theorem dX9_nextToken_163 : decode cX9_nextToken 163 = .ok (.getfield 87, 3) := by decide +kernel
theorem dX9_nextToken_166 : decode cX9_nextToken 166 = .ok (.invokevirtual 90, 3) := by decide +kernel
theorem dX9_nextToken_169 : decode cX9_nextToken 169 = .ok (.invokestatic 107, 3) := by decide +kernel
theorem dX9_nextToken_172 : decode cX9_nextToken 172 = .ok (.ifCond .eq 51, 3) := by decide +kernel
theorem dX9_nextToken_175 : decode cX9_nextToken 175 = .ok (.aload_n 0, 1) := by decide +kernel
theorem dX9_nextToken_176 : decode cX9_nextToken 176 = .ok (.getfield 87, 3) := by decide +kernel
theorem dX9_nextToken_179 : decode cX9_nextToken 179 = .ok (.aload_n 0, 1) := by decide +kernel
theorem dX9_nextToken_180 : decode cX9_nextToken 180 = .ok (.getfield 94, 3) := by decide +kernel
theorem dX9_nextToken_183 : decode cX9_nextToken 183 = .ok (.isub, 1) := by decide +kernel
theorem dX9_nextToken_184 : decode cX9_nextToken 184 = .ok (.bipush 7, 2) := by decide +kernel
theorem dX9_nextToken_186 : decode cX9_nextToken 186 = .ok (.if_icmp .ge 24, 3) := by decide +kernel
theorem dX9_nextToken_189 : decode cX9_nextToken 189 = .ok (.aload_n 0, 1) := by decide +kernel
theorem dX9_nextToken_190 : decode cX9_nextToken 190 = .ok (.aload_n 0, 1) := by decide +kernel
theorem dX9_nextToken_191 : decode cX9_nextToken 191 = .ok (.getfield 110, 3) := by decide +kernel
theorem dX9_nextToken_194 : decode cX9_nextToken 194 = .ok (.bipush 8, 2) := by decide +kernel
theorem dX9_nextToken_196 : decode cX9_nextToken 196 = .ok (.lshl, 1) := by decide +kernel
theorem dX9_nextToken_197 : decode cX9_nextToken 197 = .ok (.aload_n 0, 1) := by decide +kernel
theorem dX9_nextToken_198 : decode cX9_nextToken 198 = .ok (.aload_n 0, 1) := by decide +kernel
theorem dX9_nextToken_199 : decode cX9_nextToken 199 = .ok (.getfield 87, 3) := by decide +kernel
theorem dX9_nextToken_202 : decode cX9_nextToken 202 = .ok (.invokevirtual 90, 3) := by decide +kernel
theorem dX9_nextToken_205 : decode cX9_nextToken 205 = .ok (.i2l, 1) := by decide +kernel
theorem dX9_nextToken_206 : decode cX9_nextToken 206 = .ok (.lor, 1) := by decide +kernel
theorem dX9_nextToken_207 : decode cX9_nextToken 207 = .ok (.putfield 110, 3) := by decide +kernel
theorem dX9_nextToken_210 : decode cX9_nextToken 210 = .ok (.aload_n 0, 1) := by decide +kernel
theorem dX9_nextToken_211 : decode cX9_nextToken 211 = .ok (.dup, 1) := by decide +kernel
theorem dX9_nextToken_212 : decode cX9_nextToken 212 = .ok (.getfield 87, 3) := by decide +kernel
theorem dX9_nextToken_215 : decode cX9_nextToken 215 = .ok (.iconst 1, 1) := by decide +kernel
theorem dX9_nextToken_216 : decode cX9_nextToken 216 = .ok (.iadd, 1) := by decide +kernel
theorem dX9_nextToken_217 : decode cX9_nextToken 217 = .ok (.putfield 87, 3) := by decide +kernel
theorem dX9_nextToken_220 : decode cX9_nextToken 220 = .ok (.goto (-59), 3) := by decide +kernel
theorem dX9_nextToken_223 : decode cX9_nextToken 223 = .ok (.aload_n 0, 1) := by decide +kernel
theorem dX9_nextToken_224 : decode cX9_nextToken 224 = .ok (.getfield 87, 3) := by decide +kernel
theorem dX9_nextToken_227 : decode cX9_nextToken 227 = .ok (.aload_n 0, 1) := by decide +kernel
theorem dX9_nextToken_228 : decode cX9_nextToken 228 = .ok (.getfield 94, 3) := by decide +kernel
theorem dX9_nextToken_231 : decode cX9_nextToken 231 = .ok (.isub, 1) := by decide +kernel
theorem dX9_nextToken_232 : decode cX9_nextToken 232 = .ok (.bipush 7, 2) := by decide +kernel
theorem dX9_nextToken_234 : decode cX9_nextToken 234 = .ok (.if_icmp .le 156, 3) := by decide +kernel
theorem dX9_nextToken_237 : decode cX9_nextToken 237 = .ok (.aload_n 0, 1) := by decide +kernel
theorem dX9_nextToken_238 : decode cX9_nextToken 238 = .ok (.lconst 0, 1) := by decide +kernel
theorem dX9_nextToken_239 : decode cX9_nextToken 239 = .ok (.putfield 110, 3) := by decide +kernel
theorem dX9_nextToken_242 : decode cX9_nextToken 242 = .ok (.goto 148, 3) := by decide +kernel
theorem dX9_nextToken_245 : decode cX9_nextToken 245 = .ok (.aload_n 0, 1) := by decide +kernel
theorem dX9_nextToken_246 : decode cX9_nextToken 246 = .ok (.dup, 1) := by decide +kernel
theorem dX9_nextToken_247 : decode cX9_nextToken 247 = .ok (.getfield 87, 3) := by decide +kernel
theorem dX9_nextToken_250 : decode cX9_nextToken 250 = .ok (.iconst 1, 1) := by decide +kernel
theorem dX9_nextToken_251 : decode cX9_nextToken 251 = .ok (.iadd, 1) := by decide +kernel
theorem dX9_nextToken_252 : decode cX9_nextToken 252 = .ok (.putfield 87, 3) := by decide +kernel
theorem dX9_nextToken_255 : decode cX9_nextToken 255 = .ok (.iload_n 1, 1) := by decide +kernel
theorem dX9_nextToken_256 : decode cX9_nextToken 256 = .ok (.bipush 60, 2) := by decide +kernel
theorem dX9_nextToken_258 : decode cX9_nextToken 258 = .ok (.if_icmp .eq 63, 3) := by decide +kernel
theorem dX9_nextToken_261 : decode cX9_nextToken 261 = .ok (.iload_n 1, 1) := by decide +kernel
theorem dX9_nextToken_262 : decode cX9_nextToken 262 = .ok (.bipush 62, 2) := by decide +kernel
theorem dX9_nextToken_264 : decode cX9_nextToken 264 = .ok (.if_icmp .eq 57, 3) := by decide +kernel
theorem dX9_nextToken_267 : decode cX9_nextToken 267 = .ok (.iload_n 1, 1) := by decide +kernel
theorem dX9_nextToken_268 : decode cX9_nextToken 268 = .ok (.bipush 61, 2) := by decide +kernel
theorem dX9_nextToken_270 : decode cX9_nextToken 270 = .ok (.if_icmp .eq 51, 3) := by decide +kernel
theorem dX9_nextToken_273 : decode cX9_nextToken 273 = .ok (.iload_n 1, 1) := by decide +kernel
theorem dX9_nextToken_274 : decode cX9_nextToken 274 = .ok (.bipush 35, 2) := by decide +kernel
theorem dX9_nextToken_276 : decode cX9_nextToken 276 = .ok (.if_icmp .eq 45, 3) := by decide +kernel
theorem dX9_nextToken_279 : decode cX9_nextToken 279 = .ok (.iload_n 1, 1) := by decide +kernel
theorem dX9_nextToken_280 : decode cX9_nextToken 280 = .ok (.bipush 43, 2) := by decide +kernel
theorem dX9_nextToken_282 : decode cX9_nextToken 282 = .ok (.if_icmp .eq 39, 3) := by decide +kernel
theorem dX9_nextToken_285 : decode cX9_nextToken 285 = .ok (.iload_n 1, 1) := by decide +kernel
theorem dX9_nextToken_286 : decode cX9_nextToken 286 = .ok (.bipush 45, 2) := by decide +kernel
theorem dX9_nextToken_288 : decode cX9_nextToken 288 = .ok (.if_icmp .eq 33, 3) := by decide +kernel
theorem dX9_nextToken_291 : decode cX9_nextToken 291 = .ok (.iload_n 1, 1) := by decide +kernel
theorem dX9_nextToken_292 : decode cX9_nextToken 292 = .ok (.bipush 42, 2) := by decide +kernel
theorem dX9_nextToken_294 : decode cX9_nextToken 294 = .ok (.if_icmp .eq 27, 3) := by decide +kernel
theorem dX9_nextToken_297 : decode cX9_nextToken 297 = .ok (.iload_n 1, 1) := by decide +kernel
theorem dX9_nextToken_298 : decode cX9_nextToken 298 = .ok (.bipush 47, 2) := by decide +kernel
theorem dX9_nextToken_300 : decode cX9_nextToken 300 = .ok (.if_icmp .eq 21, 3) := by decide +kernel
theorem dX9_nextToken_303 : decode cX9_nextToken 303 = .ok (.iload_n 1, 1) := by decide +kernel
theorem dX9_nextToken_304 : decode cX9_nextToken 304 = .ok (.bipush 40, 2) := by decide +kernel
theorem dX9_nextToken_306 : decode cX9_nextToken 306 = .ok (.if_icmp .eq 15, 3) := by decide +kernel
theorem dX9_nextToken_309 : decode cX9_nextToken 309 = .ok (.iload_n 1, 1) := by decide +kernel
theorem dX9_nextToken_310 : decode cX9_nextToken 310 = .ok (.bipush 41, 2) := by decide +kernel
theorem dX9_nextToken_312 : decode cX9_nextToken 312 = .ok (.if_icmp .eq 9, 3) := by decide +kernel
theorem dX9_nextToken_315 : decode cX9_nextToken 315 = .ok (.iload_n 1, 1) := by decide +kernel
theorem dX9_nextToken_316 : decode cX9_nextToken 316 = .ok (.bipush 59, 2) := by decide +kernel
theorem dX9_nextToken_318 : decode cX9_nextToken 318 = .ok (.if_icmp .ne 7, 3) := by decide +kernel
theorem dX9_nextToken_321 : decode cX9_nextToken 321 = .ok (.iconst 1, 1) := by decide +kernel
theorem dX9_nextToken_322 : decode cX9_nextToken 322 = .ok (.goto 4, 3) := by decide +kernel
theorem dX9_nextToken_325 : decode cX9_nextToken 325 = .ok (.iconst 0, 1) := by decide +kernel
theorem dX9_nextToken_326 : decode cX9_nextToken 326 = .ok (.istore_n 2, 1) := by decide +kernel
theorem dX9_nextToken_327 : decode cX9_nextToken 327 = .ok (.aload_n 0, 1) := by decide +kernel
theorem dX9_nextToken_328 : decode cX9_nextToken 328 = .ok (.iload_n 2, 1) := by decide +kernel
theorem dX9_nextToken_329 : decode cX9_nextToken 329 = .ok (.ifCond .eq 7, 3) := by decide +kernel
theorem dX9_nextToken_332 : decode cX9_nextToken 332 = .ok (.iload_n 1, 1) := by decide +kernel
theorem dX9_nextToken_333 : decode cX9_nextToken 333 = .ok (.goto 4, 3) := by decide +kernel
theorem dX9_nextToken_336 : decode cX9_nextToken 336 = .ok (.iconst 3, 1) := by decide +kernel
theorem dX9_nextToken_337 : decode cX9_nextToken 337 = .ok (.putfield 97, 3) := by decide +kernel
theorem dX9_nextToken_340 : decode cX9_nextToken 340 = .ok (.iload_n 1, 1) := by decide +kernel
theorem dX9_nextToken_341 : decode cX9_nextToken 341 = .ok (.bipush 60, 2) := by decide +kernel
theorem dX9_nextToken_343 : decode cX9_nextToken 343 = .ok (.if_icmp .eq 9, 3) := by decide +kernel
theorem dX9_nextToken_346 : decode cX9_nextToken 346 = .ok (.iload_n 1, 1) := by decide +kernel
theorem dX9_nextToken_347 : decode cX9_nextToken 347 = .ok (.bipush 62, 2) := by decide +kernel
theorem dX9_nextToken_349 : decode cX9_nextToken 349 = .ok (.if_icmp .ne 41, 3) := by decide +kernel
theorem dX9_nextToken_352 : decode cX9_nextToken 352 = .ok (.aload_n 0, 1) := by decide +kernel
theorem dX9_nextToken_353 : decode cX9_nextToken 353 = .ok (.aload_n 0, 1) := by decide +kernel
theorem dX9_nextToken_354 : decode cX9_nextToken 354 = .ok (.getfield 87, 3) := by decide +kernel
theorem dX9_nextToken_357 : decode cX9_nextToken 357 = .ok (.invokevirtual 90, 3) := by decide +kernel
theorem dX9_nextToken_360 : decode cX9_nextToken 360 = .ok (.bipush 61, 2) := by decide +kernel
theorem dX9_nextToken_362 : decode cX9_nextToken 362 = .ok (.if_icmp .ne 28, 3) := by decide +kernel
theorem dX9_nextToken_365 : decode cX9_nextToken 365 = .ok (.aload_n 0, 1) := by decide +kernel
theorem dX9_nextToken_366 : decode cX9_nextToken 366 = .ok (.dup, 1) := by decide +kernel
theorem dX9_nextToken_367 : decode cX9_nextToken 367 = .ok (.getfield 87, 3) := by decide +kernel
theorem dX9_nextToken_370 : decode cX9_nextToken 370 = .ok (.iconst 1, 1) := by decide +kernel
theorem dX9_nextToken_371 : decode cX9_nextToken 371 = .ok (.iadd, 1) := by decide +kernel
theorem dX9_nextToken_372 : decode cX9_nextToken 372 = .ok (.putfield 87, 3) := by decide +kernel
theorem dX9_nextToken_375 : decode cX9_nextToken 375 = .ok (.aload_n 0, 1) := by decide +kernel
theorem dX9_nextToken_376 : decode cX9_nextToken 376 = .ok (.iload_n 1, 1) := by decide +kernel
theorem dX9_nextToken_377 : decode cX9_nextToken 377 = .ok (.bipush 60, 2) := by decide +kernel
theorem dX9_nextToken_379 : decode cX9_nextToken 379 = .ok (.if_icmp .ne 7, 3) := by decide +kernel
theorem dX9_nextToken_382 : decode cX9_nextToken 382 = .ok (.iconst 4, 1) := by decide +kernel
theorem dX9_nextToken_383 : decode cX9_nextToken 383 = .ok (.goto 4, 3) := by decide +kernel
theorem dX9_nextToken_386 : decode cX9_nextToken 386 = .ok (.iconst 5, 1) := by decide +kernel
theorem dX9_nextToken_387 : decode cX9_nextToken 387 = .ok (.putfield 97, 3) := by decide +kernel
theorem dX9_nextToken_390 : decode cX9_nextToken 390 = .ok (.return_, 1) := by decide +kernel
theorem dX9_w3_0 : decode cX9_w3 0 = .ok (.iload_n 0, 1) := by decide +kernel
theorem dX9_w3_1 : decode cX9_w3 1 = .ok (.i2l, 1) := by decide +kernel
theorem dX9_w3_2 : decode cX9_w3 2 = .ok (.bipush 8, 2) := by decide +kernel
theorem dX9_w3_4 : decode cX9_w3 4 = .ok (.lshl, 1) := by decide +kernel
theorem dX9_w3_5 : decode cX9_w3 5 = .ok (.iload_n 1, 1) := by decide +kernel
theorem dX9_w3_6 : decode cX9_w3 6 = .ok (.i2l, 1) := by decide +kernel
theorem dX9_w3_7 : decode cX9_w3 7 = .ok (.lor, 1) := by decide +kernel
theorem dX9_w3_8 : decode cX9_w3 8 = .ok (.bipush 8, 2) := by decide +kernel
theorem dX9_w3_10 : decode cX9_w3 10 = .ok (.lshl, 1) := by decide +kernel
theorem dX9_w3_11 : decode cX9_w3 11 = .ok (.iload_n 2, 1) := by decide +kernel
theorem dX9_w3_12 : decode cX9_w3 12 = .ok (.i2l, 1) := by decide +kernel
theorem dX9_w3_13 : decode cX9_w3 13 = .ok (.lor, 1) := by decide +kernel
theorem dX9_w3_14 : decode cX9_w3 14 = .ok (.lreturn, 1) := by decide +kernel
theorem dX9_w5_0 : decode cX9_w5 0 = .ok (.iload_n 0, 1) := by decide +kernel
theorem dX9_w5_1 : decode cX9_w5 1 = .ok (.iload_n 1, 1) := by decide +kernel
theorem dX9_w5_2 : decode cX9_w5 2 = .ok (.iload_n 2, 1) := by decide +kernel
theorem dX9_w5_3 : decode cX9_w5 3 = .ok (.invokestatic 114, 3) := by decide +kernel
theorem dX9_w5_6 : decode cX9_w5 6 = .ok (.bipush 8, 2) := by decide +kernel
theorem dX9_w5_8 : decode cX9_w5 8 = .ok (.lshl, 1) := by decide +kernel
theorem dX9_w5_9 : decode cX9_w5 9 = .ok (.iload_n 3, 1) := by decide +kernel
theorem dX9_w5_10 : decode cX9_w5 10 = .ok (.i2l, 1) := by decide +kernel
theorem dX9_w5_11 : decode cX9_w5 11 = .ok (.lor, 1) := by decide +kernel
theorem dX9_w5_12 : decode cX9_w5 12 = .ok (.bipush 8, 2) := by decide +kernel
theorem dX9_w5_14 : decode cX9_w5 14 = .ok (.lshl, 1) := by decide +kernel
theorem dX9_w5_15 : decode cX9_w5 15 = .ok (.iload 4, 2) := by decide +kernel
theorem dX9_w5_17 : decode cX9_w5 17 = .ok (.i2l, 1) := by decide +kernel
theorem dX9_w5_18 : decode cX9_w5 18 = .ok (.lor, 1) := by decide +kernel
theorem dX9_w5_19 : decode cX9_w5 19 = .ok (.lreturn, 1) := by decide +kernel
theorem dX9_isWord_0 : decode cX9_isWord 0 = .ok (.aload_n 0, 1) := by decide +kernel
theorem dX9_isWord_1 : decode cX9_isWord 1 = .ok (.getfield 97, 3) := by decide +kernel
theorem dX9_isWord_4 : decode cX9_isWord 4 = .ok (.iconst 2, 1) := by decide +kernel
theorem dX9_isWord_5 : decode cX9_isWord 5 = .ok (.if_icmp .ne 16, 3) := by decide +kernel
theorem dX9_isWord_8 : decode cX9_isWord 8 = .ok (.aload_n 0, 1) := by decide +kernel
theorem dX9_isWord_9 : decode cX9_isWord 9 = .ok (.getfield 110, 3) := by decide +kernel
theorem dX9_isWord_12 : decode cX9_isWord 12 = .ok (.lload_n 1, 1) := by decide +kernel
theorem dX9_isWord_13 : decode cX9_isWord 13 = .ok (.lcmp, 1) := by decide +kernel
theorem dX9_isWord_14 : decode cX9_isWord 14 = .ok (.ifCond .ne 7, 3) := by decide +kernel
theorem dX9_isWord_17 : decode cX9_isWord 17 = .ok (.iconst 1, 1) := by decide +kernel
theorem dX9_isWord_18 : decode cX9_isWord 18 = .ok (.goto 4, 3) := by decide +kernel
theorem dX9_isWord_21 : decode cX9_isWord 21 = .ok (.iconst 0, 1) := by decide +kernel
theorem dX9_isWord_22 : decode cX9_isWord 22 = .ok (.ireturn, 1) := by decide +kernel
theorem dX9_w4_0 : decode cX9_w4 0 = .ok (.iload_n 0, 1) := by decide +kernel
theorem dX9_w4_1 : decode cX9_w4 1 = .ok (.iload_n 1, 1) := by decide +kernel
theorem dX9_w4_2 : decode cX9_w4 2 = .ok (.iload_n 2, 1) := by decide +kernel
theorem dX9_w4_3 : decode cX9_w4 3 = .ok (.invokestatic 114, 3) := by decide +kernel
theorem dX9_w4_6 : decode cX9_w4 6 = .ok (.bipush 8, 2) := by decide +kernel
theorem dX9_w4_8 : decode cX9_w4 8 = .ok (.lshl, 1) := by decide +kernel
theorem dX9_w4_9 : decode cX9_w4 9 = .ok (.iload_n 3, 1) := by decide +kernel
theorem dX9_w4_10 : decode cX9_w4 10 = .ok (.i2l, 1) := by decide +kernel
theorem dX9_w4_11 : decode cX9_w4 11 = .ok (.lor, 1) := by decide +kernel
theorem dX9_w4_12 : decode cX9_w4 12 = .ok (.lreturn, 1) := by decide +kernel
theorem dX9_sortOf_0 : decode cX9_sortOf 0 = .ok (.aload_n 0, 1) := by decide +kernel
theorem dX9_sortOf_1 : decode cX9_sortOf 1 = .ok (.bipush 111, 2) := by decide +kernel
theorem dX9_sortOf_3 : decode cX9_sortOf 3 = .ok (.bipush 112, 2) := by decide +kernel
theorem dX9_sortOf_5 : decode cX9_sortOf 5 = .ok (.bipush 101, 2) := by decide +kernel
theorem dX9_sortOf_7 : decode cX9_sortOf 7 = .ok (.bipush 110, 2) := by decide +kernel
theorem dX9_sortOf_9 : decode cX9_sortOf 9 = .ok (.bipush 115, 2) := by decide +kernel
theorem dX9_sortOf_11 : decode cX9_sortOf 11 = .ok (.invokestatic 118, 3) := by decide +kernel
theorem dX9_sortOf_14 : decode cX9_sortOf 14 = .ok (.invokevirtual 179, 3) := by decide +kernel
theorem dX9_sortOf_17 : decode cX9_sortOf 17 = .ok (.ifCond .eq 5, 3) := by decide +kernel
theorem dX9_sortOf_20 : decode cX9_sortOf 20 = .ok (.iconst 0, 1) := by decide +kernel
theorem dX9_sortOf_21 : decode cX9_sortOf 21 = .ok (.ireturn, 1) := by decide +kernel
theorem dX9_sortOf_22 : decode cX9_sortOf 22 = .ok (.aload_n 0, 1) := by decide +kernel
theorem dX9_sortOf_23 : decode cX9_sortOf 23 = .ok (.bipush 107, 2) := by decide +kernel
theorem dX9_sortOf_25 : decode cX9_sortOf 25 = .ok (.bipush 110, 2) := by decide +kernel
theorem dX9_sortOf_27 : decode cX9_sortOf 27 = .ok (.bipush 111, 2) := by decide +kernel
theorem dX9_sortOf_29 : decode cX9_sortOf 29 = .ok (.bipush 99, 2) := by decide +kernel
theorem dX9_sortOf_31 : decode cX9_sortOf 31 = .ok (.bipush 107, 2) := by decide +kernel
theorem dX9_sortOf_33 : decode cX9_sortOf 33 = .ok (.invokestatic 118, 3) := by decide +kernel
theorem dX9_sortOf_36 : decode cX9_sortOf 36 = .ok (.invokevirtual 179, 3) := by decide +kernel
theorem dX9_sortOf_39 : decode cX9_sortOf 39 = .ok (.ifCond .eq 7, 3) := by decide +kernel
theorem dX9_sortOf_42 : decode cX9_sortOf 42 = .ok (.iconst 1, 1) := by decide +kernel
theorem dX9_sortOf_43 : decode cX9_sortOf 43 = .ok (.goto 26, 3) := by decide +kernel
theorem dX9_sortOf_46 : decode cX9_sortOf 46 = .ok (.aload_n 0, 1) := by decide +kernel
theorem dX9_sortOf_47 : decode cX9_sortOf 47 = .ok (.bipush 119, 2) := by decide +kernel
theorem dX9_sortOf_49 : decode cX9_sortOf 49 = .ok (.bipush 97, 2) := by decide +kernel
theorem dX9_sortOf_51 : decode cX9_sortOf 51 = .ok (.bipush 105, 2) := by decide +kernel
theorem dX9_sortOf_53 : decode cX9_sortOf 53 = .ok (.bipush 116, 2) := by decide +kernel
theorem dX9_sortOf_55 : decode cX9_sortOf 55 = .ok (.invokestatic 142, 3) := by decide +kernel
theorem dX9_sortOf_58 : decode cX9_sortOf 58 = .ok (.invokevirtual 179, 3) := by decide +kernel
theorem dX9_sortOf_61 : decode cX9_sortOf 61 = .ok (.ifCond .eq 7, 3) := by decide +kernel
theorem dX9_sortOf_64 : decode cX9_sortOf 64 = .ok (.iconst 2, 1) := by decide +kernel
theorem dX9_sortOf_65 : decode cX9_sortOf 65 = .ok (.goto 4, 3) := by decide +kernel
theorem dX9_sortOf_68 : decode cX9_sortOf 68 = .ok (.iconst (-1), 1) := by decide +kernel
theorem dX9_sortOf_69 : decode cX9_sortOf 69 = .ok (.ireturn, 1) := by decide +kernel
-- X9_four
def B_X9_four_3 (n : Nat) (v1 : Int32) (q : Int32 × jS) : Option ((Int32 × jS) ⊕ (Int32 × jS)) :=
  (if q.1 < 0 then some (.inr (q.1, q.2)) else (if jin (q.2.1 0 5) 300 = true then (jl (upI q.2 4 (Int32.toNatClampNeg (q.2.1 0 5)) ((v1 >>> (q.1 &&& 31)) &&& (255 : Int32))) fun s22_2 => (jl (upI s22_2 0 5 ((s22_2.1 0 5) + 1)) fun s30_3 => some (.inl ((q.1 + (-8)), s30_3)))) else none))
def F_X9_four (n : Nat) (v1 : Int32) (s : jS) : Option jS :=
  ((lp (B_X9_four_3 n v1) n (24, s)).bind fun e3 => some e3.2)
def rm_X9_four : Room := { frames := 0, cells := 0, slots := 0, locals := 0 }
set_option maxHeartbeats 4000000 in
set_option maxRecDepth 100000 in
theorem m_X9_four {l : Launch} {D : va_G} {G : Nat → ClassId} {KV : jV} {ad : Nat → Nat} (n : Nat) (v1 : Int32) (s : jS) {p : jS} (h : F_X9_four n v1 s = some p) : jM l D G KV yX9_four cX9_four 3 none rm_X9_four [.ref (ad 0), .int v1] (jw 15 (cellM G) ad s) 0 0 (fun v u => v = none ∧ u = jw 15 (cellM G) ad p) := by
  refine jM.of (by decide) (Nat.le_of_ble_eq_true rfl) ?_
  intro K C
  unfold F_X9_four at h
  have lo3 : ∀ (v1 : Int32) (s : jS) (k : Nat) (q : Int32 × jS) (e : Int32 × jS), lp (B_X9_four_3 n v1) k q = some e → K 0 0 (jw 15 (cellM G) ad e.2) 39 [] [] → K 0 0 (jw 15 (cellM G) ad q.2) 3 [(0, .ref (ad 0)), (1, .int v1), (2, .int q.1)] [] := by
    intro v1 s k q e he hE
    refine jlp (KH := fun q => K 0 0 (jw 15 (cellM G) ad q.2) 3 [(0, .ref (ad 0)), (1, .int v1), (2, .int q.1)] []) (KE := fun e => K 0 0 (jw 15 (cellM G) ad e.2) 39 [] []) ?_ k q e he hE
    intro q o hb hin hout
    unfold B_X9_four_3 at hb
    show K 0 0 (jw 15 (cellM G) ad q.2) 3 [(0, .ref (ad 0)), (1, .int v1), (2, .int q.1)] []
    refine j_iload_n C dX9_four_3 2 rfl ?_
    refine j_if_lt C dX9_four_4 (tgt := 39) (by decide) (fun cq => ?_) (fun cq => ?_)
    · have hb := jite_t hb cq
      refine j_loc C [] rfl ?_
      have hx := hout _ (jinr hb)
      exact hx
    · have hb := jite_f hb cq
      refine j_aload_n C dX9_four_7 0 rfl ?_
      refine j_getW C dX9_four_8 inX9 rfl (by decide) rfl 4 (by decide) w_927 rfl rfl ?_
      refine j_aload_n C dX9_four_11 0 rfl ?_
      refine j_getW C dX9_four_12 inX9 rfl (by decide) rfl 5 (by decide) w_928 rfl rfl ?_
      refine j_iload_n C dX9_four_15 1 rfl ?_
      refine j_iload_n C dX9_four_16 2 rfl ?_
      refine j_ishr C dX9_four_17 ?_
      refine j_sipush C dX9_four_18 (v := 255) (by decide) ?_
      refine j_iand C dX9_four_21 ?_
      obtain ⟨c22_1, hb⟩ := jchk hb
      refine j_iastW C dX9_four_22 (by decide) (fun _ => rfl) (jin_vp c22_1) (fun s22_2 hs22_2 => ?_)
      have hb := jlet hb hs22_2
      refine j_aload_n C dX9_four_23 0 rfl ?_
      refine j_dup C dX9_four_24 rfl ?_
      refine j_getW C dX9_four_25 inX9 rfl (by decide) rfl 5 (by decide) w_928 rfl rfl ?_
      refine j_iconst C dX9_four_28 (v := 1) (by decide) ?_
      refine j_iadd C dX9_four_29 ?_
      refine j_putI C dX9_four_30 inX9 tyX9 tyX9_ok nmX9 rfl (by decide) 5 rfl rfl (by decide) w_928 rfl rfl rfl rfl (Nat.le_of_ble_eq_true rfl) (fun s30_3 hs30_3 => ?_)
      have hb := jlet hb hs30_3
      refine j_iinc C dX9_four_33 2 rfl (v := (q.1 + (-8))) rfl (by decide) rfl ?_
      refine j_goto C dX9_four_36 (tgt := 3) (by decide) ?_
      refine j_loc C [1, 2, 0] rfl ?_
      have hx := hin _ (jinl hb)
      exact hx
  show K 0 0 (jw 15 (cellM G) ad s) 0 [(0, .ref (ad 0)), (1, .int v1)] []
  refine j_bipush C dX9_four_0 (v := 24) (by decide) ?_
  refine j_istore_n C dX9_four_2 (by decide) rfl ?_
  refine j_loc C [1, 2, 0] rfl ?_
  obtain ⟨e3, he3, h⟩ := jbind h
  refine lo3 v1 s  n (24, s) e3 he3 ?_
  exact j_vret C dX9_four_39 rfl (Nat.zero_le _) (Nat.zero_le _) (jretWV h)
-- X9_feed
def F_X9_feed (n : Nat) (v1 : Int32) (v2 : Int32) (v3 : Int32) (v4 : Int32) (v5 : Int32) (s : jS) : Option (Int32 × jS) :=
  (if ((s.1 0 5) + 20) ≤ 300 then ((F_X9_four n v1 s).bind fun p17 => ((F_X9_four n v2 p17).bind fun p22 => ((F_X9_four n v3 p22).bind fun p27 => ((F_X9_four n v4 p27).bind fun p33 => ((F_X9_four n v5 p33).bind fun p39 => some ((p39.1 0 5), p39)))))) else some ((-1), s))
def rm_X9_feed : Room := { frames := 1, cells := 0, slots := 0, locals := 22 }
set_option maxHeartbeats 4000000 in
set_option maxRecDepth 100000 in
theorem m_X9_feed {l : Launch} {D : va_G} {G : Nat → ClassId} {KV : jV} {ad : Nat → Nat} (n : Nat) (v1 : Int32) (v2 : Int32) (v3 : Int32) (v4 : Int32) (v5 : Int32) (s : jS) {p : Int32 × jS} (h : F_X9_feed n v1 v2 v3 v4 v5 s = some p) : jM l D G KV yX9_feed cX9_feed 6 (some .int) rm_X9_feed [.ref (ad 0), .int v1, .int v2, .int v3, .int v4, .int v5] (jw 15 (cellM G) ad s) 0 0 (fun v u => v = some (.int p.1) ∧ u = jw 15 (cellM G) ad p.2) := by
  refine jM.of (by decide) (Nat.le_of_ble_eq_true rfl) ?_
  intro K C
  unfold F_X9_feed at h
  show K 0 0 (jw 15 (cellM G) ad s) 0 [(0, .ref (ad 0)), (1, .int v1), (2, .int v2), (3, .int v3), (4, .int v4), (5, .int v5)] []
  refine j_aload_n C dX9_feed_0 0 rfl ?_
  refine j_getW C dX9_feed_1 inX9 rfl (by decide) rfl 5 (by decide) w_928 rfl rfl ?_
  refine j_bipush C dX9_feed_4 (v := 20) (by decide) ?_
  refine j_iadd C dX9_feed_6 ?_
  refine j_sipush C dX9_feed_7 (v := 300) (by decide) ?_
  refine j_icmp_le C dX9_feed_10 (tgt := 15) (by decide) (fun cq => ?_) (fun cq => ?_)
  · have h := jite_t h cq
    refine j_aload_n C dX9_feed_15 0 rfl ?_
    refine j_iload_n C dX9_feed_16 1 rfl ?_
    obtain ⟨p17, he17, h⟩ := jbind h
    refine j_cV0 C dX9_feed_17 (m_X9_four n v1 s he17) kc_X9_four w_1048 w_1050 wp_45 w_11 jy_X9_four ⟨⟨Nat.le_of_ble_eq_true rfl, Nat.le_of_ble_eq_true rfl⟩, ⟨rfl, rfl⟩, ⟨Nat.zero_le _, Nat.zero_le _⟩⟩ (Nat.le_of_ble_eq_true rfl) (by decide) rfl (r := (RX9, TX9, 32)) rfl rfl rfl (fun _ _ h => h) ?_
    refine j_aload_n C dX9_feed_20 0 rfl ?_
    refine j_iload_n C dX9_feed_21 2 rfl ?_
    obtain ⟨p22, he22, h⟩ := jbind h
    refine j_cV0 C dX9_feed_22 (m_X9_four n v2 p17 he22) kc_X9_four w_1048 w_1050 wp_45 w_11 jy_X9_four ⟨⟨Nat.le_of_ble_eq_true rfl, Nat.le_of_ble_eq_true rfl⟩, ⟨rfl, rfl⟩, ⟨Nat.zero_le _, Nat.zero_le _⟩⟩ (Nat.le_of_ble_eq_true rfl) (by decide) rfl (r := (RX9, TX9, 32)) rfl rfl rfl (fun _ _ h => h) ?_
    refine j_aload_n C dX9_feed_25 0 rfl ?_
    refine j_iload_n C dX9_feed_26 3 rfl ?_
    obtain ⟨p27, he27, h⟩ := jbind h
    refine j_cV0 C dX9_feed_27 (m_X9_four n v3 p22 he27) kc_X9_four w_1048 w_1050 wp_45 w_11 jy_X9_four ⟨⟨Nat.le_of_ble_eq_true rfl, Nat.le_of_ble_eq_true rfl⟩, ⟨rfl, rfl⟩, ⟨Nat.zero_le _, Nat.zero_le _⟩⟩ (Nat.le_of_ble_eq_true rfl) (by decide) rfl (r := (RX9, TX9, 32)) rfl rfl rfl (fun _ _ h => h) ?_
    refine j_aload_n C dX9_feed_30 0 rfl ?_
    refine j_iload C dX9_feed_31 4 rfl ?_
    obtain ⟨p33, he33, h⟩ := jbind h
    refine j_cV0 C dX9_feed_33 (m_X9_four n v4 p27 he33) kc_X9_four w_1048 w_1050 wp_45 w_11 jy_X9_four ⟨⟨Nat.le_of_ble_eq_true rfl, Nat.le_of_ble_eq_true rfl⟩, ⟨rfl, rfl⟩, ⟨Nat.zero_le _, Nat.zero_le _⟩⟩ (Nat.le_of_ble_eq_true rfl) (by decide) rfl (r := (RX9, TX9, 32)) rfl rfl rfl (fun _ _ h => h) ?_
    refine j_aload_n C dX9_feed_36 0 rfl ?_
    refine j_iload C dX9_feed_37 5 rfl ?_
    obtain ⟨p39, he39, h⟩ := jbind h
    refine j_cV0 C dX9_feed_39 (m_X9_four n v5 p33 he39) kc_X9_four w_1048 w_1050 wp_45 w_11 jy_X9_four ⟨⟨Nat.le_of_ble_eq_true rfl, Nat.le_of_ble_eq_true rfl⟩, ⟨rfl, rfl⟩, ⟨Nat.zero_le _, Nat.zero_le _⟩⟩ (Nat.le_of_ble_eq_true rfl) (by decide) rfl (r := (RX9, TX9, 32)) rfl rfl rfl (fun _ _ h => h) ?_
    refine j_aload_n C dX9_feed_42 0 rfl ?_
    refine j_getW C dX9_feed_43 inX9 rfl (by decide) rfl 5 (by decide) w_928 rfl rfl ?_
    exact j_iret C dX9_feed_46 rfl rfl (Nat.zero_le _) (Nat.zero_le _) (jretWI h)
  · have h := jite_f h cq
    refine j_iconst C dX9_feed_13 (v := (-1)) (by decide) ?_
    exact j_iret C dX9_feed_14 rfl rfl (Nat.zero_le _) (Nat.zero_le _) (jretWI h)
-- X9_end
def F_X9_end (v1 : Int32) (s : jS) : Option (Int32 × jS) :=
  (if (F_X9_isIn v1 0 (s.1 0 5)) = true then (jl (upI s 0 5 v1) fun s16_1 => some (v1, s16_1)) else some ((-1), s))
def rm_X9_end : Room := { frames := 1, cells := 0, slots := 0, locals := 22 }
set_option maxHeartbeats 4000000 in
set_option maxRecDepth 100000 in
theorem m_X9_end {l : Launch} {D : va_G} {G : Nat → ClassId} {KV : jV} {ad : Nat → Nat} (v1 : Int32) (s : jS) {p : Int32 × jS} (h : F_X9_end v1 s = some p) : jM l D G KV yX9_end cX9_end 2 (some .int) rm_X9_end [.ref (ad 0), .int v1] (jw 15 (cellM G) ad s) 0 0 (fun v u => v = some (.int p.1) ∧ u = jw 15 (cellM G) ad p.2) := by
  refine jM.of (by decide) (Nat.le_of_ble_eq_true rfl) ?_
  intro K C
  unfold F_X9_end at h
  show K 0 0 (jw 15 (cellM G) ad s) 0 [(0, .ref (ad 0)), (1, .int v1)] []
  refine j_iload_n C dX9_end_0 1 rfl ?_
  refine j_iconst C dX9_end_1 (v := 0) (by decide) ?_
  refine j_aload_n C dX9_end_2 0 rfl ?_
  refine j_getW C dX9_end_3 inX9 rfl (by decide) rfl 5 (by decide) w_928 rfl rfl ?_
  refine j_cS1 C dX9_end_6 (m_X9_isIn v1 0 (s.1 0 5) rfl) kc_X9_isIn w_1025 w_1026 w_11 jy_X9_isIn ⟨⟨Nat.le_of_ble_eq_true rfl, Nat.le_of_ble_eq_true rfl⟩, ⟨rfl, rfl⟩, ⟨Nat.zero_le _, Nat.zero_le _⟩⟩ (Nat.le_of_ble_eq_true rfl) rfl (fun _ _ h => h) ?_
  refine j_if_ne C dX9_end_9 (tgt := 14) (by decide) (fun cq => ?_) (fun cq => ?_)
  · have h := jite_t h (jb_t cq)
    refine j_aload_n C dX9_end_14 0 rfl ?_
    refine j_iload_n C dX9_end_15 1 rfl ?_
    refine j_putI C dX9_end_16 inX9 tyX9 tyX9_ok nmX9 rfl (by decide) 5 rfl rfl (by decide) w_928 rfl rfl rfl rfl (Nat.le_of_ble_eq_true rfl) (fun s16_1 hs16_1 => ?_)
    have h := jlet h hs16_1
    refine j_iload_n C dX9_end_19 1 rfl ?_
    exact j_iret C dX9_end_20 rfl rfl (Nat.zero_le _) (Nat.zero_le _) (jretWI h)
  · have h := jite_f h (jb_f cq)
    refine j_iconst C dX9_end_12 (v := (-1)) (by decide) ?_
    exact j_iret C dX9_end_13 rfl rfl (Nat.zero_le _) (Nat.zero_le _) (jretWI h)
-- X9_byteAt
def F_X9_byteAt (v1 : Int32) (s : jS) : Option Int32 :=
  (if (s.1 0 5) ≤ v1 then some (-1) else (if jin v1 300 = true then some (s.1 4 (Int32.toNatClampNeg v1)) else none))
def rm_X9_byteAt : Room := { frames := 0, cells := 0, slots := 0, locals := 0 }
set_option maxHeartbeats 4000000 in
set_option maxRecDepth 100000 in
theorem m_X9_byteAt {l : Launch} {D : va_G} {G : Nat → ClassId} {KV : jV} {ad : Nat → Nat} (v1 : Int32) (s : jS) {p : Int32} (h : F_X9_byteAt v1 s = some p) : jM l D G KV yX9_byteAt cX9_byteAt 2 (some .int) rm_X9_byteAt [.ref (ad 0), .int v1] (jw 15 (cellM G) ad s) 0 0 (fun v u => v = some (.int p) ∧ u = jw 15 (cellM G) ad s) := by
  refine jM.of (by decide) (Nat.le_of_ble_eq_true rfl) ?_
  intro K C
  unfold F_X9_byteAt at h
  show K 0 0 (jw 15 (cellM G) ad s) 0 [(0, .ref (ad 0)), (1, .int v1)] []
  refine j_iload_n C dX9_byteAt_0 1 rfl ?_
  refine j_aload_n C dX9_byteAt_1 0 rfl ?_
  refine j_getW C dX9_byteAt_2 inX9 rfl (by decide) rfl 5 (by decide) w_928 rfl rfl ?_
  refine j_icmp_ge C dX9_byteAt_5 (tgt := 17) (by decide) (fun cq => ?_) (fun cq => ?_)
  · have h := jite_t h cq
    refine j_iconst C dX9_byteAt_17 (v := (-1)) (by decide) ?_
    exact j_iret C dX9_byteAt_18 rfl rfl (Nat.zero_le _) (Nat.zero_le _) (jretPI h)
  · have h := jite_f h cq
    refine j_aload_n C dX9_byteAt_8 0 rfl ?_
    refine j_getW C dX9_byteAt_9 inX9 rfl (by decide) rfl 4 (by decide) w_927 rfl rfl ?_
    refine j_iload_n C dX9_byteAt_12 1 rfl ?_
    obtain ⟨c13_1, h⟩ := jchk h
    refine j_ialdW C dX9_byteAt_13 (by decide) rfl (jin_vp c13_1) ?_
    refine j_goto C dX9_byteAt_14 (tgt := 18) (by decide) ?_
    exact j_iret C dX9_byteAt_18 rfl rfl (Nat.zero_le _) (Nat.zero_le _) (jretPI h)
-- X9_isDigit
def F_X9_isDigit (v0 : Int32) : Bool :=
  (F_X9_isIn v0 48 57)
def rm_X9_isDigit : Room := { frames := 1, cells := 0, slots := 0, locals := 22 }
set_option maxHeartbeats 4000000 in
set_option maxRecDepth 100000 in
theorem m_X9_isDigit {l : Launch} {D : va_G} {G : Nat → ClassId} {KV : jV} {ad : Nat → Nat} {s : jS} (v0 : Int32) {p : Bool} (h : F_X9_isDigit v0 = p) : jM l D G KV yX9_isDigit cX9_isDigit 1 (some .boolean) rm_X9_isDigit [.int v0] (jw 15 (cellM G) ad s) 0 0 (fun v u => v = some (.int (jb p)) ∧ u = jw 15 (cellM G) ad s) := by
  refine jM.of (by decide) (Nat.le_of_ble_eq_true rfl) ?_
  intro K C
  unfold F_X9_isDigit at h
  show K 0 0 (jw 15 (cellM G) ad s) 0 [(0, .int v0)] []
  refine j_iload_n C dX9_isDigit_0 0 rfl ?_
  refine j_bipush C dX9_isDigit_1 (v := 48) (by decide) ?_
  refine j_bipush C dX9_isDigit_3 (v := 57) (by decide) ?_
  refine j_cS1 C dX9_isDigit_5 (m_X9_isIn v0 48 57 rfl) kc_X9_isIn w_1025 w_1026 w_11 jy_X9_isIn ⟨⟨Nat.le_of_ble_eq_true rfl, Nat.le_of_ble_eq_true rfl⟩, ⟨rfl, rfl⟩, ⟨Nat.zero_le _, Nat.zero_le _⟩⟩ (Nat.le_of_ble_eq_true rfl) rfl (fun _ _ h => h) ?_
  exact j_iret C dX9_isDigit_8 rfl (jb_nar (F_X9_isIn v0 48 57)) (Nat.zero_le _) (Nat.zero_le _) (jretTB h)
-- X9_isLetter
def F_X9_isLetter (v0 : Int32) : Bool :=
  (if (F_X9_isIn v0 97 122) = true then true else (if (F_X9_isIn v0 65 90) = true then true else false))
def rm_X9_isLetter : Room := { frames := 1, cells := 0, slots := 0, locals := 22 }
set_option maxHeartbeats 4000000 in
set_option maxRecDepth 100000 in
theorem m_X9_isLetter {l : Launch} {D : va_G} {G : Nat → ClassId} {KV : jV} {ad : Nat → Nat} {s : jS} (v0 : Int32) {p : Bool} (h : F_X9_isLetter v0 = p) : jM l D G KV yX9_isLetter cX9_isLetter 1 (some .boolean) rm_X9_isLetter [.int v0] (jw 15 (cellM G) ad s) 0 0 (fun v u => v = some (.int (jb p)) ∧ u = jw 15 (cellM G) ad s) := by
  refine jM.of (by decide) (Nat.le_of_ble_eq_true rfl) ?_
  intro K C
  unfold F_X9_isLetter at h
  show K 0 0 (jw 15 (cellM G) ad s) 0 [(0, .int v0)] []
  refine j_iload_n C dX9_isLetter_0 0 rfl ?_
  refine j_bipush C dX9_isLetter_1 (v := 97) (by decide) ?_
  refine j_bipush C dX9_isLetter_3 (v := 122) (by decide) ?_
  refine j_cS1 C dX9_isLetter_5 (m_X9_isIn v0 97 122 rfl) kc_X9_isIn w_1025 w_1026 w_11 jy_X9_isIn ⟨⟨Nat.le_of_ble_eq_true rfl, Nat.le_of_ble_eq_true rfl⟩, ⟨rfl, rfl⟩, ⟨Nat.zero_le _, Nat.zero_le _⟩⟩ (Nat.le_of_ble_eq_true rfl) rfl (fun _ _ h => h) ?_
  refine j_if_ne C dX9_isLetter_8 (tgt := 22) (by decide) (fun cq => ?_) (fun cq => ?_)
  · have h := jite_t h (jb_t cq)
    refine j_iconst C dX9_isLetter_22 (v := 1) (by decide) ?_
    refine j_goto C dX9_isLetter_23 (tgt := 27) (by decide) ?_
    exact j_iret C dX9_isLetter_27 rfl (jb_nar true) (Nat.zero_le _) (Nat.zero_le _) (jretTB h)
  · have h := jite_f h (jb_f cq)
    refine j_iload_n C dX9_isLetter_11 0 rfl ?_
    refine j_bipush C dX9_isLetter_12 (v := 65) (by decide) ?_
    refine j_bipush C dX9_isLetter_14 (v := 90) (by decide) ?_
    refine j_cS1 C dX9_isLetter_16 (m_X9_isIn v0 65 90 rfl) kc_X9_isIn w_1025 w_1026 w_11 jy_X9_isIn ⟨⟨Nat.le_of_ble_eq_true rfl, Nat.le_of_ble_eq_true rfl⟩, ⟨rfl, rfl⟩, ⟨Nat.zero_le _, Nat.zero_le _⟩⟩ (Nat.le_of_ble_eq_true rfl) rfl (fun _ _ h => h) ?_
    refine j_if_eq C dX9_isLetter_19 (tgt := 26) (by decide) (fun cq => ?_) (fun cq => ?_)
    · have h := jite_f h (jb_f cq)
      refine j_iconst C dX9_isLetter_26 (v := 0) (by decide) ?_
      exact j_iret C dX9_isLetter_27 rfl (jb_nar false) (Nat.zero_le _) (Nat.zero_le _) (jretTB h)
    · have h := jite_t h (jb_t cq)
      refine j_iconst C dX9_isLetter_22 (v := 1) (by decide) ?_
      refine j_goto C dX9_isLetter_23 (tgt := 27) (by decide) ?_
      exact j_iret C dX9_isLetter_27 rfl (jb_nar true) (Nat.zero_le _) (Nat.zero_le _) (jretTB h)
-- X9_nextToken
def B_X9_nextToken_0 (n : Nat) (q : jS) : Option (jS ⊕ jS) :=
  ((F_X9_byteAt (q.1 0 8) q).bind fun p5 => (if p5 = 32 then (jl (upI q 0 8 ((q.1 0 8) + 1)) fun s33_1 => some (.inl s33_1)) else ((F_X9_byteAt (q.1 0 8) q).bind fun p18 => (if p18 = 10 then (jl (upI q 0 8 ((q.1 0 8) + 1)) fun s33_2 => some (.inl s33_2)) else some (.inr q)))))
def J_X9_nextToken_352 (n : Nat) (v1 : Int32) (s : jS) : Option jS :=
  ((F_X9_byteAt (s.1 0 8) s).bind fun p357 => (if p357 = 61 then (jl (upI s 0 8 ((s.1 0 8) + 1)) fun s372_6 => (if v1 = 60 then (jl (upI s372_6 0 10 4) fun s387_8 => some s387_8) else (jl (upI s372_6 0 10 5) fun s387_7 => some s387_7))) else some s))
def J_X9_nextToken_337 (n : Nat) (v1 : Int32) (k1 : Int32) (s : jS) : Option jS :=
  (jl (upI s 0 10 k1) fun s337_5 => (if v1 = 60 then J_X9_nextToken_352 n v1 s337_5 else (if v1 = 62 then J_X9_nextToken_352 n v1 s337_5 else some s337_5)))
def J_X9_nextToken_326 (n : Nat) (v1 : Int32) (k0 : Bool) (s : jS) : Option jS :=
  (if k0 = true then J_X9_nextToken_337 n v1 v1 s else J_X9_nextToken_337 n v1 3 s)
def J_X9_nextToken_321 (n : Nat) (v1 : Int32) (s : jS) : Option jS :=
  J_X9_nextToken_326 n v1 true s
def B_X9_nextToken_161 (n : Nat) (q : jS) : Option (jS ⊕ jS) :=
  ((F_X9_byteAt (q.1 0 8) q).bind fun p166 => (if (F_X9_isLetter p166) = true then (if 7 ≤ ((q.1 0 8) - (q.1 0 9)) then (jl (upI q 0 8 ((q.1 0 8) + 1)) fun s217_11 => some (.inl s217_11)) else ((F_X9_byteAt (q.1 0 8) q).bind fun p202 => (jl (upL q 0 12 (((q.2 0 12) <<< ((8 : Int32).toInt64 &&& 63)) ||| (Int32.toInt64 p202))) fun s207_12 => (jl (upI s207_12 0 8 ((s207_12.1 0 8) + 1)) fun s217_13 => some (.inl s217_13))))) else some (.inr q)))
def B_X9_nextToken_85 (n : Nat) (q : jS) : Option (jS ⊕ jS) :=
  ((F_X9_byteAt (q.1 0 8) q).bind fun p90 => (if (F_X9_isDigit p90) = true then (if 100000 ≤ (q.1 0 11) then (jl (upI q 0 8 ((q.1 0 8) + 1)) fun s138_17 => some (.inl s138_17)) else ((F_X9_byteAt (q.1 0 8) q).bind fun p121 => (jl (upI q 0 11 (((10 * (q.1 0 11)) + p121) - 48)) fun s128_18 => (jl (upI s128_18 0 8 ((s128_18.1 0 8) + 1)) fun s138_19 => some (.inl s138_19))))) else some (.inr q)))
def F_X9_nextToken (n : Nat) (s : jS) : Option jS :=
  ((lp (B_X9_nextToken_0 n) n s).bind fun e0 => (jl (upI e0 0 9 (e0.1 0 8)) fun s44_3 => ((F_X9_byteAt (s44_3.1 0 8) s44_3).bind fun p52 => (if 0 ≤ p52 then (if (F_X9_isDigit p52) = true then (jl (upI s44_3 0 10 1) fun s77_15 => (jl (upI s77_15 0 11 0) fun s82_16 => ((lp (B_X9_nextToken_85 n) n s82_16).bind fun e85 => some e85))) else (if (F_X9_isLetter p52) = true then (jl (upI s44_3 0 10 2) fun s153_9 => (jl (upL s153_9 0 12 0) fun s158_10 => ((lp (B_X9_nextToken_161 n) n s158_10).bind fun e161 => (if ((e161.1 0 8) - (e161.1 0 9)) ≤ 7 then some e161 else (jl (upL e161 0 12 0) fun s239_14 => some s239_14))))) else (jl (upI s44_3 0 8 ((s44_3.1 0 8) + 1)) fun s252_4 => (if p52 = 60 then J_X9_nextToken_321 n p52 s252_4 else (if p52 = 62 then J_X9_nextToken_321 n p52 s252_4 else (if p52 = 61 then J_X9_nextToken_321 n p52 s252_4 else (if p52 = 35 then J_X9_nextToken_321 n p52 s252_4 else (if p52 = 43 then J_X9_nextToken_321 n p52 s252_4 else (if p52 = 45 then J_X9_nextToken_321 n p52 s252_4 else (if p52 = 42 then J_X9_nextToken_321 n p52 s252_4 else (if p52 = 47 then J_X9_nextToken_321 n p52 s252_4 else (if p52 = 40 then J_X9_nextToken_321 n p52 s252_4 else (if p52 = 41 then J_X9_nextToken_321 n p52 s252_4 else (if p52 = 59 then J_X9_nextToken_321 n p52 s252_4 else J_X9_nextToken_326 n p52 false s252_4)))))))))))))) else (jl (upI s44_3 0 10 0) fun s62_20 => some s62_20)))))
def rm_X9_nextToken : Room := { frames := 2, cells := 0, slots := 0, locals := 42 }
set_option maxHeartbeats 4000000 in
set_option maxRecDepth 100000 in
theorem m_X9_nextToken {l : Launch} {D : va_G} {G : Nat → ClassId} {KV : jV} {ad : Nat → Nat} (n : Nat) (s : jS) {p : jS} (h : F_X9_nextToken n s = some p) : jM l D G KV yX9_nextToken cX9_nextToken 3 none rm_X9_nextToken [.ref (ad 0)] (jw 15 (cellM G) ad s) 0 0 (fun v u => v = none ∧ u = jw 15 (cellM G) ad p) := by
  refine jM.of (by decide) (Nat.le_of_ble_eq_true rfl) ?_
  intro K C
  unfold F_X9_nextToken at h
  have lo0 : ∀ (s : jS) (k : Nat) (q : jS) (e : jS), lp (B_X9_nextToken_0 n) k q = some e → K 0 0 (jw 15 (cellM G) ad e) 39 [(0, .ref (ad 0))] [] → K 0 0 (jw 15 (cellM G) ad q) 0 [(0, .ref (ad 0))] [] := by
    intro s k q e he hE
    refine jlp (KH := fun q => K 0 0 (jw 15 (cellM G) ad q) 0 [(0, .ref (ad 0))] []) (KE := fun e => K 0 0 (jw 15 (cellM G) ad e) 39 [(0, .ref (ad 0))] []) ?_ k q e he hE
    intro q o hb hin hout
    unfold B_X9_nextToken_0 at hb
    show K 0 0 (jw 15 (cellM G) ad q) 0 [(0, .ref (ad 0))] []
    refine j_aload_n C dX9_nextToken_0 0 rfl ?_
    refine j_aload_n C dX9_nextToken_1 0 rfl ?_
    refine j_getW C dX9_nextToken_2 inX9 rfl (by decide) rfl 8 (by decide) w_931 rfl rfl ?_
    obtain ⟨p5, he5, hb⟩ := jbind hb
    refine j_cV1 C dX9_nextToken_5 (m_X9_byteAt (q.1 0 8) q he5) kc_X9_byteAt w_1068 w_1070 wp_48 w_11 jy_X9_byteAt ⟨⟨Nat.le_of_ble_eq_true rfl, Nat.le_of_ble_eq_true rfl⟩, ⟨rfl, rfl⟩, ⟨Nat.zero_le _, Nat.zero_le _⟩⟩ (Nat.le_of_ble_eq_true rfl) (by decide) rfl (r := (RX9, TX9, 32)) rfl rfl rfl (fun _ _ h => h) ?_
    refine j_bipush C dX9_nextToken_8 (v := 32) (by decide) ?_
    refine j_icmp_eq C dX9_nextToken_10 (tgt := 26) (by decide) (fun cq => ?_) (fun cq => ?_)
    · have hb := jite_t hb cq
      refine j_aload_n C dX9_nextToken_26 0 rfl ?_
      refine j_dup C dX9_nextToken_27 rfl ?_
      refine j_getW C dX9_nextToken_28 inX9 rfl (by decide) rfl 8 (by decide) w_931 rfl rfl ?_
      refine j_iconst C dX9_nextToken_31 (v := 1) (by decide) ?_
      refine j_iadd C dX9_nextToken_32 ?_
      refine j_putI C dX9_nextToken_33 inX9 tyX9 tyX9_ok nmX9 rfl (by decide) 8 rfl rfl (by decide) w_931 rfl rfl rfl rfl (Nat.le_of_ble_eq_true rfl) (fun s33_1 hs33_1 => ?_)
      have hb := jlet hb hs33_1
      refine j_goto C dX9_nextToken_36 (tgt := 0) (by decide) ?_
      refine j_loc C [0] rfl ?_
      have hx := hin _ (jinl hb)
      exact hx
    · have hb := jite_f hb cq
      refine j_aload_n C dX9_nextToken_13 0 rfl ?_
      refine j_aload_n C dX9_nextToken_14 0 rfl ?_
      refine j_getW C dX9_nextToken_15 inX9 rfl (by decide) rfl 8 (by decide) w_931 rfl rfl ?_
      obtain ⟨p18, he18, hb⟩ := jbind hb
      refine j_cV1 C dX9_nextToken_18 (m_X9_byteAt (q.1 0 8) q he18) kc_X9_byteAt w_1068 w_1070 wp_48 w_11 jy_X9_byteAt ⟨⟨Nat.le_of_ble_eq_true rfl, Nat.le_of_ble_eq_true rfl⟩, ⟨rfl, rfl⟩, ⟨Nat.zero_le _, Nat.zero_le _⟩⟩ (Nat.le_of_ble_eq_true rfl) (by decide) rfl (r := (RX9, TX9, 32)) rfl rfl rfl (fun _ _ h => h) ?_
      refine j_bipush C dX9_nextToken_21 (v := 10) (by decide) ?_
      refine j_icmp_ne C dX9_nextToken_23 (tgt := 39) (by decide) (fun cq => ?_) (fun cq => ?_)
      · have hb := jite_f hb cq
        refine j_loc C [0] rfl ?_
        have hx := hout _ (jinr hb)
        exact hx
      · have hb := jite_t hb cq
        refine j_aload_n C dX9_nextToken_26 0 rfl ?_
        refine j_dup C dX9_nextToken_27 rfl ?_
        refine j_getW C dX9_nextToken_28 inX9 rfl (by decide) rfl 8 (by decide) w_931 rfl rfl ?_
        refine j_iconst C dX9_nextToken_31 (v := 1) (by decide) ?_
        refine j_iadd C dX9_nextToken_32 ?_
        refine j_putI C dX9_nextToken_33 inX9 tyX9 tyX9_ok nmX9 rfl (by decide) 8 rfl rfl (by decide) w_931 rfl rfl rfl rfl (Nat.le_of_ble_eq_true rfl) (fun s33_2 hs33_2 => ?_)
        have hb := jlet hb hs33_2
        refine j_goto C dX9_nextToken_36 (tgt := 0) (by decide) ?_
        refine j_loc C [0] rfl ?_
        have hx := hin _ (jinl hb)
        exact hx
  have jn352 : ∀ (v1 : Int32) (s : jS) (_ : J_X9_nextToken_352 n v1 s = some p), K 0 0 (jw 15 (cellM G) ad s) 352 [(0, .ref (ad 0)), (1, .int v1)] [] := by
    intro v1 s h
    unfold J_X9_nextToken_352 at h
    refine j_aload_n C dX9_nextToken_352 0 rfl ?_
    refine j_aload_n C dX9_nextToken_353 0 rfl ?_
    refine j_getW C dX9_nextToken_354 inX9 rfl (by decide) rfl 8 (by decide) w_931 rfl rfl ?_
    obtain ⟨p357, he357, h⟩ := jbind h
    refine j_cV1 C dX9_nextToken_357 (m_X9_byteAt (s.1 0 8) s he357) kc_X9_byteAt w_1068 w_1070 wp_48 w_11 jy_X9_byteAt ⟨⟨Nat.le_of_ble_eq_true rfl, Nat.le_of_ble_eq_true rfl⟩, ⟨rfl, rfl⟩, ⟨Nat.zero_le _, Nat.zero_le _⟩⟩ (Nat.le_of_ble_eq_true rfl) (by decide) rfl (r := (RX9, TX9, 32)) rfl rfl rfl (fun _ _ h => h) ?_
    refine j_bipush C dX9_nextToken_360 (v := 61) (by decide) ?_
    refine j_icmp_ne C dX9_nextToken_362 (tgt := 390) (by decide) (fun cq => ?_) (fun cq => ?_)
    · have h := jite_f h cq
      exact j_vret C dX9_nextToken_390 rfl (Nat.zero_le _) (Nat.zero_le _) (jretWV h)
    · have h := jite_t h cq
      refine j_aload_n C dX9_nextToken_365 0 rfl ?_
      refine j_dup C dX9_nextToken_366 rfl ?_
      refine j_getW C dX9_nextToken_367 inX9 rfl (by decide) rfl 8 (by decide) w_931 rfl rfl ?_
      refine j_iconst C dX9_nextToken_370 (v := 1) (by decide) ?_
      refine j_iadd C dX9_nextToken_371 ?_
      refine j_putI C dX9_nextToken_372 inX9 tyX9 tyX9_ok nmX9 rfl (by decide) 8 rfl rfl (by decide) w_931 rfl rfl rfl rfl (Nat.le_of_ble_eq_true rfl) (fun s372_6 hs372_6 => ?_)
      have h := jlet h hs372_6
      refine j_aload_n C dX9_nextToken_375 0 rfl ?_
      refine j_iload_n C dX9_nextToken_376 1 rfl ?_
      refine j_bipush C dX9_nextToken_377 (v := 60) (by decide) ?_
      refine j_icmp_ne C dX9_nextToken_379 (tgt := 386) (by decide) (fun cq => ?_) (fun cq => ?_)
      · have h := jite_f h cq
        refine j_iconst C dX9_nextToken_386 (v := 5) (by decide) ?_
        refine j_putI C dX9_nextToken_387 inX9 tyX9 tyX9_ok nmX9 rfl (by decide) 10 rfl rfl (by decide) w_933 rfl rfl rfl rfl (Nat.le_of_ble_eq_true rfl) (fun s387_7 hs387_7 => ?_)
        have h := jlet h hs387_7
        exact j_vret C dX9_nextToken_390 rfl (Nat.zero_le _) (Nat.zero_le _) (jretWV h)
      · have h := jite_t h cq
        refine j_iconst C dX9_nextToken_382 (v := 4) (by decide) ?_
        refine j_goto C dX9_nextToken_383 (tgt := 387) (by decide) ?_
        refine j_putI C dX9_nextToken_387 inX9 tyX9 tyX9_ok nmX9 rfl (by decide) 10 rfl rfl (by decide) w_933 rfl rfl rfl rfl (Nat.le_of_ble_eq_true rfl) (fun s387_8 hs387_8 => ?_)
        have h := jlet h hs387_8
        exact j_vret C dX9_nextToken_390 rfl (Nat.zero_le _) (Nat.zero_le _) (jretWV h)
  have jn337 : ∀ (v1 : Int32) (k1 : Int32) (s : jS) (_ : J_X9_nextToken_337 n v1 k1 s = some p), K 0 0 (jw 15 (cellM G) ad s) 337 [(0, .ref (ad 0)), (1, .int v1)] [.int k1, .ref (ad 0)] := by
    intro v1 k1 s h
    unfold J_X9_nextToken_337 at h
    refine j_putI C dX9_nextToken_337 inX9 tyX9 tyX9_ok nmX9 rfl (by decide) 10 rfl rfl (by decide) w_933 rfl rfl rfl rfl (Nat.le_of_ble_eq_true rfl) (fun s337_5 hs337_5 => ?_)
    have h := jlet h hs337_5
    refine j_iload_n C dX9_nextToken_340 1 rfl ?_
    refine j_bipush C dX9_nextToken_341 (v := 60) (by decide) ?_
    refine j_icmp_eq C dX9_nextToken_343 (tgt := 352) (by decide) (fun cq => ?_) (fun cq => ?_)
    · have h := jite_t h cq
      refine j_loc C [0, 1] rfl ?_
      exact jn352 v1 s337_5  h
    · have h := jite_f h cq
      refine j_iload_n C dX9_nextToken_346 1 rfl ?_
      refine j_bipush C dX9_nextToken_347 (v := 62) (by decide) ?_
      refine j_icmp_ne C dX9_nextToken_349 (tgt := 390) (by decide) (fun cq => ?_) (fun cq => ?_)
      · have h := jite_f h cq
        exact j_vret C dX9_nextToken_390 rfl (Nat.zero_le _) (Nat.zero_le _) (jretWV h)
      · have h := jite_t h cq
        refine j_loc C [0, 1] rfl ?_
        exact jn352 v1 s337_5  h
  have jn326 : ∀ (v1 : Int32) (k0 : Bool) (s : jS) (_ : J_X9_nextToken_326 n v1 k0 s = some p), K 0 0 (jw 15 (cellM G) ad s) 326 [(0, .ref (ad 0)), (1, .int v1)] [.int (jb k0)] := by
    intro v1 k0 s h
    unfold J_X9_nextToken_326 at h
    refine j_istore_n C dX9_nextToken_326 (by decide) rfl ?_
    refine j_aload_n C dX9_nextToken_327 1 rfl ?_
    refine j_iload_n C dX9_nextToken_328 0 rfl ?_
    refine j_if_eq C dX9_nextToken_329 (tgt := 336) (by decide) (fun cq => ?_) (fun cq => ?_)
    · have h := jite_f h (jb_f cq)
      refine j_iconst C dX9_nextToken_336 (v := 3) (by decide) ?_
      refine j_loc C [1, 2] rfl ?_
      exact jn337 v1 3 s  h
    · have h := jite_t h (jb_t cq)
      refine j_iload_n C dX9_nextToken_332 2 rfl ?_
      refine j_goto C dX9_nextToken_333 (tgt := 337) (by decide) ?_
      refine j_loc C [1, 2] rfl ?_
      exact jn337 v1 v1 s  h
  have jn321 : ∀ (v1 : Int32) (s : jS) (_ : J_X9_nextToken_321 n v1 s = some p), K 0 0 (jw 15 (cellM G) ad s) 321 [(0, .ref (ad 0)), (1, .int v1)] [] := by
    intro v1 s h
    unfold J_X9_nextToken_321 at h
    refine j_iconst C dX9_nextToken_321 (v := 1) (by decide) ?_
    refine j_goto C dX9_nextToken_322 (tgt := 326) (by decide) ?_
    refine j_loc C [0, 1] rfl ?_
    exact jn326 v1 true s  h
  have lo161 : ∀ (s : jS) (k : Nat) (q : jS) (e : jS), lp (B_X9_nextToken_161 n) k q = some e → K 0 0 (jw 15 (cellM G) ad e) 223 [(0, .ref (ad 0))] [] → K 0 0 (jw 15 (cellM G) ad q) 161 [(0, .ref (ad 0))] [] := by
    intro s k q e he hE
    refine jlp (KH := fun q => K 0 0 (jw 15 (cellM G) ad q) 161 [(0, .ref (ad 0))] []) (KE := fun e => K 0 0 (jw 15 (cellM G) ad e) 223 [(0, .ref (ad 0))] []) ?_ k q e he hE
    intro q o hb hin hout
    unfold B_X9_nextToken_161 at hb
    show K 0 0 (jw 15 (cellM G) ad q) 161 [(0, .ref (ad 0))] []
    refine j_aload_n C dX9_nextToken_161 0 rfl ?_
    refine j_aload_n C dX9_nextToken_162 0 rfl ?_
    refine j_getW C dX9_nextToken_163 inX9 rfl (by decide) rfl 8 (by decide) w_931 rfl rfl ?_
    obtain ⟨p166, he166, hb⟩ := jbind hb
    refine j_cV1 C dX9_nextToken_166 (m_X9_byteAt (q.1 0 8) q he166) kc_X9_byteAt w_1068 w_1070 wp_48 w_11 jy_X9_byteAt ⟨⟨Nat.le_of_ble_eq_true rfl, Nat.le_of_ble_eq_true rfl⟩, ⟨rfl, rfl⟩, ⟨Nat.zero_le _, Nat.zero_le _⟩⟩ (Nat.le_of_ble_eq_true rfl) (by decide) rfl (r := (RX9, TX9, 32)) rfl rfl rfl (fun _ _ h => h) ?_
    refine j_cS1 C dX9_nextToken_169 (m_X9_isLetter p166 rfl) kc_X9_isLetter w_1076 w_1077 w_11 jy_X9_isLetter ⟨⟨Nat.le_of_ble_eq_true rfl, Nat.le_of_ble_eq_true rfl⟩, ⟨rfl, rfl⟩, ⟨Nat.zero_le _, Nat.zero_le _⟩⟩ (Nat.le_of_ble_eq_true rfl) rfl (fun _ _ h => h) ?_
    refine j_if_eq C dX9_nextToken_172 (tgt := 223) (by decide) (fun cq => ?_) (fun cq => ?_)
    · have hb := jite_f hb (jb_f cq)
      refine j_loc C [0] rfl ?_
      have hx := hout _ (jinr hb)
      exact hx
    · have hb := jite_t hb (jb_t cq)
      refine j_aload_n C dX9_nextToken_175 0 rfl ?_
      refine j_getW C dX9_nextToken_176 inX9 rfl (by decide) rfl 8 (by decide) w_931 rfl rfl ?_
      refine j_aload_n C dX9_nextToken_179 0 rfl ?_
      refine j_getW C dX9_nextToken_180 inX9 rfl (by decide) rfl 9 (by decide) w_932 rfl rfl ?_
      refine j_isub C dX9_nextToken_183 ?_
      refine j_bipush C dX9_nextToken_184 (v := 7) (by decide) ?_
      refine j_icmp_ge C dX9_nextToken_186 (tgt := 210) (by decide) (fun cq => ?_) (fun cq => ?_)
      · have hb := jite_t hb cq
        refine j_aload_n C dX9_nextToken_210 0 rfl ?_
        refine j_dup C dX9_nextToken_211 rfl ?_
        refine j_getW C dX9_nextToken_212 inX9 rfl (by decide) rfl 8 (by decide) w_931 rfl rfl ?_
        refine j_iconst C dX9_nextToken_215 (v := 1) (by decide) ?_
        refine j_iadd C dX9_nextToken_216 ?_
        refine j_putI C dX9_nextToken_217 inX9 tyX9 tyX9_ok nmX9 rfl (by decide) 8 rfl rfl (by decide) w_931 rfl rfl rfl rfl (Nat.le_of_ble_eq_true rfl) (fun s217_11 hs217_11 => ?_)
        have hb := jlet hb hs217_11
        refine j_goto C dX9_nextToken_220 (tgt := 161) (by decide) ?_
        refine j_loc C [0] rfl ?_
        have hx := hin _ (jinl hb)
        exact hx
      · have hb := jite_f hb cq
        refine j_aload_n C dX9_nextToken_189 0 rfl ?_
        refine j_aload_n C dX9_nextToken_190 0 rfl ?_
        refine j_getW C dX9_nextToken_191 inX9 rfl (by decide) rfl 12 (by decide) w_935 rfl rfl ?_
        refine j_bipush C dX9_nextToken_194 (v := 8) (by decide) ?_
        refine j_lshl C dX9_nextToken_196 ?_
        refine j_aload_n C dX9_nextToken_197 0 rfl ?_
        refine j_aload_n C dX9_nextToken_198 0 rfl ?_
        refine j_getW C dX9_nextToken_199 inX9 rfl (by decide) rfl 8 (by decide) w_931 rfl rfl ?_
        obtain ⟨p202, he202, hb⟩ := jbind hb
        refine j_cV1 C dX9_nextToken_202 (m_X9_byteAt (q.1 0 8) q he202) kc_X9_byteAt w_1068 w_1070 wp_48 w_11 jy_X9_byteAt ⟨⟨Nat.le_of_ble_eq_true rfl, Nat.le_of_ble_eq_true rfl⟩, ⟨rfl, rfl⟩, ⟨Nat.zero_le _, Nat.zero_le _⟩⟩ (Nat.le_of_ble_eq_true rfl) (by decide) rfl (r := (RX9, TX9, 32)) rfl rfl rfl (fun _ _ h => h) ?_
        refine j_i2l C dX9_nextToken_205 ?_
        refine j_lor C dX9_nextToken_206 ?_
        refine j_putL C dX9_nextToken_207 inX9 tyX9 tyX9_ok nmX9 rfl (by decide) 12 rfl rfl (by decide) w_935 rfl rfl rfl rfl (Nat.le_of_ble_eq_true rfl) (fun s207_12 hs207_12 => ?_)
        have hb := jlet hb hs207_12
        refine j_aload_n C dX9_nextToken_210 0 rfl ?_
        refine j_dup C dX9_nextToken_211 rfl ?_
        refine j_getW C dX9_nextToken_212 inX9 rfl (by decide) rfl 8 (by decide) w_931 rfl rfl ?_
        refine j_iconst C dX9_nextToken_215 (v := 1) (by decide) ?_
        refine j_iadd C dX9_nextToken_216 ?_
        refine j_putI C dX9_nextToken_217 inX9 tyX9 tyX9_ok nmX9 rfl (by decide) 8 rfl rfl (by decide) w_931 rfl rfl rfl rfl (Nat.le_of_ble_eq_true rfl) (fun s217_13 hs217_13 => ?_)
        have hb := jlet hb hs217_13
        refine j_goto C dX9_nextToken_220 (tgt := 161) (by decide) ?_
        refine j_loc C [0] rfl ?_
        have hx := hin _ (jinl hb)
        exact hx
  have lo85 : ∀ (s : jS) (k : Nat) (q : jS) (e : jS), lp (B_X9_nextToken_85 n) k q = some e → K 0 0 (jw 15 (cellM G) ad e) 390 [] [] → K 0 0 (jw 15 (cellM G) ad q) 85 [(0, .ref (ad 0))] [] := by
    intro s k q e he hE
    refine jlp (KH := fun q => K 0 0 (jw 15 (cellM G) ad q) 85 [(0, .ref (ad 0))] []) (KE := fun e => K 0 0 (jw 15 (cellM G) ad e) 390 [] []) ?_ k q e he hE
    intro q o hb hin hout
    unfold B_X9_nextToken_85 at hb
    show K 0 0 (jw 15 (cellM G) ad q) 85 [(0, .ref (ad 0))] []
    refine j_aload_n C dX9_nextToken_85 0 rfl ?_
    refine j_aload_n C dX9_nextToken_86 0 rfl ?_
    refine j_getW C dX9_nextToken_87 inX9 rfl (by decide) rfl 8 (by decide) w_931 rfl rfl ?_
    obtain ⟨p90, he90, hb⟩ := jbind hb
    refine j_cV1 C dX9_nextToken_90 (m_X9_byteAt (q.1 0 8) q he90) kc_X9_byteAt w_1068 w_1070 wp_48 w_11 jy_X9_byteAt ⟨⟨Nat.le_of_ble_eq_true rfl, Nat.le_of_ble_eq_true rfl⟩, ⟨rfl, rfl⟩, ⟨Nat.zero_le _, Nat.zero_le _⟩⟩ (Nat.le_of_ble_eq_true rfl) (by decide) rfl (r := (RX9, TX9, 32)) rfl rfl rfl (fun _ _ h => h) ?_
    refine j_cS1 C dX9_nextToken_93 (m_X9_isDigit p90 rfl) kc_X9_isDigit w_1072 w_1073 w_11 jy_X9_isDigit ⟨⟨Nat.le_of_ble_eq_true rfl, Nat.le_of_ble_eq_true rfl⟩, ⟨rfl, rfl⟩, ⟨Nat.zero_le _, Nat.zero_le _⟩⟩ (Nat.le_of_ble_eq_true rfl) rfl (fun _ _ h => h) ?_
    refine j_if_eq C dX9_nextToken_96 (tgt := 390) (by decide) (fun cq => ?_) (fun cq => ?_)
    · have hb := jite_f hb (jb_f cq)
      refine j_loc C [] rfl ?_
      have hx := hout _ (jinr hb)
      exact hx
    · have hb := jite_t hb (jb_t cq)
      refine j_aload_n C dX9_nextToken_99 0 rfl ?_
      refine j_getW C dX9_nextToken_100 inX9 rfl (by decide) rfl 11 (by decide) w_934 rfl rfl ?_
      refine j_ldc C dX9_nextToken_103 (v := 100000) w_1075 ?_
      refine j_icmp_ge C dX9_nextToken_105 (tgt := 131) (by decide) (fun cq => ?_) (fun cq => ?_)
      · have hb := jite_t hb cq
        refine j_aload_n C dX9_nextToken_131 0 rfl ?_
        refine j_dup C dX9_nextToken_132 rfl ?_
        refine j_getW C dX9_nextToken_133 inX9 rfl (by decide) rfl 8 (by decide) w_931 rfl rfl ?_
        refine j_iconst C dX9_nextToken_136 (v := 1) (by decide) ?_
        refine j_iadd C dX9_nextToken_137 ?_
        refine j_putI C dX9_nextToken_138 inX9 tyX9 tyX9_ok nmX9 rfl (by decide) 8 rfl rfl (by decide) w_931 rfl rfl rfl rfl (Nat.le_of_ble_eq_true rfl) (fun s138_17 hs138_17 => ?_)
        have hb := jlet hb hs138_17
        refine j_goto C dX9_nextToken_141 (tgt := 85) (by decide) ?_
        refine j_loc C [0] rfl ?_
        have hx := hin _ (jinl hb)
        exact hx
      · have hb := jite_f hb cq
        refine j_aload_n C dX9_nextToken_108 0 rfl ?_
        refine j_bipush C dX9_nextToken_109 (v := 10) (by decide) ?_
        refine j_aload_n C dX9_nextToken_111 0 rfl ?_
        refine j_getW C dX9_nextToken_112 inX9 rfl (by decide) rfl 11 (by decide) w_934 rfl rfl ?_
        refine j_imul C dX9_nextToken_115 ?_
        refine j_aload_n C dX9_nextToken_116 0 rfl ?_
        refine j_aload_n C dX9_nextToken_117 0 rfl ?_
        refine j_getW C dX9_nextToken_118 inX9 rfl (by decide) rfl 8 (by decide) w_931 rfl rfl ?_
        obtain ⟨p121, he121, hb⟩ := jbind hb
        refine j_cV1 C dX9_nextToken_121 (m_X9_byteAt (q.1 0 8) q he121) kc_X9_byteAt w_1068 w_1070 wp_48 w_11 jy_X9_byteAt ⟨⟨Nat.le_of_ble_eq_true rfl, Nat.le_of_ble_eq_true rfl⟩, ⟨rfl, rfl⟩, ⟨Nat.zero_le _, Nat.zero_le _⟩⟩ (Nat.le_of_ble_eq_true rfl) (by decide) rfl (r := (RX9, TX9, 32)) rfl rfl rfl (fun _ _ h => h) ?_
        refine j_iadd C dX9_nextToken_124 ?_
        refine j_bipush C dX9_nextToken_125 (v := 48) (by decide) ?_
        refine j_isub C dX9_nextToken_127 ?_
        refine j_putI C dX9_nextToken_128 inX9 tyX9 tyX9_ok nmX9 rfl (by decide) 11 rfl rfl (by decide) w_934 rfl rfl rfl rfl (Nat.le_of_ble_eq_true rfl) (fun s128_18 hs128_18 => ?_)
        have hb := jlet hb hs128_18
        refine j_aload_n C dX9_nextToken_131 0 rfl ?_
        refine j_dup C dX9_nextToken_132 rfl ?_
        refine j_getW C dX9_nextToken_133 inX9 rfl (by decide) rfl 8 (by decide) w_931 rfl rfl ?_
        refine j_iconst C dX9_nextToken_136 (v := 1) (by decide) ?_
        refine j_iadd C dX9_nextToken_137 ?_
        refine j_putI C dX9_nextToken_138 inX9 tyX9 tyX9_ok nmX9 rfl (by decide) 8 rfl rfl (by decide) w_931 rfl rfl rfl rfl (Nat.le_of_ble_eq_true rfl) (fun s138_19 hs138_19 => ?_)
        have hb := jlet hb hs138_19
        refine j_goto C dX9_nextToken_141 (tgt := 85) (by decide) ?_
        refine j_loc C [0] rfl ?_
        have hx := hin _ (jinl hb)
        exact hx
  show K 0 0 (jw 15 (cellM G) ad s) 0 [(0, .ref (ad 0))] []
  refine j_loc C [0] rfl ?_
  obtain ⟨e0, he0, h⟩ := jbind h
  refine lo0  s  n s e0 he0 ?_
  refine j_aload_n C dX9_nextToken_39 0 rfl ?_
  refine j_aload_n C dX9_nextToken_40 0 rfl ?_
  refine j_getW C dX9_nextToken_41 inX9 rfl (by decide) rfl 8 (by decide) w_931 rfl rfl ?_
  refine j_putI C dX9_nextToken_44 inX9 tyX9 tyX9_ok nmX9 rfl (by decide) 9 rfl rfl (by decide) w_932 rfl rfl rfl rfl (Nat.le_of_ble_eq_true rfl) (fun s44_3 hs44_3 => ?_)
  have h := jlet h hs44_3
  refine j_aload_n C dX9_nextToken_47 0 rfl ?_
  refine j_aload_n C dX9_nextToken_48 0 rfl ?_
  refine j_getW C dX9_nextToken_49 inX9 rfl (by decide) rfl 8 (by decide) w_931 rfl rfl ?_
  obtain ⟨p52, he52, h⟩ := jbind h
  refine j_cV1 C dX9_nextToken_52 (m_X9_byteAt (s44_3.1 0 8) s44_3 he52) kc_X9_byteAt w_1068 w_1070 wp_48 w_11 jy_X9_byteAt ⟨⟨Nat.le_of_ble_eq_true rfl, Nat.le_of_ble_eq_true rfl⟩, ⟨rfl, rfl⟩, ⟨Nat.zero_le _, Nat.zero_le _⟩⟩ (Nat.le_of_ble_eq_true rfl) (by decide) rfl (r := (RX9, TX9, 32)) rfl rfl rfl (fun _ _ h => h) ?_
  refine j_istore_n C dX9_nextToken_55 (by decide) rfl ?_
  refine j_iload_n C dX9_nextToken_56 0 rfl ?_
  refine j_if_ge C dX9_nextToken_57 (tgt := 68) (by decide) (fun cq => ?_) (fun cq => ?_)
  · have h := jite_t h cq
    refine j_iload_n C dX9_nextToken_68 0 rfl ?_
    refine j_cS1 C dX9_nextToken_69 (m_X9_isDigit p52 rfl) kc_X9_isDigit w_1072 w_1073 w_11 jy_X9_isDigit ⟨⟨Nat.le_of_ble_eq_true rfl, Nat.le_of_ble_eq_true rfl⟩, ⟨rfl, rfl⟩, ⟨Nat.zero_le _, Nat.zero_le _⟩⟩ (Nat.le_of_ble_eq_true rfl) rfl (fun _ _ h => h) ?_
    refine j_if_eq C dX9_nextToken_72 (tgt := 144) (by decide) (fun cq => ?_) (fun cq => ?_)
    · have h := jite_f h (jb_f cq)
      refine j_iload_n C dX9_nextToken_144 0 rfl ?_
      refine j_cS1 C dX9_nextToken_145 (m_X9_isLetter p52 rfl) kc_X9_isLetter w_1076 w_1077 w_11 jy_X9_isLetter ⟨⟨Nat.le_of_ble_eq_true rfl, Nat.le_of_ble_eq_true rfl⟩, ⟨rfl, rfl⟩, ⟨Nat.zero_le _, Nat.zero_le _⟩⟩ (Nat.le_of_ble_eq_true rfl) rfl (fun _ _ h => h) ?_
      refine j_if_eq C dX9_nextToken_148 (tgt := 245) (by decide) (fun cq => ?_) (fun cq => ?_)
      · have h := jite_f h (jb_f cq)
        refine j_aload_n C dX9_nextToken_245 1 rfl ?_
        refine j_dup C dX9_nextToken_246 rfl ?_
        refine j_getW C dX9_nextToken_247 inX9 rfl (by decide) rfl 8 (by decide) w_931 rfl rfl ?_
        refine j_iconst C dX9_nextToken_250 (v := 1) (by decide) ?_
        refine j_iadd C dX9_nextToken_251 ?_
        refine j_putI C dX9_nextToken_252 inX9 tyX9 tyX9_ok nmX9 rfl (by decide) 8 rfl rfl (by decide) w_931 rfl rfl rfl rfl (Nat.le_of_ble_eq_true rfl) (fun s252_4 hs252_4 => ?_)
        have h := jlet h hs252_4
        refine j_iload_n C dX9_nextToken_255 0 rfl ?_
        refine j_bipush C dX9_nextToken_256 (v := 60) (by decide) ?_
        refine j_icmp_eq C dX9_nextToken_258 (tgt := 321) (by decide) (fun cq => ?_) (fun cq => ?_)
        · have h := jite_t h cq
          refine j_loc C [1, 0] rfl ?_
          exact jn321 p52 s252_4  h
        · have h := jite_f h cq
          refine j_iload_n C dX9_nextToken_261 0 rfl ?_
          refine j_bipush C dX9_nextToken_262 (v := 62) (by decide) ?_
          refine j_icmp_eq C dX9_nextToken_264 (tgt := 321) (by decide) (fun cq => ?_) (fun cq => ?_)
          · have h := jite_t h cq
            refine j_loc C [1, 0] rfl ?_
            exact jn321 p52 s252_4  h
          · have h := jite_f h cq
            refine j_iload_n C dX9_nextToken_267 0 rfl ?_
            refine j_bipush C dX9_nextToken_268 (v := 61) (by decide) ?_
            refine j_icmp_eq C dX9_nextToken_270 (tgt := 321) (by decide) (fun cq => ?_) (fun cq => ?_)
            · have h := jite_t h cq
              refine j_loc C [1, 0] rfl ?_
              exact jn321 p52 s252_4  h
            · have h := jite_f h cq
              refine j_iload_n C dX9_nextToken_273 0 rfl ?_
              refine j_bipush C dX9_nextToken_274 (v := 35) (by decide) ?_
              refine j_icmp_eq C dX9_nextToken_276 (tgt := 321) (by decide) (fun cq => ?_) (fun cq => ?_)
              · have h := jite_t h cq
                refine j_loc C [1, 0] rfl ?_
                exact jn321 p52 s252_4  h
              · have h := jite_f h cq
                refine j_iload_n C dX9_nextToken_279 0 rfl ?_
                refine j_bipush C dX9_nextToken_280 (v := 43) (by decide) ?_
                refine j_icmp_eq C dX9_nextToken_282 (tgt := 321) (by decide) (fun cq => ?_) (fun cq => ?_)
                · have h := jite_t h cq
                  refine j_loc C [1, 0] rfl ?_
                  exact jn321 p52 s252_4  h
                · have h := jite_f h cq
                  refine j_iload_n C dX9_nextToken_285 0 rfl ?_
                  refine j_bipush C dX9_nextToken_286 (v := 45) (by decide) ?_
                  refine j_icmp_eq C dX9_nextToken_288 (tgt := 321) (by decide) (fun cq => ?_) (fun cq => ?_)
                  · have h := jite_t h cq
                    refine j_loc C [1, 0] rfl ?_
                    exact jn321 p52 s252_4  h
                  · have h := jite_f h cq
                    refine j_iload_n C dX9_nextToken_291 0 rfl ?_
                    refine j_bipush C dX9_nextToken_292 (v := 42) (by decide) ?_
                    refine j_icmp_eq C dX9_nextToken_294 (tgt := 321) (by decide) (fun cq => ?_) (fun cq => ?_)
                    · have h := jite_t h cq
                      refine j_loc C [1, 0] rfl ?_
                      exact jn321 p52 s252_4  h
                    · have h := jite_f h cq
                      refine j_iload_n C dX9_nextToken_297 0 rfl ?_
                      refine j_bipush C dX9_nextToken_298 (v := 47) (by decide) ?_
                      refine j_icmp_eq C dX9_nextToken_300 (tgt := 321) (by decide) (fun cq => ?_) (fun cq => ?_)
                      · have h := jite_t h cq
                        refine j_loc C [1, 0] rfl ?_
                        exact jn321 p52 s252_4  h
                      · have h := jite_f h cq
                        refine j_iload_n C dX9_nextToken_303 0 rfl ?_
                        refine j_bipush C dX9_nextToken_304 (v := 40) (by decide) ?_
                        refine j_icmp_eq C dX9_nextToken_306 (tgt := 321) (by decide) (fun cq => ?_) (fun cq => ?_)
                        · have h := jite_t h cq
                          refine j_loc C [1, 0] rfl ?_
                          exact jn321 p52 s252_4  h
                        · have h := jite_f h cq
                          refine j_iload_n C dX9_nextToken_309 0 rfl ?_
                          refine j_bipush C dX9_nextToken_310 (v := 41) (by decide) ?_
                          refine j_icmp_eq C dX9_nextToken_312 (tgt := 321) (by decide) (fun cq => ?_) (fun cq => ?_)
                          · have h := jite_t h cq
                            refine j_loc C [1, 0] rfl ?_
                            exact jn321 p52 s252_4  h
                          · have h := jite_f h cq
                            refine j_iload_n C dX9_nextToken_315 0 rfl ?_
                            refine j_bipush C dX9_nextToken_316 (v := 59) (by decide) ?_
                            refine j_icmp_ne C dX9_nextToken_318 (tgt := 325) (by decide) (fun cq => ?_) (fun cq => ?_)
                            · have h := jite_f h cq
                              refine j_iconst C dX9_nextToken_325 (v := 0) (by decide) ?_
                              refine j_loc C [1, 0] rfl ?_
                              exact jn326 p52 false s252_4  h
                            · have h := jite_t h cq
                              refine j_loc C [1, 0] rfl ?_
                              exact jn321 p52 s252_4  h
      · have h := jite_t h (jb_t cq)
        refine j_aload_n C dX9_nextToken_151 1 rfl ?_
        refine j_iconst C dX9_nextToken_152 (v := 2) (by decide) ?_
        refine j_putI C dX9_nextToken_153 inX9 tyX9 tyX9_ok nmX9 rfl (by decide) 10 rfl rfl (by decide) w_933 rfl rfl rfl rfl (Nat.le_of_ble_eq_true rfl) (fun s153_9 hs153_9 => ?_)
        have h := jlet h hs153_9
        refine j_aload_n C dX9_nextToken_156 1 rfl ?_
        refine j_lconst C dX9_nextToken_157 (v := 0) (by decide) ?_
        refine j_putL C dX9_nextToken_158 inX9 tyX9 tyX9_ok nmX9 rfl (by decide) 12 rfl rfl (by decide) w_935 rfl rfl rfl rfl (Nat.le_of_ble_eq_true rfl) (fun s158_10 hs158_10 => ?_)
        have h := jlet h hs158_10
        refine j_loc C [1] rfl ?_
        obtain ⟨e161, he161, h⟩ := jbind h
        refine lo161  s158_10  n s158_10 e161 he161 ?_
        refine j_aload_n C dX9_nextToken_223 0 rfl ?_
        refine j_getW C dX9_nextToken_224 inX9 rfl (by decide) rfl 8 (by decide) w_931 rfl rfl ?_
        refine j_aload_n C dX9_nextToken_227 0 rfl ?_
        refine j_getW C dX9_nextToken_228 inX9 rfl (by decide) rfl 9 (by decide) w_932 rfl rfl ?_
        refine j_isub C dX9_nextToken_231 ?_
        refine j_bipush C dX9_nextToken_232 (v := 7) (by decide) ?_
        refine j_icmp_le C dX9_nextToken_234 (tgt := 390) (by decide) (fun cq => ?_) (fun cq => ?_)
        · have h := jite_t h cq
          exact j_vret C dX9_nextToken_390 rfl (Nat.zero_le _) (Nat.zero_le _) (jretWV h)
        · have h := jite_f h cq
          refine j_aload_n C dX9_nextToken_237 0 rfl ?_
          refine j_lconst C dX9_nextToken_238 (v := 0) (by decide) ?_
          refine j_putL C dX9_nextToken_239 inX9 tyX9 tyX9_ok nmX9 rfl (by decide) 12 rfl rfl (by decide) w_935 rfl rfl rfl rfl (Nat.le_of_ble_eq_true rfl) (fun s239_14 hs239_14 => ?_)
          have h := jlet h hs239_14
          refine j_goto C dX9_nextToken_242 (tgt := 390) (by decide) ?_
          exact j_vret C dX9_nextToken_390 rfl (Nat.zero_le _) (Nat.zero_le _) (jretWV h)
    · have h := jite_t h (jb_t cq)
      refine j_aload_n C dX9_nextToken_75 1 rfl ?_
      refine j_iconst C dX9_nextToken_76 (v := 1) (by decide) ?_
      refine j_putI C dX9_nextToken_77 inX9 tyX9 tyX9_ok nmX9 rfl (by decide) 10 rfl rfl (by decide) w_933 rfl rfl rfl rfl (Nat.le_of_ble_eq_true rfl) (fun s77_15 hs77_15 => ?_)
      have h := jlet h hs77_15
      refine j_aload_n C dX9_nextToken_80 1 rfl ?_
      refine j_iconst C dX9_nextToken_81 (v := 0) (by decide) ?_
      refine j_putI C dX9_nextToken_82 inX9 tyX9 tyX9_ok nmX9 rfl (by decide) 11 rfl rfl (by decide) w_934 rfl rfl rfl rfl (Nat.le_of_ble_eq_true rfl) (fun s82_16 hs82_16 => ?_)
      have h := jlet h hs82_16
      refine j_loc C [1] rfl ?_
      obtain ⟨e85, he85, h⟩ := jbind h
      refine lo85  s82_16  n s82_16 e85 he85 ?_
      exact j_vret C dX9_nextToken_390 rfl (Nat.zero_le _) (Nat.zero_le _) (jretWV h)
  · have h := jite_f h cq
    refine j_aload_n C dX9_nextToken_60 1 rfl ?_
    refine j_iconst C dX9_nextToken_61 (v := 0) (by decide) ?_
    refine j_putI C dX9_nextToken_62 inX9 tyX9 tyX9_ok nmX9 rfl (by decide) 10 rfl rfl (by decide) w_933 rfl rfl rfl rfl (Nat.le_of_ble_eq_true rfl) (fun s62_20 hs62_20 => ?_)
    have h := jlet h hs62_20
    refine j_goto C dX9_nextToken_65 (tgt := 390) (by decide) ?_
    exact j_vret C dX9_nextToken_390 rfl (Nat.zero_le _) (Nat.zero_le _) (jretWV h)
-- X9_w3
def F_X9_w3 (v0 : Int32) (v1 : Int32) (v2 : Int32) : Int64 :=
  (((((Int32.toInt64 v0) <<< ((8 : Int32).toInt64 &&& 63)) ||| (Int32.toInt64 v1)) <<< ((8 : Int32).toInt64 &&& 63)) ||| (Int32.toInt64 v2))
def rm_X9_w3 : Room := { frames := 0, cells := 0, slots := 0, locals := 0 }
set_option maxHeartbeats 4000000 in
set_option maxRecDepth 100000 in
theorem m_X9_w3 {l : Launch} {D : va_G} {G : Nat → ClassId} {KV : jV} {ad : Nat → Nat} {s : jS} (v0 : Int32) (v1 : Int32) (v2 : Int32) {p : Int64} (h : F_X9_w3 v0 v1 v2 = p) : jM l D G KV yX9_w3 cX9_w3 3 (some .long) rm_X9_w3 [.int v0, .int v1, .int v2] (jw 15 (cellM G) ad s) 0 0 (fun v u => v = some (.long p) ∧ u = jw 15 (cellM G) ad s) := by
  refine jM.of (by decide) (Nat.le_of_ble_eq_true rfl) ?_
  intro K C
  unfold F_X9_w3 at h
  show K 0 0 (jw 15 (cellM G) ad s) 0 [(0, .int v0), (1, .int v1), (2, .int v2)] []
  refine j_iload_n C dX9_w3_0 0 rfl ?_
  refine j_i2l C dX9_w3_1 ?_
  refine j_bipush C dX9_w3_2 (v := 8) (by decide) ?_
  refine j_lshl C dX9_w3_4 ?_
  refine j_iload_n C dX9_w3_5 1 rfl ?_
  refine j_i2l C dX9_w3_6 ?_
  refine j_lor C dX9_w3_7 ?_
  refine j_bipush C dX9_w3_8 (v := 8) (by decide) ?_
  refine j_lshl C dX9_w3_10 ?_
  refine j_iload_n C dX9_w3_11 2 rfl ?_
  refine j_i2l C dX9_w3_12 ?_
  refine j_lor C dX9_w3_13 ?_
  exact j_lret C dX9_w3_14 rfl (Nat.zero_le _) (Nat.zero_le _) (jretTL h)
-- X9_w5
def F_X9_w5 (v0 : Int32) (v1 : Int32) (v2 : Int32) (v3 : Int32) (v4 : Int32) : Int64 :=
  (((((F_X9_w3 v0 v1 v2) <<< ((8 : Int32).toInt64 &&& 63)) ||| (Int32.toInt64 v3)) <<< ((8 : Int32).toInt64 &&& 63)) ||| (Int32.toInt64 v4))
def rm_X9_w5 : Room := { frames := 1, cells := 0, slots := 0, locals := 22 }
set_option maxHeartbeats 4000000 in
set_option maxRecDepth 100000 in
theorem m_X9_w5 {l : Launch} {D : va_G} {G : Nat → ClassId} {KV : jV} {ad : Nat → Nat} {s : jS} (v0 : Int32) (v1 : Int32) (v2 : Int32) (v3 : Int32) (v4 : Int32) {p : Int64} (h : F_X9_w5 v0 v1 v2 v3 v4 = p) : jM l D G KV yX9_w5 cX9_w5 5 (some .long) rm_X9_w5 [.int v0, .int v1, .int v2, .int v3, .int v4] (jw 15 (cellM G) ad s) 0 0 (fun v u => v = some (.long p) ∧ u = jw 15 (cellM G) ad s) := by
  refine jM.of (by decide) (Nat.le_of_ble_eq_true rfl) ?_
  intro K C
  unfold F_X9_w5 at h
  show K 0 0 (jw 15 (cellM G) ad s) 0 [(0, .int v0), (1, .int v1), (2, .int v2), (3, .int v3), (4, .int v4)] []
  refine j_iload_n C dX9_w5_0 0 rfl ?_
  refine j_iload_n C dX9_w5_1 1 rfl ?_
  refine j_iload_n C dX9_w5_2 2 rfl ?_
  refine j_cS1 C dX9_w5_3 (m_X9_w3 v0 v1 v2 rfl) kc_X9_w3 w_1090 w_1091 w_11 jy_X9_w3 ⟨⟨Nat.le_of_ble_eq_true rfl, Nat.le_of_ble_eq_true rfl⟩, ⟨rfl, rfl⟩, ⟨Nat.zero_le _, Nat.zero_le _⟩⟩ (Nat.le_of_ble_eq_true rfl) rfl (fun _ _ h => h) ?_
  refine j_bipush C dX9_w5_6 (v := 8) (by decide) ?_
  refine j_lshl C dX9_w5_8 ?_
  refine j_iload_n C dX9_w5_9 3 rfl ?_
  refine j_i2l C dX9_w5_10 ?_
  refine j_lor C dX9_w5_11 ?_
  refine j_bipush C dX9_w5_12 (v := 8) (by decide) ?_
  refine j_lshl C dX9_w5_14 ?_
  refine j_iload C dX9_w5_15 4 rfl ?_
  refine j_i2l C dX9_w5_17 ?_
  refine j_lor C dX9_w5_18 ?_
  exact j_lret C dX9_w5_19 rfl (Nat.zero_le _) (Nat.zero_le _) (jretTL h)
-- X9_isWord
def F_X9_isWord (v1 : Int64) (s : jS) : Bool :=
  (if (s.1 0 10) = 2 then (if (lg_cmp (s.2 0 12) v1) = 0 then true else false) else false)
def rm_X9_isWord : Room := { frames := 0, cells := 0, slots := 0, locals := 0 }
set_option maxHeartbeats 4000000 in
set_option maxRecDepth 100000 in
theorem m_X9_isWord {l : Launch} {D : va_G} {G : Nat → ClassId} {KV : jV} {ad : Nat → Nat} (v1 : Int64) (s : jS) {p : Bool} (h : F_X9_isWord v1 s = p) : jM l D G KV yX9_isWord cX9_isWord 3 (some .boolean) rm_X9_isWord [.ref (ad 0), .long v1] (jw 15 (cellM G) ad s) 0 0 (fun v u => v = some (.int (jb p)) ∧ u = jw 15 (cellM G) ad s) := by
  refine jM.of (by decide) (Nat.le_of_ble_eq_true rfl) ?_
  intro K C
  unfold F_X9_isWord at h
  show K 0 0 (jw 15 (cellM G) ad s) 0 [(0, .ref (ad 0)), (1, .long v1)] []
  refine j_aload_n C dX9_isWord_0 0 rfl ?_
  refine j_getW C dX9_isWord_1 inX9 rfl (by decide) rfl 10 (by decide) w_933 rfl rfl ?_
  refine j_iconst C dX9_isWord_4 (v := 2) (by decide) ?_
  refine j_icmp_ne C dX9_isWord_5 (tgt := 21) (by decide) (fun cq => ?_) (fun cq => ?_)
  · have h := jite_f h cq
    refine j_iconst C dX9_isWord_21 (v := 0) (by decide) ?_
    exact j_iret C dX9_isWord_22 rfl (jb_nar false) (Nat.zero_le _) (Nat.zero_le _) (jretTB h)
  · have h := jite_t h cq
    refine j_aload_n C dX9_isWord_8 0 rfl ?_
    refine j_getW C dX9_isWord_9 inX9 rfl (by decide) rfl 12 (by decide) w_935 rfl rfl ?_
    refine j_lload_n C dX9_isWord_12 1 rfl ?_
    refine j_lcmp C dX9_isWord_13 ?_
    refine j_if_ne C dX9_isWord_14 (tgt := 21) (by decide) (fun cq => ?_) (fun cq => ?_)
    · have h := jite_f h cq
      refine j_iconst C dX9_isWord_21 (v := 0) (by decide) ?_
      exact j_iret C dX9_isWord_22 rfl (jb_nar false) (Nat.zero_le _) (Nat.zero_le _) (jretTB h)
    · have h := jite_t h cq
      refine j_iconst C dX9_isWord_17 (v := 1) (by decide) ?_
      refine j_goto C dX9_isWord_18 (tgt := 22) (by decide) ?_
      exact j_iret C dX9_isWord_22 rfl (jb_nar true) (Nat.zero_le _) (Nat.zero_le _) (jretTB h)
-- X9_w4
def F_X9_w4 (v0 : Int32) (v1 : Int32) (v2 : Int32) (v3 : Int32) : Int64 :=
  (((F_X9_w3 v0 v1 v2) <<< ((8 : Int32).toInt64 &&& 63)) ||| (Int32.toInt64 v3))
def rm_X9_w4 : Room := { frames := 1, cells := 0, slots := 0, locals := 22 }
set_option maxHeartbeats 4000000 in
set_option maxRecDepth 100000 in
theorem m_X9_w4 {l : Launch} {D : va_G} {G : Nat → ClassId} {KV : jV} {ad : Nat → Nat} {s : jS} (v0 : Int32) (v1 : Int32) (v2 : Int32) (v3 : Int32) {p : Int64} (h : F_X9_w4 v0 v1 v2 v3 = p) : jM l D G KV yX9_w4 cX9_w4 4 (some .long) rm_X9_w4 [.int v0, .int v1, .int v2, .int v3] (jw 15 (cellM G) ad s) 0 0 (fun v u => v = some (.long p) ∧ u = jw 15 (cellM G) ad s) := by
  refine jM.of (by decide) (Nat.le_of_ble_eq_true rfl) ?_
  intro K C
  unfold F_X9_w4 at h
  show K 0 0 (jw 15 (cellM G) ad s) 0 [(0, .int v0), (1, .int v1), (2, .int v2), (3, .int v3)] []
  refine j_iload_n C dX9_w4_0 0 rfl ?_
  refine j_iload_n C dX9_w4_1 1 rfl ?_
  refine j_iload_n C dX9_w4_2 2 rfl ?_
  refine j_cS1 C dX9_w4_3 (m_X9_w3 v0 v1 v2 rfl) kc_X9_w3 w_1090 w_1091 w_11 jy_X9_w3 ⟨⟨Nat.le_of_ble_eq_true rfl, Nat.le_of_ble_eq_true rfl⟩, ⟨rfl, rfl⟩, ⟨Nat.zero_le _, Nat.zero_le _⟩⟩ (Nat.le_of_ble_eq_true rfl) rfl (fun _ _ h => h) ?_
  refine j_bipush C dX9_w4_6 (v := 8) (by decide) ?_
  refine j_lshl C dX9_w4_8 ?_
  refine j_iload_n C dX9_w4_9 3 rfl ?_
  refine j_i2l C dX9_w4_10 ?_
  refine j_lor C dX9_w4_11 ?_
  exact j_lret C dX9_w4_12 rfl (Nat.zero_le _) (Nat.zero_le _) (jretTL h)
-- X9_sortOf
def F_X9_sortOf (s : jS) : Int32 :=
  (if (F_X9_isWord (F_X9_w5 111 112 101 110 115) s) = true then 0 else (if (F_X9_isWord (F_X9_w5 107 110 111 99 107) s) = true then 1 else (if (F_X9_isWord (F_X9_w4 119 97 105 116) s) = true then 2 else (-1))))
def rm_X9_sortOf : Room := { frames := 2, cells := 0, slots := 0, locals := 46 }
set_option maxHeartbeats 4000000 in
set_option maxRecDepth 100000 in
theorem m_X9_sortOf {l : Launch} {D : va_G} {G : Nat → ClassId} {KV : jV} {ad : Nat → Nat} (s : jS) {p : Int32} (h : F_X9_sortOf s = p) : jM l D G KV yX9_sortOf cX9_sortOf 1 (some .int) rm_X9_sortOf [.ref (ad 0)] (jw 15 (cellM G) ad s) 0 0 (fun v u => v = some (.int p) ∧ u = jw 15 (cellM G) ad s) := by
  refine jM.of (by decide) (Nat.le_of_ble_eq_true rfl) ?_
  intro K C
  unfold F_X9_sortOf at h
  show K 0 0 (jw 15 (cellM G) ad s) 0 [(0, .ref (ad 0))] []
  refine j_aload_n C dX9_sortOf_0 0 rfl ?_
  refine j_bipush C dX9_sortOf_1 (v := 111) (by decide) ?_
  refine j_bipush C dX9_sortOf_3 (v := 112) (by decide) ?_
  refine j_bipush C dX9_sortOf_5 (v := 101) (by decide) ?_
  refine j_bipush C dX9_sortOf_7 (v := 110) (by decide) ?_
  refine j_bipush C dX9_sortOf_9 (v := 115) (by decide) ?_
  refine j_cS1 C dX9_sortOf_11 (m_X9_w5 111 112 101 110 115 rfl) kc_X9_w5 w_1087 w_1088 w_11 jy_X9_w5 ⟨⟨Nat.le_of_ble_eq_true rfl, Nat.le_of_ble_eq_true rfl⟩, ⟨rfl, rfl⟩, ⟨Nat.zero_le _, Nat.zero_le _⟩⟩ (Nat.le_of_ble_eq_true rfl) rfl (fun _ _ h => h) ?_
  refine j_cV1 C dX9_sortOf_14 (m_X9_isWord (F_X9_w5 111 112 101 110 115) s rfl) kc_X9_isWord w_1093 w_1095 wp_51 w_11 jy_X9_isWord ⟨⟨Nat.le_of_ble_eq_true rfl, Nat.le_of_ble_eq_true rfl⟩, ⟨rfl, rfl⟩, ⟨Nat.zero_le _, Nat.zero_le _⟩⟩ (Nat.le_of_ble_eq_true rfl) (by decide) rfl (r := (RX9, TX9, 32)) rfl rfl rfl (fun _ _ h => h) ?_
  refine j_if_eq C dX9_sortOf_17 (tgt := 22) (by decide) (fun cq => ?_) (fun cq => ?_)
  · have h := jite_f h (jb_f cq)
    refine j_aload_n C dX9_sortOf_22 0 rfl ?_
    refine j_bipush C dX9_sortOf_23 (v := 107) (by decide) ?_
    refine j_bipush C dX9_sortOf_25 (v := 110) (by decide) ?_
    refine j_bipush C dX9_sortOf_27 (v := 111) (by decide) ?_
    refine j_bipush C dX9_sortOf_29 (v := 99) (by decide) ?_
    refine j_bipush C dX9_sortOf_31 (v := 107) (by decide) ?_
    refine j_cS1 C dX9_sortOf_33 (m_X9_w5 107 110 111 99 107 rfl) kc_X9_w5 w_1087 w_1088 w_11 jy_X9_w5 ⟨⟨Nat.le_of_ble_eq_true rfl, Nat.le_of_ble_eq_true rfl⟩, ⟨rfl, rfl⟩, ⟨Nat.zero_le _, Nat.zero_le _⟩⟩ (Nat.le_of_ble_eq_true rfl) rfl (fun _ _ h => h) ?_
    refine j_cV1 C dX9_sortOf_36 (m_X9_isWord (F_X9_w5 107 110 111 99 107) s rfl) kc_X9_isWord w_1093 w_1095 wp_51 w_11 jy_X9_isWord ⟨⟨Nat.le_of_ble_eq_true rfl, Nat.le_of_ble_eq_true rfl⟩, ⟨rfl, rfl⟩, ⟨Nat.zero_le _, Nat.zero_le _⟩⟩ (Nat.le_of_ble_eq_true rfl) (by decide) rfl (r := (RX9, TX9, 32)) rfl rfl rfl (fun _ _ h => h) ?_
    refine j_if_eq C dX9_sortOf_39 (tgt := 46) (by decide) (fun cq => ?_) (fun cq => ?_)
    · have h := jite_f h (jb_f cq)
      refine j_aload_n C dX9_sortOf_46 0 rfl ?_
      refine j_bipush C dX9_sortOf_47 (v := 119) (by decide) ?_
      refine j_bipush C dX9_sortOf_49 (v := 97) (by decide) ?_
      refine j_bipush C dX9_sortOf_51 (v := 105) (by decide) ?_
      refine j_bipush C dX9_sortOf_53 (v := 116) (by decide) ?_
      refine j_cS1 C dX9_sortOf_55 (m_X9_w4 119 97 105 116 rfl) kc_X9_w4 w_1097 w_1098 w_11 jy_X9_w4 ⟨⟨Nat.le_of_ble_eq_true rfl, Nat.le_of_ble_eq_true rfl⟩, ⟨rfl, rfl⟩, ⟨Nat.zero_le _, Nat.zero_le _⟩⟩ (Nat.le_of_ble_eq_true rfl) rfl (fun _ _ h => h) ?_
      refine j_cV1 C dX9_sortOf_58 (m_X9_isWord (F_X9_w4 119 97 105 116) s rfl) kc_X9_isWord w_1093 w_1095 wp_51 w_11 jy_X9_isWord ⟨⟨Nat.le_of_ble_eq_true rfl, Nat.le_of_ble_eq_true rfl⟩, ⟨rfl, rfl⟩, ⟨Nat.zero_le _, Nat.zero_le _⟩⟩ (Nat.le_of_ble_eq_true rfl) (by decide) rfl (r := (RX9, TX9, 32)) rfl rfl rfl (fun _ _ h => h) ?_
      refine j_if_eq C dX9_sortOf_61 (tgt := 68) (by decide) (fun cq => ?_) (fun cq => ?_)
      · have h := jite_f h (jb_f cq)
        refine j_iconst C dX9_sortOf_68 (v := (-1)) (by decide) ?_
        exact j_iret C dX9_sortOf_69 rfl rfl (Nat.zero_le _) (Nat.zero_le _) (jretTI h)
      · have h := jite_t h (jb_t cq)
        refine j_iconst C dX9_sortOf_64 (v := 2) (by decide) ?_
        refine j_goto C dX9_sortOf_65 (tgt := 69) (by decide) ?_
        exact j_iret C dX9_sortOf_69 rfl rfl (Nat.zero_le _) (Nat.zero_le _) (jretTI h)
    · have h := jite_t h (jb_t cq)
      refine j_iconst C dX9_sortOf_42 (v := 1) (by decide) ?_
      refine j_goto C dX9_sortOf_43 (tgt := 69) (by decide) ?_
      exact j_iret C dX9_sortOf_69 rfl rfl (Nat.zero_le _) (Nat.zero_le _) (jretTI h)
  · have h := jite_t h (jb_t cq)
    refine j_iconst C dX9_sortOf_20 (v := 0) (by decide) ?_
    exact j_iret C dX9_sortOf_21 rfl rfl (Nat.zero_le _) (Nat.zero_le _) (jretTI h)
