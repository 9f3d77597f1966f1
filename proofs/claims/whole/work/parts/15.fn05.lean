theorem dX3_holds_0 : decode cX3_holds 0 = .ok (.iconst 0, 1) := by decide +kernel
theorem dX3_holds_1 : decode cX3_holds 1 = .ok (.istore_n 2, 1) := by decide +kernel
theorem dX3_holds_2 : decode cX3_holds 2 = .ok (.iconst 0, 1) := by decide +kernel
theorem dX3_holds_3 : decode cX3_holds 3 = .ok (.istore_n 3, 1) := by decide +kernel
theorem dX3_holds_4 : decode cX3_holds 4 = .ok (.iload_n 3, 1) := by decide +kernel
theorem dX3_holds_5 : decode cX3_holds 5 = .ok (.aload_n 1, 1) := by decide +kernel
theorem dX3_holds_6 : decode cX3_holds 6 = .ok (.getfield 83, 3) := by decide +kernel
theorem dX3_holds_9 : decode cX3_holds 9 = .ok (.if_icmp .ge 178, 3) := by decide +kernel
theorem dX3_holds_12 : decode cX3_holds 12 = .ok (.iload_n 3, 1) := by decide +kernel
theorem dX3_holds_13 : decode cX3_holds 13 = .ok (.sipush 300, 3) := by decide +kernel
theorem dX3_holds_16 : decode cX3_holds 16 = .ok (.if_icmp .ge 171, 3) := by decide +kernel
theorem dX3_holds_19 : decode cX3_holds 19 = .ok (.aload_n 1, 1) := by decide +kernel
theorem dX3_holds_20 : decode cX3_holds 20 = .ok (.getfield 86, 3) := by decide +kernel
theorem dX3_holds_23 : decode cX3_holds 23 = .ok (.iload_n 3, 1) := by decide +kernel
theorem dX3_holds_24 : decode cX3_holds 24 = .ok (.iaload, 1) := by decide +kernel
theorem dX3_holds_25 : decode cX3_holds 25 = .ok (.istore 4, 2) := by decide +kernel
theorem dX3_holds_27 : decode cX3_holds 27 = .ok (.iload 4, 2) := by decide +kernel
theorem dX3_holds_29 : decode cX3_holds 29 = .ok (.ifCond .lt 53, 3) := by decide +kernel
theorem dX3_holds_32 : decode cX3_holds 32 = .ok (.iload_n 2, 1) := by decide +kernel
theorem dX3_holds_33 : decode cX3_holds 33 = .ok (.bipush 64, 2) := by decide +kernel
theorem dX3_holds_35 : decode cX3_holds 35 = .ok (.if_icmp .ge 146, 3) := by decide +kernel
theorem dX3_holds_38 : decode cX3_holds 38 = .ok (.iload 4, 2) := by decide +kernel
theorem dX3_holds_40 : decode cX3_holds 40 = .ok (.sipush 10000, 3) := by decide +kernel
theorem dX3_holds_43 : decode cX3_holds 43 = .ok (.isub, 1) := by decide +kernel
theorem dX3_holds_44 : decode cX3_holds 44 = .ok (.istore 5, 2) := by decide +kernel
theorem dX3_holds_46 : decode cX3_holds 46 = .ok (.aload_n 0, 1) := by decide +kernel
theorem dX3_holds_47 : decode cX3_holds 47 = .ok (.getfield 15, 3) := by decide +kernel
theorem dX3_holds_50 : decode cX3_holds 50 = .ok (.iload_n 2, 1) := by decide +kernel
theorem dX3_holds_51 : decode cX3_holds 51 = .ok (.iload 5, 2) := by decide +kernel
theorem dX3_holds_53 : decode cX3_holds 53 = .ok (.ifCond .lt 20, 3) := by decide +kernel
theorem dX3_holds_56 : decode cX3_holds 56 = .ok (.iload 5, 2) := by decide +kernel
theorem dX3_holds_58 : decode cX3_holds 58 = .ok (.bipush 8, 2) := by decide +kernel
theorem dX3_holds_60 : decode cX3_holds 60 = .ok (.if_icmp .ge 13, 3) := by decide +kernel
theorem dX3_holds_63 : decode cX3_holds 63 = .ok (.aload_n 0, 1) := by decide +kernel
theorem dX3_holds_64 : decode cX3_holds 64 = .ok (.getfield 9, 3) := by decide +kernel
theorem dX3_holds_67 : decode cX3_holds 67 = .ok (.iload 5, 2) := by decide +kernel
theorem dX3_holds_69 : decode cX3_holds 69 = .ok (.iaload, 1) := by decide +kernel
theorem dX3_holds_70 : decode cX3_holds 70 = .ok (.goto 5, 3) := by decide +kernel
theorem dX3_holds_73 : decode cX3_holds 73 = .ok (.iload 4, 2) := by decide +kernel
theorem dX3_holds_75 : decode cX3_holds 75 = .ok (.iastore, 1) := by decide +kernel
theorem dX3_holds_76 : decode cX3_holds 76 = .ok (.iinc 2 1, 3) := by decide +kernel
theorem dX3_holds_79 : decode cX3_holds 79 = .ok (.goto 102, 3) := by decide +kernel
theorem dX3_holds_82 : decode cX3_holds 82 = .ok (.iload_n 2, 1) := by decide +kernel
theorem dX3_holds_83 : decode cX3_holds 83 = .ok (.ifCond .le 31, 3) := by decide +kernel
theorem dX3_holds_86 : decode cX3_holds 86 = .ok (.iload 4, 2) := by decide +kernel
theorem dX3_holds_88 : decode cX3_holds 88 = .ok (.bipush (-13), 2) := by decide +kernel
theorem dX3_holds_90 : decode cX3_holds 90 = .ok (.if_icmp .ne 24, 3) := by decide +kernel
theorem dX3_holds_93 : decode cX3_holds 93 = .ok (.aload_n 0, 1) := by decide +kernel
theorem dX3_holds_94 : decode cX3_holds 94 = .ok (.getfield 15, 3) := by decide +kernel
theorem dX3_holds_97 : decode cX3_holds 97 = .ok (.iload_n 2, 1) := by decide +kernel
theorem dX3_holds_98 : decode cX3_holds 98 = .ok (.iconst 1, 1) := by decide +kernel
theorem dX3_holds_99 : decode cX3_holds 99 = .ok (.isub, 1) := by decide +kernel
theorem dX3_holds_100 : decode cX3_holds 100 = .ok (.iconst 1, 1) := by decide +kernel
theorem dX3_holds_101 : decode cX3_holds 101 = .ok (.aload_n 0, 1) := by decide +kernel
theorem dX3_holds_102 : decode cX3_holds 102 = .ok (.getfield 15, 3) := by decide +kernel
theorem dX3_holds_105 : decode cX3_holds 105 = .ok (.iload_n 2, 1) := by decide +kernel
theorem dX3_holds_106 : decode cX3_holds 106 = .ok (.iconst 1, 1) := by decide +kernel
theorem dX3_holds_107 : decode cX3_holds 107 = .ok (.isub, 1) := by decide +kernel
theorem dX3_holds_108 : decode cX3_holds 108 = .ok (.iaload, 1) := by decide +kernel
theorem dX3_holds_109 : decode cX3_holds 109 = .ok (.isub, 1) := by decide +kernel
theorem dX3_holds_110 : decode cX3_holds 110 = .ok (.iastore, 1) := by decide +kernel
theorem dX3_holds_111 : decode cX3_holds 111 = .ok (.goto 70, 3) := by decide +kernel
theorem dX3_holds_114 : decode cX3_holds 114 = .ok (.iload_n 2, 1) := by decide +kernel
theorem dX3_holds_115 : decode cX3_holds 115 = .ok (.ifCond .le 30, 3) := by decide +kernel
theorem dX3_holds_118 : decode cX3_holds 118 = .ok (.iload 4, 2) := by decide +kernel
theorem dX3_holds_120 : decode cX3_holds 120 = .ok (.bipush (-24), 2) := by decide +kernel
theorem dX3_holds_122 : decode cX3_holds 122 = .ok (.if_icmp .ne 23, 3) := by decide +kernel
theorem dX3_holds_125 : decode cX3_holds 125 = .ok (.aload_n 0, 1) := by decide +kernel
theorem dX3_holds_126 : decode cX3_holds 126 = .ok (.getfield 15, 3) := by decide +kernel
theorem dX3_holds_129 : decode cX3_holds 129 = .ok (.iload_n 2, 1) := by decide +kernel
theorem dX3_holds_130 : decode cX3_holds 130 = .ok (.iconst 1, 1) := by decide +kernel
theorem dX3_holds_131 : decode cX3_holds 131 = .ok (.isub, 1) := by decide +kernel
theorem dX3_holds_132 : decode cX3_holds 132 = .ok (.aload_n 0, 1) := by decide +kernel
theorem dX3_holds_133 : decode cX3_holds 133 = .ok (.getfield 15, 3) := by decide +kernel
theorem dX3_holds_136 : decode cX3_holds 136 = .ok (.iload_n 2, 1) := by decide +kernel
theorem dX3_holds_137 : decode cX3_holds 137 = .ok (.iconst 1, 1) := by decide +kernel
theorem dX3_holds_138 : decode cX3_holds 138 = .ok (.isub, 1) := by decide +kernel
theorem dX3_holds_139 : decode cX3_holds 139 = .ok (.iaload, 1) := by decide +kernel
theorem dX3_holds_140 : decode cX3_holds 140 = .ok (.ineg, 1) := by decide +kernel
theorem dX3_holds_141 : decode cX3_holds 141 = .ok (.iastore, 1) := by decide +kernel
theorem dX3_holds_142 : decode cX3_holds 142 = .ok (.goto 39, 3) := by decide +kernel
theorem dX3_holds_145 : decode cX3_holds 145 = .ok (.iload_n 2, 1) := by decide +kernel
theorem dX3_holds_146 : decode cX3_holds 146 = .ok (.iconst 1, 1) := by decide +kernel
theorem dX3_holds_147 : decode cX3_holds 147 = .ok (.if_icmp .le 34, 3) := by decide +kernel
theorem dX3_holds_150 : decode cX3_holds 150 = .ok (.iinc 2 (-1), 3) := by decide +kernel
theorem dX3_holds_153 : decode cX3_holds 153 = .ok (.aload_n 0, 1) := by decide +kernel
theorem dX3_holds_154 : decode cX3_holds 154 = .ok (.getfield 15, 3) := by decide +kernel
theorem dX3_holds_157 : decode cX3_holds 157 = .ok (.iload_n 2, 1) := by decide +kernel
theorem dX3_holds_158 : decode cX3_holds 158 = .ok (.iconst 1, 1) := by decide +kernel
theorem dX3_holds_159 : decode cX3_holds 159 = .ok (.isub, 1) := by decide +kernel
theorem dX3_holds_160 : decode cX3_holds 160 = .ok (.iload 4, 2) := by decide +kernel
theorem dX3_holds_162 : decode cX3_holds 162 = .ok (.ineg, 1) := by decide +kernel
theorem dX3_holds_163 : decode cX3_holds 163 = .ok (.aload_n 0, 1) := by decide +kernel
theorem dX3_holds_164 : decode cX3_holds 164 = .ok (.getfield 15, 3) := by decide +kernel
theorem dX3_holds_167 : decode cX3_holds 167 = .ok (.iload_n 2, 1) := by decide +kernel
theorem dX3_holds_168 : decode cX3_holds 168 = .ok (.iconst 1, 1) := by decide +kernel
theorem dX3_holds_169 : decode cX3_holds 169 = .ok (.isub, 1) := by decide +kernel
theorem dX3_holds_170 : decode cX3_holds 170 = .ok (.iaload, 1) := by decide +kernel
theorem dX3_holds_171 : decode cX3_holds 171 = .ok (.aload_n 0, 1) := by decide +kernel
theorem dX3_holds_172 : decode cX3_holds 172 = .ok (.getfield 15, 3) := by decide +kernel
theorem dX3_holds_175 : decode cX3_holds 175 = .ok (.iload_n 2, 1) := by decide +kernel
theorem dX3_holds_176 : decode cX3_holds 176 = .ok (.iaload, 1) := by decide +kernel
theorem dX3_holds_177 : decode cX3_holds 177 = .ok (.invokestatic 89, 3) := by decide +kernel
theorem dX3_holds_180 : decode cX3_holds 180 = .ok (.iastore, 1) := by decide +kernel
theorem dX3_holds_181 : decode cX3_holds 181 = .ok (.iinc 3 1, 3) := by decide +kernel
theorem dX3_holds_184 : decode cX3_holds 184 = .ok (.goto (-180), 3) := by decide +kernel
theorem dX3_holds_187 : decode cX3_holds 187 = .ok (.iload_n 2, 1) := by decide +kernel
theorem dX3_holds_188 : decode cX3_holds 188 = .ok (.ifCond .le 17, 3) := by decide +kernel
theorem dX3_holds_191 : decode cX3_holds 191 = .ok (.aload_n 0, 1) := by decide +kernel
theorem dX3_holds_192 : decode cX3_holds 192 = .ok (.getfield 15, 3) := by decide +kernel
theorem dX3_holds_195 : decode cX3_holds 195 = .ok (.iconst 0, 1) := by decide +kernel
theorem dX3_holds_196 : decode cX3_holds 196 = .ok (.iaload, 1) := by decide +kernel
theorem dX3_holds_197 : decode cX3_holds 197 = .ok (.iconst 1, 1) := by decide +kernel
theorem dX3_holds_198 : decode cX3_holds 198 = .ok (.if_icmp .ne 7, 3) := by decide +kernel
theorem dX3_holds_201 : decode cX3_holds 201 = .ok (.iconst 1, 1) := by decide +kernel
theorem dX3_holds_202 : decode cX3_holds 202 = .ok (.goto 4, 3) := by decide +kernel
theorem dX3_holds_205 : decode cX3_holds 205 = .ok (.iconst 0, 1) := by decide +kernel
theorem dX3_holds_206 : decode cX3_holds 206 = .ok (.ireturn, 1) := by decide +kernel
theorem dX3_opensBy_0 : decode cX3_opensBy 0 = .ok (.aload_n 0, 1) := by decide +kernel
theorem dX3_opensBy_1 : decode cX3_opensBy 1 = .ok (.iload_n 1, 1) := by decide +kernel
theorem dX3_opensBy_2 : decode cX3_opensBy 2 = .ok (.invokevirtual 51, 3) := by decide +kernel
theorem dX3_opensBy_5 : decode cX3_opensBy 5 = .ok (.ifCond .ne 5, 3) := by decide +kernel
theorem dX3_opensBy_8 : decode cX3_opensBy 8 = .ok (.iconst 0, 1) := by decide +kernel
theorem dX3_opensBy_9 : decode cX3_opensBy 9 = .ok (.ireturn, 1) := by decide +kernel
theorem dX3_opensBy_10 : decode cX3_opensBy 10 = .ok (.aload_n 0, 1) := by decide +kernel
theorem dX3_opensBy_11 : decode cX3_opensBy 11 = .ok (.iload_n 2, 1) := by decide +kernel
theorem dX3_opensBy_12 : decode cX3_opensBy 12 = .ok (.iload_n 3, 1) := by decide +kernel
theorem dX3_opensBy_13 : decode cX3_opensBy 13 = .ok (.iload 7, 2) := by decide +kernel
theorem dX3_opensBy_15 : decode cX3_opensBy 15 = .ok (.invokevirtual 55, 3) := by decide +kernel
theorem dX3_opensBy_18 : decode cX3_opensBy 18 = .ok (.aload_n 0, 1) := by decide +kernel
theorem dX3_opensBy_19 : decode cX3_opensBy 19 = .ok (.getfield 9, 3) := by decide +kernel
theorem dX3_opensBy_22 : decode cX3_opensBy 22 = .ok (.bipush 6, 2) := by decide +kernel
theorem dX3_opensBy_24 : decode cX3_opensBy 24 = .ok (.iload 6, 2) := by decide +kernel
theorem dX3_opensBy_26 : decode cX3_opensBy 26 = .ok (.iastore, 1) := by decide +kernel
theorem dX3_opensBy_27 : decode cX3_opensBy 27 = .ok (.aload_n 0, 1) := by decide +kernel
theorem dX3_opensBy_28 : decode cX3_opensBy 28 = .ok (.getfield 9, 3) := by decide +kernel
theorem dX3_opensBy_31 : decode cX3_opensBy 31 = .ok (.iconst 5, 1) := by decide +kernel
theorem dX3_opensBy_32 : decode cX3_opensBy 32 = .ok (.iload 4, 2) := by decide +kernel
theorem dX3_opensBy_34 : decode cX3_opensBy 34 = .ok (.iastore, 1) := by decide +kernel
theorem dX3_opensBy_35 : decode cX3_opensBy 35 = .ok (.aload_n 0, 1) := by decide +kernel
theorem dX3_opensBy_36 : decode cX3_opensBy 36 = .ok (.getfield 9, 3) := by decide +kernel
theorem dX3_opensBy_39 : decode cX3_opensBy 39 = .ok (.iconst 4, 1) := by decide +kernel
theorem dX3_opensBy_40 : decode cX3_opensBy 40 = .ok (.iload 5, 2) := by decide +kernel
theorem dX3_opensBy_42 : decode cX3_opensBy 42 = .ok (.iastore, 1) := by decide +kernel
theorem dX3_opensBy_43 : decode cX3_opensBy 43 = .ok (.aload_n 0, 1) := by decide +kernel
theorem dX3_opensBy_44 : decode cX3_opensBy 44 = .ok (.aload_n 0, 1) := by decide +kernel
theorem dX3_opensBy_45 : decode cX3_opensBy 45 = .ok (.getfield 26, 3) := by decide +kernel
theorem dX3_opensBy_48 : decode cX3_opensBy 48 = .ok (.iload_n 1, 1) := by decide +kernel
theorem dX3_opensBy_49 : decode cX3_opensBy 49 = .ok (.aaload, 1) := by decide +kernel
theorem dX3_opensBy_50 : decode cX3_opensBy 50 = .ok (.invokevirtual 59, 3) := by decide +kernel
theorem dX3_opensBy_53 : decode cX3_opensBy 53 = .ok (.ireturn, 1) := by decide +kernel
theorem dX8_opens_0 : decode cX8_opens 0 = .ok (.aload_n 0, 1) := by decide +kernel
theorem dX8_opens_1 : decode cX8_opens 1 = .ok (.iload_n 1, 1) := by decide +kernel
theorem dX8_opens_2 : decode cX8_opens 2 = .ok (.iload_n 2, 1) := by decide +kernel
theorem dX8_opens_3 : decode cX8_opens 3 = .ok (.iload_n 3, 1) := by decide +kernel
theorem dX8_opens_4 : decode cX8_opens 4 = .ok (.iload 4, 2) := by decide +kernel
theorem dX8_opens_6 : decode cX8_opens 6 = .ok (.iload 5, 2) := by decide +kernel
theorem dX8_opens_8 : decode cX8_opens 8 = .ok (.invokevirtual 133, 3) := by decide +kernel
theorem dX8_opens_11 : decode cX8_opens 11 = .ok (.ifCond .eq 14, 3) := by decide +kernel
theorem dX8_opens_14 : decode cX8_opens 14 = .ok (.iload 6, 2) := by decide +kernel
theorem dX8_opens_16 : decode cX8_opens 16 = .ok (.iconst 0, 1) := by decide +kernel
theorem dX8_opens_17 : decode cX8_opens 17 = .ok (.bipush 9, 2) := by decide +kernel
theorem dX8_opens_19 : decode cX8_opens 19 = .ok (.invokestatic 86, 3) := by decide +kernel
theorem dX8_opens_22 : decode cX8_opens 22 = .ok (.ifCond .ne 5, 3) := by decide +kernel
theorem dX8_opens_25 : decode cX8_opens 25 = .ok (.iconst 0, 1) := by decide +kernel
theorem dX8_opens_26 : decode cX8_opens 26 = .ok (.ireturn, 1) := by decide +kernel
theorem dX8_opens_27 : decode cX8_opens 27 = .ok (.aload_n 0, 1) := by decide +kernel
theorem dX8_opens_28 : decode cX8_opens 28 = .ok (.getfield 41, 3) := by decide +kernel
theorem dX8_opens_31 : decode cX8_opens 31 = .ok (.getfield 103, 3) := by decide +kernel
theorem dX8_opens_34 : decode cX8_opens 34 = .ok (.iload_n 1, 1) := by decide +kernel
theorem dX8_opens_35 : decode cX8_opens 35 = .ok (.baload, 1) := by decide +kernel
theorem dX8_opens_36 : decode cX8_opens 36 = .ok (.ifCond .ne 31, 3) := by decide +kernel
theorem dX8_opens_39 : decode cX8_opens 39 = .ok (.aload_n 0, 1) := by decide +kernel
theorem dX8_opens_40 : decode cX8_opens 40 = .ok (.getfield 65, 3) := by decide +kernel
theorem dX8_opens_43 : decode cX8_opens 43 = .ok (.aload_n 0, 1) := by decide +kernel
theorem dX8_opens_44 : decode cX8_opens 44 = .ok (.getfield 41, 3) := by decide +kernel
theorem dX8_opens_47 : decode cX8_opens 47 = .ok (.getfield 130, 3) := by decide +kernel
theorem dX8_opens_50 : decode cX8_opens 50 = .ok (.iload_n 1, 1) := by decide +kernel
theorem dX8_opens_51 : decode cX8_opens 51 = .ok (.iaload, 1) := by decide +kernel
theorem dX8_opens_52 : decode cX8_opens 52 = .ok (.iload_n 1, 1) := by decide +kernel
theorem dX8_opens_53 : decode cX8_opens 53 = .ok (.iload_n 2, 1) := by decide +kernel
theorem dX8_opens_54 : decode cX8_opens 54 = .ok (.iload_n 3, 1) := by decide +kernel
theorem dX8_opens_55 : decode cX8_opens 55 = .ok (.iload 4, 2) := by decide +kernel
theorem dX8_opens_57 : decode cX8_opens 57 = .ok (.iload 5, 2) := by decide +kernel
theorem dX8_opens_59 : decode cX8_opens 59 = .ok (.iload 6, 2) := by decide +kernel
theorem dX8_opens_61 : decode cX8_opens 61 = .ok (.invokevirtual 137, 3) := by decide +kernel
theorem dX8_opens_64 : decode cX8_opens 64 = .ok (.ifCond .eq 7, 3) := by decide +kernel
theorem dX8_opens_67 : decode cX8_opens 67 = .ok (.iconst 1, 1) := by decide +kernel
theorem dX8_opens_68 : decode cX8_opens 68 = .ok (.goto 4, 3) := by decide +kernel
theorem dX8_opens_71 : decode cX8_opens 71 = .ok (.iconst 0, 1) := by decide +kernel
theorem dX8_opens_72 : decode cX8_opens 72 = .ok (.ireturn, 1) := by decide +kernel
theorem dX8_isTraveller_0 : decode cX8_isTraveller 0 = .ok (.iload_n 1, 1) := by decide +kernel
theorem dX8_isTraveller_1 : decode cX8_isTraveller 1 = .ok (.iconst 0, 1) := by decide +kernel
theorem dX8_isTraveller_2 : decode cX8_isTraveller 2 = .ok (.bipush 9, 2) := by decide +kernel
theorem dX8_isTraveller_4 : decode cX8_isTraveller 4 = .ok (.invokestatic 86, 3) := by decide +kernel
theorem dX8_isTraveller_7 : decode cX8_isTraveller 7 = .ok (.ifCond .eq 41, 3) := by decide +kernel
theorem dX8_isTraveller_10 : decode cX8_isTraveller 10 = .ok (.iload_n 2, 1) := by decide +kernel
theorem dX8_isTraveller_11 : decode cX8_isTraveller 11 = .ok (.iconst 0, 1) := by decide +kernel
theorem dX8_isTraveller_12 : decode cX8_isTraveller 12 = .ok (.iconst 1, 1) := by decide +kernel
theorem dX8_isTraveller_13 : decode cX8_isTraveller 13 = .ok (.aload_n 0, 1) := by decide +kernel
theorem dX8_isTraveller_14 : decode cX8_isTraveller 14 = .ok (.getfield 37, 3) := by decide +kernel
theorem dX8_isTraveller_17 : decode cX8_isTraveller 17 = .ok (.ishl, 1) := by decide +kernel
theorem dX8_isTraveller_18 : decode cX8_isTraveller 18 = .ok (.iconst 1, 1) := by decide +kernel
theorem dX8_isTraveller_19 : decode cX8_isTraveller 19 = .ok (.isub, 1) := by decide +kernel
theorem dX8_isTraveller_20 : decode cX8_isTraveller 20 = .ok (.invokestatic 86, 3) := by decide +kernel
theorem dX8_isTraveller_23 : decode cX8_isTraveller 23 = .ok (.ifCond .eq 25, 3) := by decide +kernel
theorem dX8_isTraveller_26 : decode cX8_isTraveller 26 = .ok (.iload_n 3, 1) := by decide +kernel
theorem dX8_isTraveller_27 : decode cX8_isTraveller 27 = .ok (.invokestatic 82, 3) := by decide +kernel
theorem dX8_isTraveller_30 : decode cX8_isTraveller 30 = .ok (.ifCond .eq 18, 3) := by decide +kernel
theorem dX8_isTraveller_33 : decode cX8_isTraveller 33 = .ok (.iload 4, 2) := by decide +kernel
theorem dX8_isTraveller_35 : decode cX8_isTraveller 35 = .ok (.iconst 0, 1) := by decide +kernel
theorem dX8_isTraveller_36 : decode cX8_isTraveller 36 = .ok (.bipush 99, 2) := by decide +kernel
theorem dX8_isTraveller_38 : decode cX8_isTraveller 38 = .ok (.invokestatic 86, 3) := by decide +kernel
theorem dX8_isTraveller_41 : decode cX8_isTraveller 41 = .ok (.ifCond .eq 7, 3) := by decide +kernel
theorem dX8_isTraveller_44 : decode cX8_isTraveller 44 = .ok (.iconst 1, 1) := by decide +kernel
theorem dX8_isTraveller_45 : decode cX8_isTraveller 45 = .ok (.goto 4, 3) := by decide +kernel
theorem dX8_isTraveller_48 : decode cX8_isTraveller 48 = .ok (.iconst 0, 1) := by decide +kernel
theorem dX8_isTraveller_49 : decode cX8_isTraveller 49 = .ok (.ireturn, 1) := by decide +kernel
theorem dX6_starts_0 : decode cX6_starts 0 = .ok (.aload_n 0, 1) := by decide +kernel
theorem dX6_starts_1 : decode cX6_starts 1 = .ok (.iload_n 1, 1) := by decide +kernel
theorem dX6_starts_2 : decode cX6_starts 2 = .ok (.putfield 15, 3) := by decide +kernel
theorem dX6_starts_5 : decode cX6_starts 5 = .ok (.aload_n 0, 1) := by decide +kernel
theorem dX6_starts_6 : decode cX6_starts 6 = .ok (.iload_n 2, 1) := by decide +kernel
theorem dX6_starts_7 : decode cX6_starts 7 = .ok (.putfield 19, 3) := by decide +kernel
theorem dX6_starts_10 : decode cX6_starts 10 = .ok (.aload_n 0, 1) := by decide +kernel
theorem dX6_starts_11 : decode cX6_starts 11 = .ok (.iload_n 3, 1) := by decide +kernel
theorem dX6_starts_12 : decode cX6_starts 12 = .ok (.putfield 22, 3) := by decide +kernel
theorem dX6_starts_15 : decode cX6_starts 15 = .ok (.aload_n 0, 1) := by decide +kernel
theorem dX6_starts_16 : decode cX6_starts 16 = .ok (.iload 4, 2) := by decide +kernel
theorem dX6_starts_18 : decode cX6_starts 18 = .ok (.putfield 25, 3) := by decide +kernel
theorem dX6_starts_21 : decode cX6_starts 21 = .ok (.aload_n 0, 1) := by decide +kernel
theorem dX6_starts_22 : decode cX6_starts 22 = .ok (.iconst 0, 1) := by decide +kernel
theorem dX6_starts_23 : decode cX6_starts 23 = .ok (.putfield 28, 3) := by decide +kernel
theorem dX6_starts_26 : decode cX6_starts 26 = .ok (.aload_n 0, 1) := by decide +kernel
theorem dX6_starts_27 : decode cX6_starts 27 = .ok (.iconst 0, 1) := by decide +kernel
theorem dX6_starts_28 : decode cX6_starts 28 = .ok (.putfield 31, 3) := by decide +kernel
theorem dX6_starts_31 : decode cX6_starts 31 = .ok (.aload_n 0, 1) := by decide +kernel
theorem dX6_starts_32 : decode cX6_starts 32 = .ok (.iconst 0, 1) := by decide +kernel
theorem dX6_starts_33 : decode cX6_starts 33 = .ok (.putfield 34, 3) := by decide +kernel
theorem dX6_starts_36 : decode cX6_starts 36 = .ok (.return_, 1) := by decide +kernel
theorem dX8_sets_0 : decode cX8_sets 0 = .ok (.aload_n 0, 1) := by decide +kernel
theorem dX8_sets_1 : decode cX8_sets 1 = .ok (.iload_n 1, 1) := by decide +kernel
theorem dX8_sets_2 : decode cX8_sets 2 = .ok (.iload_n 2, 1) := by decide +kernel
theorem dX8_sets_3 : decode cX8_sets 3 = .ok (.iload_n 3, 1) := by decide +kernel
theorem dX8_sets_4 : decode cX8_sets 4 = .ok (.iload 4, 2) := by decide +kernel
theorem dX8_sets_6 : decode cX8_sets 6 = .ok (.invokevirtual 141, 3) := by decide +kernel
theorem dX8_sets_9 : decode cX8_sets 9 = .ok (.ifCond .ne 5, 3) := by decide +kernel
theorem dX8_sets_12 : decode cX8_sets 12 = .ok (.iconst 0, 1) := by decide +kernel
theorem dX8_sets_13 : decode cX8_sets 13 = .ok (.ireturn, 1) := by decide +kernel
theorem dX8_sets_14 : decode cX8_sets 14 = .ok (.aload_n 0, 1) := by decide +kernel
theorem dX8_sets_15 : decode cX8_sets 15 = .ok (.getfield 41, 3) := by decide +kernel
theorem dX8_sets_18 : decode cX8_sets 18 = .ok (.getfield 145, 3) := by decide +kernel
theorem dX8_sets_21 : decode cX8_sets 21 = .ok (.iload_n 1, 1) := by decide +kernel
theorem dX8_sets_22 : decode cX8_sets 22 = .ok (.iload_n 2, 1) := by decide +kernel
theorem dX8_sets_23 : decode cX8_sets 23 = .ok (.iload_n 3, 1) := by decide +kernel
theorem dX8_sets_24 : decode cX8_sets 24 = .ok (.iload 4, 2) := by decide +kernel
theorem dX8_sets_26 : decode cX8_sets 26 = .ok (.invokevirtual 149, 3) := by decide +kernel
theorem dX8_sets_29 : decode cX8_sets 29 = .ok (.iconst 1, 1) := by decide +kernel
theorem dX8_sets_30 : decode cX8_sets 30 = .ok (.ireturn, 1) := by decide +kernel
theorem dX8_canKnock_0 : decode cX8_canKnock 0 = .ok (.aload_n 0, 1) := by decide +kernel
theorem dX8_canKnock_1 : decode cX8_canKnock 1 = .ok (.aload_n 0, 1) := by decide +kernel
theorem dX8_canKnock_2 : decode cX8_canKnock 2 = .ok (.getfield 41, 3) := by decide +kernel
theorem dX8_canKnock_5 : decode cX8_canKnock 5 = .ok (.getfield 145, 3) := by decide +kernel
theorem dX8_canKnock_8 : decode cX8_canKnock 8 = .ok (.getfield 190, 3) := by decide +kernel
theorem dX8_canKnock_11 : decode cX8_canKnock 11 = .ok (.invokevirtual 97, 3) := by decide +kernel
theorem dX8_canKnock_14 : decode cX8_canKnock 14 = .ok (.ifCond .eq 40, 3) := by decide +kernel
theorem dX8_canKnock_17 : decode cX8_canKnock 17 = .ok (.iload_n 1, 1) := by decide +kernel
theorem dX8_canKnock_18 : decode cX8_canKnock 18 = .ok (.iconst 1, 1) := by decide +kernel
theorem dX8_canKnock_19 : decode cX8_canKnock 19 = .ok (.bipush 7, 2) := by decide +kernel
theorem dX8_canKnock_21 : decode cX8_canKnock 21 = .ok (.invokestatic 86, 3) := by decide +kernel
theorem dX8_canKnock_24 : decode cX8_canKnock 24 = .ok (.ifCond .eq 30, 3) := by decide +kernel
theorem dX8_canKnock_27 : decode cX8_canKnock 27 = .ok (.iload_n 2, 1) := by decide +kernel
theorem dX8_canKnock_28 : decode cX8_canKnock 28 = .ok (.iconst 0, 1) := by decide +kernel
theorem dX8_canKnock_29 : decode cX8_canKnock 29 = .ok (.iconst 5, 1) := by decide +kernel
theorem dX8_canKnock_30 : decode cX8_canKnock 30 = .ok (.invokestatic 86, 3) := by decide +kernel
theorem dX8_canKnock_33 : decode cX8_canKnock 33 = .ok (.ifCond .eq 21, 3) := by decide +kernel
theorem dX8_canKnock_36 : decode cX8_canKnock 36 = .ok (.iload_n 2, 1) := by decide +kernel
theorem dX8_canKnock_37 : decode cX8_canKnock 37 = .ok (.aload_n 0, 1) := by decide +kernel
theorem dX8_canKnock_38 : decode cX8_canKnock 38 = .ok (.getfield 41, 3) := by decide +kernel
theorem dX8_canKnock_41 : decode cX8_canKnock 41 = .ok (.getfield 145, 3) := by decide +kernel
theorem dX8_canKnock_44 : decode cX8_canKnock 44 = .ok (.getfield 195, 3) := by decide +kernel
theorem dX8_canKnock_47 : decode cX8_canKnock 47 = .ok (.if_icmp .gt 7, 3) := by decide +kernel
theorem dX8_canKnock_50 : decode cX8_canKnock 50 = .ok (.iconst 1, 1) := by decide +kernel
theorem dX8_canKnock_51 : decode cX8_canKnock 51 = .ok (.goto 4, 3) := by decide +kernel
theorem dX8_canKnock_54 : decode cX8_canKnock 54 = .ok (.iconst 0, 1) := by decide +kernel
theorem dX8_canKnock_55 : decode cX8_canKnock 55 = .ok (.ireturn, 1) := by decide +kernel
theorem dX8_hasKey_0 : decode cX8_hasKey 0 = .ok (.iload_n 0, 1) := by decide +kernel
theorem dX8_hasKey_1 : decode cX8_hasKey 1 = .ok (.iload_n 1, 1) := by decide +kernel
theorem dX8_hasKey_2 : decode cX8_hasKey 2 = .ok (.ishr, 1) := by decide +kernel
theorem dX8_hasKey_3 : decode cX8_hasKey 3 = .ok (.iconst 1, 1) := by decide +kernel
theorem dX8_hasKey_4 : decode cX8_hasKey 4 = .ok (.iand, 1) := by decide +kernel
theorem dX8_hasKey_5 : decode cX8_hasKey 5 = .ok (.iconst 1, 1) := by decide +kernel
theorem dX8_hasKey_6 : decode cX8_hasKey 6 = .ok (.if_icmp .ne 7, 3) := by decide +kernel
theorem dX8_hasKey_9 : decode cX8_hasKey 9 = .ok (.iconst 1, 1) := by decide +kernel
theorem dX8_hasKey_10 : decode cX8_hasKey 10 = .ok (.goto 4, 3) := by decide +kernel
theorem dX8_hasKey_13 : decode cX8_hasKey 13 = .ok (.iconst 0, 1) := by decide +kernel
theorem dX8_hasKey_14 : decode cX8_hasKey 14 = .ok (.ireturn, 1) := by decide +kernel
theorem dX6_keepsStep_0 : decode cX6_keepsStep 0 = .ok (.aload_n 0, 1) := by decide +kernel
theorem dX6_keepsStep_1 : decode cX6_keepsStep 1 = .ok (.getfield 34, 3) := by decide +kernel
theorem dX6_keepsStep_4 : decode cX6_keepsStep 4 = .ok (.bipush 30, 2) := by decide +kernel
theorem dX6_keepsStep_6 : decode cX6_keepsStep 6 = .ok (.if_icmp .lt 24, 3) := by decide +kernel
theorem dX6_keepsStep_9 : decode cX6_keepsStep 9 = .ok (.aload_n 0, 1) := by decide +kernel
theorem dX6_keepsStep_10 : decode cX6_keepsStep 10 = .ok (.getfield 9, 3) := by decide +kernel
theorem dX6_keepsStep_13 : decode cX6_keepsStep 13 = .ok (.iconst 1, 1) := by decide +kernel
theorem dX6_keepsStep_14 : decode cX6_keepsStep 14 = .ok (.aload_n 0, 1) := by decide +kernel
theorem dX6_keepsStep_15 : decode cX6_keepsStep 15 = .ok (.getfield 9, 3) := by decide +kernel
theorem dX6_keepsStep_18 : decode cX6_keepsStep 18 = .ok (.iconst 0, 1) := by decide +kernel
theorem dX6_keepsStep_19 : decode cX6_keepsStep 19 = .ok (.bipush 29, 2) := by decide +kernel
theorem dX6_keepsStep_21 : decode cX6_keepsStep 21 = .ok (.invokestatic 43, 3) := by decide +kernel
theorem dX6_keepsStep_24 : decode cX6_keepsStep 24 = .ok (.aload_n 0, 1) := by decide +kernel
theorem dX6_keepsStep_25 : decode cX6_keepsStep 25 = .ok (.bipush 29, 2) := by decide +kernel
theorem dX6_keepsStep_27 : decode cX6_keepsStep 27 = .ok (.putfield 34, 3) := by decide +kernel
theorem dX6_keepsStep_30 : decode cX6_keepsStep 30 = .ok (.aload_n 0, 1) := by decide +kernel
theorem dX6_keepsStep_31 : decode cX6_keepsStep 31 = .ok (.getfield 9, 3) := by decide +kernel
theorem dX6_keepsStep_34 : decode cX6_keepsStep 34 = .ok (.aload_n 0, 1) := by decide +kernel
theorem dX6_keepsStep_35 : decode cX6_keepsStep 35 = .ok (.getfield 34, 3) := by decide +kernel
theorem dX6_keepsStep_38 : decode cX6_keepsStep 38 = .ok (.aload_n 0, 1) := by decide +kernel
theorem dX6_keepsStep_39 : decode cX6_keepsStep 39 = .ok (.getfield 31, 3) := by decide +kernel
theorem dX6_keepsStep_42 : decode cX6_keepsStep 42 = .ok (.bipush 24, 2) := by decide +kernel
theorem dX6_keepsStep_44 : decode cX6_keepsStep 44 = .ok (.imul, 1) := by decide +kernel
theorem dX6_keepsStep_45 : decode cX6_keepsStep 45 = .ok (.aload_n 0, 1) := by decide +kernel
theorem dX6_keepsStep_46 : decode cX6_keepsStep 46 = .ok (.getfield 22, 3) := by decide +kernel
theorem dX6_keepsStep_49 : decode cX6_keepsStep 49 = .ok (.iadd, 1) := by decide +kernel
theorem dX6_keepsStep_50 : decode cX6_keepsStep 50 = .ok (.bipush 10, 2) := by decide +kernel
theorem dX6_keepsStep_52 : decode cX6_keepsStep 52 = .ok (.imul, 1) := by decide +kernel
theorem dX6_keepsStep_53 : decode cX6_keepsStep 53 = .ok (.aload_n 0, 1) := by decide +kernel
theorem dX6_keepsStep_54 : decode cX6_keepsStep 54 = .ok (.getfield 28, 3) := by decide +kernel
theorem dX6_keepsStep_57 : decode cX6_keepsStep 57 = .ok (.iadd, 1) := by decide +kernel
theorem dX6_keepsStep_58 : decode cX6_keepsStep 58 = .ok (.bipush 100, 2) := by decide +kernel
theorem dX6_keepsStep_60 : decode cX6_keepsStep 60 = .ok (.imul, 1) := by decide +kernel
theorem dX6_keepsStep_61 : decode cX6_keepsStep 61 = .ok (.aload_n 0, 1) := by decide +kernel
theorem dX6_keepsStep_62 : decode cX6_keepsStep 62 = .ok (.getfield 25, 3) := by decide +kernel
theorem dX6_keepsStep_65 : decode cX6_keepsStep 65 = .ok (.iadd, 1) := by decide +kernel
theorem dX6_keepsStep_66 : decode cX6_keepsStep 66 = .ok (.iastore, 1) := by decide +kernel
theorem dX6_keepsStep_67 : decode cX6_keepsStep 67 = .ok (.aload_n 0, 1) := by decide +kernel
theorem dX6_keepsStep_68 : decode cX6_keepsStep 68 = .ok (.dup, 1) := by decide +kernel
theorem dX6_keepsStep_69 : decode cX6_keepsStep 69 = .ok (.getfield 34, 3) := by decide +kernel
theorem dX6_keepsStep_72 : decode cX6_keepsStep 72 = .ok (.iconst 1, 1) := by decide +kernel
theorem dX6_keepsStep_73 : decode cX6_keepsStep 73 = .ok (.iadd, 1) := by decide +kernel
theorem dX6_keepsStep_74 : decode cX6_keepsStep 74 = .ok (.putfield 34, 3) := by decide +kernel
theorem dX6_keepsStep_77 : decode cX6_keepsStep 77 = .ok (.return_, 1) := by decide +kernel
theorem dX6_hourGoes_0 : decode cX6_hourGoes 0 = .ok (.aload_n 0, 1) := by decide +kernel
theorem dX6_hourGoes_1 : decode cX6_hourGoes 1 = .ok (.aload_n 0, 1) := by decide +kernel
theorem dX6_hourGoes_2 : decode cX6_hourGoes 2 = .ok (.getfield 22, 3) := by decide +kernel
theorem dX6_hourGoes_5 : decode cX6_hourGoes 5 = .ok (.iconst 1, 1) := by decide +kernel
theorem dX6_hourGoes_6 : decode cX6_hourGoes 6 = .ok (.iadd, 1) := by decide +kernel
theorem dX6_hourGoes_7 : decode cX6_hourGoes 7 = .ok (.bipush 24, 2) := by decide +kernel
theorem dX6_hourGoes_9 : decode cX6_hourGoes 9 = .ok (.irem, 1) := by decide +kernel
theorem dX6_hourGoes_10 : decode cX6_hourGoes 10 = .ok (.putfield 22, 3) := by decide +kernel
theorem dX6_hourGoes_13 : decode cX6_hourGoes 13 = .ok (.return_, 1) := by decide +kernel
theorem dX6_stays_0 : decode cX6_stays 0 = .ok (.aload_n 0, 1) := by decide +kernel
theorem dX6_stays_1 : decode cX6_stays 1 = .ok (.bipush 9, 2) := by decide +kernel
theorem dX6_stays_3 : decode cX6_stays 3 = .ok (.aload_n 0, 1) := by decide +kernel
theorem dX6_stays_4 : decode cX6_stays 4 = .ok (.getfield 28, 3) := by decide +kernel
theorem dX6_stays_7 : decode cX6_stays 7 = .ok (.iconst 1, 1) := by decide +kernel
theorem dX6_stays_8 : decode cX6_stays 8 = .ok (.iadd, 1) := by decide +kernel
theorem dX6_stays_9 : decode cX6_stays 9 = .ok (.invokestatic 37, 3) := by decide +kernel
theorem dX6_stays_12 : decode cX6_stays 12 = .ok (.putfield 28, 3) := by decide +kernel
theorem dX6_stays_15 : decode cX6_stays 15 = .ok (.return_, 1) := by decide +kernel
-- X3_holds_T
def J_X3_holds_T_145 (n : Nat) (t1 : Nat) (v2 : Int32) (v3 : Int32) (v4 : Int32) (s : jS) : Option ((Int32 × Int32 × jS) ⊕ (Int32 × Int32 × jS)) :=
  (if v2 ≤ 1 then some (.inl (v2, (v3 + 1), s)) else (if jin ((v2 + (-1)) - 1) 64 = true then (if jin (v2 + (-1)) 64 = true then ((F_X3_joined (-v4) (s.1 31 (Int32.toNatClampNeg ((v2 + (-1)) - 1))) (s.1 31 (Int32.toNatClampNeg (v2 + (-1))))).bind fun p177 => (jl (upI s 31 (Int32.toNatClampNeg ((v2 + (-1)) - 1)) p177) fun s180_4 => some (.inl ((v2 + (-1)), (v3 + 1), s180_4)))) else none) else none))
def J_X3_holds_T_114 (n : Nat) (t1 : Nat) (v2 : Int32) (v3 : Int32) (v4 : Int32) (s : jS) : Option ((Int32 × Int32 × jS) ⊕ (Int32 × Int32 × jS)) :=
  (if v2 ≤ 0 then J_X3_holds_T_145 n t1 v2 v3 v4 s else (if v4 = (-24) then (if jin (v2 - 1) 64 = true then (jl (upI s 31 (Int32.toNatClampNeg (v2 - 1)) (-(s.1 31 (Int32.toNatClampNeg (v2 - 1))))) fun s141_6 => some (.inl (v2, (v3 + 1), s141_6))) else none) else J_X3_holds_T_145 n t1 v2 v3 v4 s))
def B_X3_holds_T_4 (n : Nat) (t1 : Nat) (q : Int32 × Int32 × jS) : Option ((Int32 × Int32 × jS) ⊕ (Int32 × Int32 × jS)) :=
  (if (q.2.2.1 (2 + 4 * t1) 3) ≤ q.2.1 then some (.inr (q.1, q.2.1, q.2.2)) else (if 300 ≤ q.2.1 then some (.inr (q.1, q.2.1, q.2.2)) else (if jin q.2.1 300 = true then (if (q.2.2.1 (2 + 4 * t1 + 1) (Int32.toNatClampNeg q.2.1)) < 0 then (if q.1 ≤ 0 then J_X3_holds_T_114 n t1 q.1 q.2.1 (q.2.2.1 (2 + 4 * t1 + 1) (Int32.toNatClampNeg q.2.1)) q.2.2 else (if (q.2.2.1 (2 + 4 * t1 + 1) (Int32.toNatClampNeg q.2.1)) = (-13) then (if jin (q.1 - 1) 64 = true then (jl (upI q.2.2 31 (Int32.toNatClampNeg (q.1 - 1)) (1 - (q.2.2.1 31 (Int32.toNatClampNeg (q.1 - 1))))) fun s110_8 => some (.inl (q.1, (q.2.1 + 1), s110_8))) else none) else J_X3_holds_T_114 n t1 q.1 q.2.1 (q.2.2.1 (2 + 4 * t1 + 1) (Int32.toNatClampNeg q.2.1)) q.2.2)) else (if 64 ≤ q.1 then some (.inl (q.1, (q.2.1 + 1), q.2.2)) else (if ((q.2.2.1 (2 + 4 * t1 + 1) (Int32.toNatClampNeg q.2.1)) - 10000) < 0 then (if jin q.1 64 = true then (jl (upI q.2.2 31 (Int32.toNatClampNeg q.1) (q.2.2.1 (2 + 4 * t1 + 1) (Int32.toNatClampNeg q.2.1))) fun s75_10 => some (.inl ((q.1 + 1), (q.2.1 + 1), s75_10))) else none) else (if 8 ≤ ((q.2.2.1 (2 + 4 * t1 + 1) (Int32.toNatClampNeg q.2.1)) - 10000) then (if jin q.1 64 = true then (jl (upI q.2.2 31 (Int32.toNatClampNeg q.1) (q.2.2.1 (2 + 4 * t1 + 1) (Int32.toNatClampNeg q.2.1))) fun s75_12 => some (.inl ((q.1 + 1), (q.2.1 + 1), s75_12))) else none) else (if jin ((q.2.2.1 (2 + 4 * t1 + 1) (Int32.toNatClampNeg q.2.1)) - 10000) 8 = true then (if jin q.1 64 = true then (jl (upI q.2.2 31 (Int32.toNatClampNeg q.1) (q.2.2.1 30 (Int32.toNatClampNeg ((q.2.2.1 (2 + 4 * t1 + 1) (Int32.toNatClampNeg q.2.1)) - 10000)))) fun s75_15 => some (.inl ((q.1 + 1), (q.2.1 + 1), s75_15))) else none) else none))))) else none)))
def F_X3_holds_T (n : Nat) (t1 : Nat) (s : jS) : Option (Bool × jS) :=
  ((lp (B_X3_holds_T_4 n t1) n (0, 0, s)).bind fun e4 => (if e4.1 ≤ 0 then some (false, e4.2.2) else (if (e4.2.2.1 31 (Int32.toNatClampNeg 0)) = 1 then some (true, e4.2.2) else some (false, e4.2.2))))
def rm_X3_holds_T : Room := { frames := 1, cells := 0, slots := 0, locals := 24 }
set_option maxHeartbeats 4000000 in
set_option maxRecDepth 100000 in
theorem m_X3_holds_T {l : Launch} {D : va_G} {G : Nat → ClassId} {KV : jV} {ad : Nat → Nat} {nd : Nat} (n : Nat) (t1 : Nat) (s : jS) (ht1 : t1 < 4) {p : Bool × jS} (h : F_X3_holds_T n t1 s = some p) : jM l D G KV yX3_holds cX3_holds 6 (some .boolean) rm_X3_holds_T [.ref (ad 29), .ref (ad (2 + 4 * t1))] (jw 54 (cellC G nd) ad s) 0 0 (fun v u => v = some (.int (jb p.1)) ∧ u = jw 54 (cellC G nd) ad p.2) := by
  refine jM.of (by decide) (Nat.le_of_ble_eq_true rfl) ?_
  intro K C
  unfold F_X3_holds_T at h
  have jn145_4 : ∀ (t1 : Nat) (v2 : Int32) (v3 : Int32) (v4 : Int32) (s : jS) (ht1 : t1 < 4) (o : (Int32 × Int32 × jS) ⊕ (Int32 × Int32 × jS)), J_X3_holds_T_145 n t1 v2 v3 v4 s = some o → (∀ q, o = .inl q → K 0 0 (jw 54 (cellC G nd) ad q.2.2) 4 [(0, .ref (ad 29)), (1, .ref (ad (2 + 4 * t1))), (2, .int q.1), (3, .int q.2.1)] []) → (∀ e, o = .inr e → K 0 0 (jw 54 (cellC G nd) ad e.2.2) 187 [(0, .ref (ad 29)), (2, .int e.1)] []) → K 0 0 (jw 54 (cellC G nd) ad s) 145 [(0, .ref (ad 29)), (1, .ref (ad (2 + 4 * t1))), (2, .int v2), (3, .int v3), (4, .int v4)] [] := by
    intro t1 v2 v3 v4 s ht1 o hb hin hout
    unfold J_X3_holds_T_145 at hb
    refine j_iload_n C dX3_holds_145 2 rfl ?_
    refine j_iconst C dX3_holds_146 (v := 1) (by decide) ?_
    refine j_icmp_le C dX3_holds_147 (tgt := 181) (by decide) (fun cq => ?_) (fun cq => ?_)
    · have hb := jite_t hb cq
      refine j_iinc C dX3_holds_181 3 rfl (v := (v3 + 1)) rfl (by decide) rfl ?_
      refine j_goto C dX3_holds_184 (tgt := 4) (by decide) ?_
      refine j_loc C [1, 2, 3, 0] rfl ?_
      have hx := hin _ (jinl hb)
      exact hx
    · have hb := jite_f hb cq
      refine j_iinc C dX3_holds_150 2 rfl (v := (v2 + (-1))) rfl (by decide) rfl ?_
      refine j_aload_n C dX3_holds_153 1 rfl ?_
      refine j_getW C dX3_holds_154 inX3 rfl (by decide) rfl 4 (by decide) w_205 rfl rfl ?_
      refine j_iload_n C dX3_holds_157 0 rfl ?_
      refine j_iconst C dX3_holds_158 (v := 1) (by decide) ?_
      refine j_isub C dX3_holds_159 ?_
      refine j_iload C dX3_holds_160 4 rfl ?_
      refine j_ineg C dX3_holds_162 ?_
      refine j_aload_n C dX3_holds_163 1 rfl ?_
      refine j_getW C dX3_holds_164 inX3 rfl (by decide) rfl 4 (by decide) w_205 rfl rfl ?_
      refine j_iload_n C dX3_holds_167 0 rfl ?_
      refine j_iconst C dX3_holds_168 (v := 1) (by decide) ?_
      refine j_isub C dX3_holds_169 ?_
      obtain ⟨c170_2, hb⟩ := jchk hb
      refine j_ialdW C dX3_holds_170 (by decide) rfl (jin_vp c170_2) ?_
      refine j_aload_n C dX3_holds_171 1 rfl ?_
      refine j_getW C dX3_holds_172 inX3 rfl (by decide) rfl 4 (by decide) w_205 rfl rfl ?_
      refine j_iload_n C dX3_holds_175 0 rfl ?_
      obtain ⟨c176_3, hb⟩ := jchk hb
      refine j_ialdW C dX3_holds_176 (by decide) rfl (jin_vp c176_3) ?_
      obtain ⟨p177, he177, hb⟩ := jbind hb
      refine j_cS1 C dX3_holds_177 (m_X3_joined (-v4) (s.1 31 (Int32.toNatClampNeg ((v2 + (-1)) - 1))) (s.1 31 (Int32.toNatClampNeg (v2 + (-1)))) he177) kc_X3_joined w_662 w_663 w_7 jy_X3_joined ⟨⟨Nat.le_of_ble_eq_true rfl, Nat.le_of_ble_eq_true rfl⟩, ⟨rfl, rfl⟩, ⟨Nat.zero_le _, Nat.zero_le _⟩⟩ (Nat.le_of_ble_eq_true rfl) rfl (fun _ _ h => h) ?_
      refine j_iastW C dX3_holds_180 (by decide) (fun _ => rfl) (jin_vp c170_2) (fun s180_4 hs180_4 => ?_)
      have hb := jlet hb hs180_4
      refine j_iinc C dX3_holds_181 3 rfl (v := (v3 + 1)) rfl (by decide) rfl ?_
      refine j_goto C dX3_holds_184 (tgt := 4) (by decide) ?_
      refine j_loc C [2, 3, 1, 0] rfl ?_
      have hx := hin _ (jinl hb)
      exact hx
  have jn114_4 : ∀ (t1 : Nat) (v2 : Int32) (v3 : Int32) (v4 : Int32) (s : jS) (ht1 : t1 < 4) (o : (Int32 × Int32 × jS) ⊕ (Int32 × Int32 × jS)), J_X3_holds_T_114 n t1 v2 v3 v4 s = some o → (∀ q, o = .inl q → K 0 0 (jw 54 (cellC G nd) ad q.2.2) 4 [(0, .ref (ad 29)), (1, .ref (ad (2 + 4 * t1))), (2, .int q.1), (3, .int q.2.1)] []) → (∀ e, o = .inr e → K 0 0 (jw 54 (cellC G nd) ad e.2.2) 187 [(0, .ref (ad 29)), (2, .int e.1)] []) → K 0 0 (jw 54 (cellC G nd) ad s) 114 [(0, .ref (ad 29)), (1, .ref (ad (2 + 4 * t1))), (2, .int v2), (3, .int v3), (4, .int v4)] [] := by
    intro t1 v2 v3 v4 s ht1 o hb hin hout
    unfold J_X3_holds_T_114 at hb
    refine j_iload_n C dX3_holds_114 2 rfl ?_
    refine j_if_le C dX3_holds_115 (tgt := 145) (by decide) (fun cq => ?_) (fun cq => ?_)
    · have hb := jite_t hb cq
      refine j_loc C [0, 1, 2, 3, 4] rfl ?_
      exact jn145_4 t1 v2 v3 v4 s  ht1 _ hb hin hout
    · have hb := jite_f hb cq
      refine j_iload C dX3_holds_118 4 rfl ?_
      refine j_bipush C dX3_holds_120 (v := (-24)) (by decide) ?_
      refine j_icmp_ne C dX3_holds_122 (tgt := 145) (by decide) (fun cq => ?_) (fun cq => ?_)
      · have hb := jite_f hb cq
        refine j_loc C [0, 1, 2, 3, 4] rfl ?_
        exact jn145_4 t1 v2 v3 v4 s  ht1 _ hb hin hout
      · have hb := jite_t hb cq
        refine j_aload_n C dX3_holds_125 0 rfl ?_
        refine j_getW C dX3_holds_126 inX3 rfl (by decide) rfl 4 (by decide) w_205 rfl rfl ?_
        refine j_iload_n C dX3_holds_129 2 rfl ?_
        refine j_iconst C dX3_holds_130 (v := 1) (by decide) ?_
        refine j_isub C dX3_holds_131 ?_
        refine j_aload_n C dX3_holds_132 0 rfl ?_
        refine j_getW C dX3_holds_133 inX3 rfl (by decide) rfl 4 (by decide) w_205 rfl rfl ?_
        refine j_iload_n C dX3_holds_136 2 rfl ?_
        refine j_iconst C dX3_holds_137 (v := 1) (by decide) ?_
        refine j_isub C dX3_holds_138 ?_
        obtain ⟨c139_5, hb⟩ := jchk hb
        refine j_ialdW C dX3_holds_139 (by decide) rfl (jin_vp c139_5) ?_
        refine j_ineg C dX3_holds_140 ?_
        refine j_iastW C dX3_holds_141 (by decide) (fun _ => rfl) (jin_vp c139_5) (fun s141_6 hs141_6 => ?_)
        have hb := jlet hb hs141_6
        refine j_goto C dX3_holds_142 (tgt := 181) (by decide) ?_
        refine j_iinc C dX3_holds_181 3 rfl (v := (v3 + 1)) rfl (by decide) rfl ?_
        refine j_goto C dX3_holds_184 (tgt := 4) (by decide) ?_
        refine j_loc C [1, 2, 3, 0] rfl ?_
        have hx := hin _ (jinl hb)
        exact hx
  have lo4 : ∀ (t1 : Nat) (s : jS) (ht1 : t1 < 4) (k : Nat) (q : Int32 × Int32 × jS) (e : Int32 × Int32 × jS), lp (B_X3_holds_T_4 n t1) k q = some e → K 0 0 (jw 54 (cellC G nd) ad e.2.2) 187 [(0, .ref (ad 29)), (2, .int e.1)] [] → K 0 0 (jw 54 (cellC G nd) ad q.2.2) 4 [(0, .ref (ad 29)), (1, .ref (ad (2 + 4 * t1))), (2, .int q.1), (3, .int q.2.1)] [] := by
    intro t1 s ht1 k q e he hE
    refine jlp (KH := fun q => K 0 0 (jw 54 (cellC G nd) ad q.2.2) 4 [(0, .ref (ad 29)), (1, .ref (ad (2 + 4 * t1))), (2, .int q.1), (3, .int q.2.1)] []) (KE := fun e => K 0 0 (jw 54 (cellC G nd) ad e.2.2) 187 [(0, .ref (ad 29)), (2, .int e.1)] []) ?_ k q e he hE
    intro q o hb hin hout
    unfold B_X3_holds_T_4 at hb
    show K 0 0 (jw 54 (cellC G nd) ad q.2.2) 4 [(0, .ref (ad 29)), (1, .ref (ad (2 + 4 * t1))), (2, .int q.1), (3, .int q.2.1)] []
    refine j_iload_n C dX3_holds_4 3 rfl ?_
    refine j_aload_n C dX3_holds_5 1 rfl ?_
    refine j_getW C dX3_holds_6 inX5 rfl (cTq0 ht1) (cT0 ht1) 3 (by decide) w_46 rfl rfl ?_
    refine j_icmp_ge C dX3_holds_9 (tgt := 187) (by decide) (fun cq => ?_) (fun cq => ?_)
    · have hb := jite_t hb cq
      refine j_loc C [0, 2] rfl ?_
      have hx := hout _ (jinr hb)
      exact hx
    · have hb := jite_f hb cq
      refine j_iload_n C dX3_holds_12 3 rfl ?_
      refine j_sipush C dX3_holds_13 (v := 300) (by decide) ?_
      refine j_icmp_ge C dX3_holds_16 (tgt := 187) (by decide) (fun cq => ?_) (fun cq => ?_)
      · have hb := jite_t hb cq
        refine j_loc C [0, 2] rfl ?_
        have hx := hout _ (jinr hb)
        exact hx
      · have hb := jite_f hb cq
        refine j_aload_n C dX3_holds_19 1 rfl ?_
        refine j_getW C dX3_holds_20 inX5 rfl (cTq0 ht1) (cT0 ht1) 0 (by decide) w_40 rfl rfl ?_
        refine j_iload_n C dX3_holds_23 3 rfl ?_
        obtain ⟨c24_1, hb⟩ := jchk hb
        refine j_ialdW C dX3_holds_24 (cTq1 ht1) (cT1 ht1) (jin_vp c24_1) ?_
        refine j_istore C dX3_holds_25 (by decide) rfl ?_
        refine j_iload C dX3_holds_27 0 rfl ?_
        refine j_if_lt C dX3_holds_29 (tgt := 82) (by decide) (fun cq => ?_) (fun cq => ?_)
        · have hb := jite_t hb cq
          refine j_iload_n C dX3_holds_82 3 rfl ?_
          refine j_if_le C dX3_holds_83 (tgt := 114) (by decide) (fun cq => ?_) (fun cq => ?_)
          · have hb := jite_t hb cq
            refine j_loc C [1, 2, 3, 4, 0] rfl ?_
            exact jn114_4 t1 q.1 q.2.1 (q.2.2.1 (2 + 4 * t1 + 1) (Int32.toNatClampNeg q.2.1)) q.2.2  ht1 _ hb hin hout
          · have hb := jite_f hb cq
            refine j_iload C dX3_holds_86 0 rfl ?_
            refine j_bipush C dX3_holds_88 (v := (-13)) (by decide) ?_
            refine j_icmp_ne C dX3_holds_90 (tgt := 114) (by decide) (fun cq => ?_) (fun cq => ?_)
            · have hb := jite_f hb cq
              refine j_loc C [1, 2, 3, 4, 0] rfl ?_
              exact jn114_4 t1 q.1 q.2.1 (q.2.2.1 (2 + 4 * t1 + 1) (Int32.toNatClampNeg q.2.1)) q.2.2  ht1 _ hb hin hout
            · have hb := jite_t hb cq
              refine j_aload_n C dX3_holds_93 1 rfl ?_
              refine j_getW C dX3_holds_94 inX3 rfl (by decide) rfl 4 (by decide) w_205 rfl rfl ?_
              refine j_iload_n C dX3_holds_97 3 rfl ?_
              refine j_iconst C dX3_holds_98 (v := 1) (by decide) ?_
              refine j_isub C dX3_holds_99 ?_
              refine j_iconst C dX3_holds_100 (v := 1) (by decide) ?_
              refine j_aload_n C dX3_holds_101 1 rfl ?_
              refine j_getW C dX3_holds_102 inX3 rfl (by decide) rfl 4 (by decide) w_205 rfl rfl ?_
              refine j_iload_n C dX3_holds_105 3 rfl ?_
              refine j_iconst C dX3_holds_106 (v := 1) (by decide) ?_
              refine j_isub C dX3_holds_107 ?_
              obtain ⟨c108_7, hb⟩ := jchk hb
              refine j_ialdW C dX3_holds_108 (by decide) rfl (jin_vp c108_7) ?_
              refine j_isub C dX3_holds_109 ?_
              refine j_iastW C dX3_holds_110 (by decide) (fun _ => rfl) (jin_vp c108_7) (fun s110_8 hs110_8 => ?_)
              have hb := jlet hb hs110_8
              refine j_goto C dX3_holds_111 (tgt := 181) (by decide) ?_
              refine j_iinc C dX3_holds_181 4 rfl (v := (q.2.1 + 1)) rfl (by decide) rfl ?_
              refine j_goto C dX3_holds_184 (tgt := 4) (by decide) ?_
              refine j_loc C [2, 3, 4, 0] rfl ?_
              have hx := hin _ (jinl hb)
              exact hx
        · have hb := jite_f hb cq
          refine j_iload_n C dX3_holds_32 3 rfl ?_
          refine j_bipush C dX3_holds_33 (v := 64) (by decide) ?_
          refine j_icmp_ge C dX3_holds_35 (tgt := 181) (by decide) (fun cq => ?_) (fun cq => ?_)
          · have hb := jite_t hb cq
            refine j_iinc C dX3_holds_181 4 rfl (v := (q.2.1 + 1)) rfl (by decide) rfl ?_
            refine j_goto C dX3_holds_184 (tgt := 4) (by decide) ?_
            refine j_loc C [2, 3, 4, 0] rfl ?_
            have hx := hin _ (jinl hb)
            exact hx
          · have hb := jite_f hb cq
            refine j_iload C dX3_holds_38 0 rfl ?_
            refine j_sipush C dX3_holds_40 (v := 10000) (by decide) ?_
            refine j_isub C dX3_holds_43 ?_
            refine j_istore C dX3_holds_44 (by decide) rfl ?_
            refine j_aload_n C dX3_holds_46 2 rfl ?_
            refine j_getW C dX3_holds_47 inX3 rfl (by decide) rfl 4 (by decide) w_205 rfl rfl ?_
            refine j_iload_n C dX3_holds_50 4 rfl ?_
            refine j_iload C dX3_holds_51 0 rfl ?_
            refine j_if_lt C dX3_holds_53 (tgt := 73) (by decide) (fun cq => ?_) (fun cq => ?_)
            · have hb := jite_t hb cq
              refine j_iload C dX3_holds_73 1 rfl ?_
              obtain ⟨c75_9, hb⟩ := jchk hb
              refine j_iastW C dX3_holds_75 (by decide) (fun _ => rfl) (jin_vp c75_9) (fun s75_10 hs75_10 => ?_)
              have hb := jlet hb hs75_10
              refine j_iinc C dX3_holds_76 4 rfl (v := (q.1 + 1)) rfl (by decide) rfl ?_
              refine j_goto C dX3_holds_79 (tgt := 181) (by decide) ?_
              refine j_iinc C dX3_holds_181 5 rfl (v := (q.2.1 + 1)) rfl (by decide) rfl ?_
              refine j_goto C dX3_holds_184 (tgt := 4) (by decide) ?_
              refine j_loc C [4, 5, 1, 0] rfl ?_
              have hx := hin _ (jinl hb)
              exact hx
            · have hb := jite_f hb cq
              refine j_iload C dX3_holds_56 0 rfl ?_
              refine j_bipush C dX3_holds_58 (v := 8) (by decide) ?_
              refine j_icmp_ge C dX3_holds_60 (tgt := 73) (by decide) (fun cq => ?_) (fun cq => ?_)
              · have hb := jite_t hb cq
                refine j_iload C dX3_holds_73 1 rfl ?_
                obtain ⟨c75_11, hb⟩ := jchk hb
                refine j_iastW C dX3_holds_75 (by decide) (fun _ => rfl) (jin_vp c75_11) (fun s75_12 hs75_12 => ?_)
                have hb := jlet hb hs75_12
                refine j_iinc C dX3_holds_76 4 rfl (v := (q.1 + 1)) rfl (by decide) rfl ?_
                refine j_goto C dX3_holds_79 (tgt := 181) (by decide) ?_
                refine j_iinc C dX3_holds_181 5 rfl (v := (q.2.1 + 1)) rfl (by decide) rfl ?_
                refine j_goto C dX3_holds_184 (tgt := 4) (by decide) ?_
                refine j_loc C [4, 5, 1, 0] rfl ?_
                have hx := hin _ (jinl hb)
                exact hx
              · have hb := jite_f hb cq
                refine j_aload_n C dX3_holds_63 2 rfl ?_
                refine j_getW C dX3_holds_64 inX3 rfl (by decide) rfl 3 (by decide) w_204 rfl rfl ?_
                refine j_iload C dX3_holds_67 0 rfl ?_
                obtain ⟨c69_13, hb⟩ := jchk hb
                refine j_ialdW C dX3_holds_69 (by decide) rfl (jin_vp c69_13) ?_
                refine j_goto C dX3_holds_70 (tgt := 75) (by decide) ?_
                obtain ⟨c75_14, hb⟩ := jchk hb
                refine j_iastW C dX3_holds_75 (by decide) (fun _ => rfl) (jin_vp c75_14) (fun s75_15 hs75_15 => ?_)
                have hb := jlet hb hs75_15
                refine j_iinc C dX3_holds_76 4 rfl (v := (q.1 + 1)) rfl (by decide) rfl ?_
                refine j_goto C dX3_holds_79 (tgt := 181) (by decide) ?_
                refine j_iinc C dX3_holds_181 5 rfl (v := (q.2.1 + 1)) rfl (by decide) rfl ?_
                refine j_goto C dX3_holds_184 (tgt := 4) (by decide) ?_
                refine j_loc C [4, 5, 1, 0] rfl ?_
                have hx := hin _ (jinl hb)
                exact hx
  show K 0 0 (jw 54 (cellC G nd) ad s) 0 [(0, .ref (ad 29)), (1, .ref (ad (2 + 4 * t1)))] []
  refine j_iconst C dX3_holds_0 (v := 0) (by decide) ?_
  refine j_istore_n C dX3_holds_1 (by decide) rfl ?_
  refine j_iconst C dX3_holds_2 (v := 0) (by decide) ?_
  refine j_istore_n C dX3_holds_3 (by decide) rfl ?_
  refine j_loc C [2, 3, 1, 0] rfl ?_
  obtain ⟨e4, he4, h⟩ := jbind h
  refine lo4 t1 s ht1 n (0, 0, s) e4 he4 ?_
  refine j_iload_n C dX3_holds_187 1 rfl ?_
  refine j_if_le C dX3_holds_188 (tgt := 205) (by decide) (fun cq => ?_) (fun cq => ?_)
  · have h := jite_t h cq
    refine j_iconst C dX3_holds_205 (v := 0) (by decide) ?_
    exact j_iret C dX3_holds_206 rfl (jb_nar false) (Nat.zero_le _) (Nat.zero_le _) (jretWB h)
  · have h := jite_f h cq
    refine j_aload_n C dX3_holds_191 0 rfl ?_
    refine j_getW C dX3_holds_192 inX3 rfl (by decide) rfl 4 (by decide) w_205 rfl rfl ?_
    refine j_iconst C dX3_holds_195 (v := 0) (by decide) ?_
    refine j_ialdW C dX3_holds_196 (by decide) rfl (jin_vp (i := 0) (n := 64) (by decide)) ?_
    refine j_iconst C dX3_holds_197 (v := 1) (by decide) ?_
    refine j_icmp_ne C dX3_holds_198 (tgt := 205) (by decide) (fun cq => ?_) (fun cq => ?_)
    · have h := jite_f h cq
      refine j_iconst C dX3_holds_205 (v := 0) (by decide) ?_
      exact j_iret C dX3_holds_206 rfl (jb_nar false) (Nat.zero_le _) (Nat.zero_le _) (jretWB h)
    · have h := jite_t h cq
      refine j_iconst C dX3_holds_201 (v := 1) (by decide) ?_
      refine j_goto C dX3_holds_202 (tgt := 206) (by decide) ?_
      exact j_iret C dX3_holds_206 rfl (jb_nar true) (Nat.zero_le _) (Nat.zero_le _) (jretWB h)
-- X3_opensBy
def F_X3_opensBy (n : Nat) (v1 : Int32) (v2 : Int32) (v3 : Int32) (v4 : Int32) (v5 : Int32) (v6 : Int32) (v7 : Int32) (s : jS) : Option (Bool × jS) :=
  ((F_X3_isOpening v1 s).bind fun p2 => (if p2 = true then ((F_X3_face v2 v3 v7 s).bind fun p15 => (jl (upI p15 30 (Int32.toNatClampNeg 6) v6) fun s26_1 => (jl (upI s26_1 30 (Int32.toNatClampNeg 5) v4) fun s34_2 => (jl (upI s34_2 30 (Int32.toNatClampNeg 4) v5) fun s42_3 => (if jin v1 4 = true then ((F_X3_holds_T n (Int32.toNatClampNeg v1) s42_3).bind fun p50 => some (p50.1, p50.2)) else none))))) else some (false, s)))
def rm_X3_opensBy : Room := { frames := 2, cells := 0, slots := 0, locals := 49 }
set_option maxHeartbeats 4000000 in
set_option maxRecDepth 100000 in
theorem m_X3_opensBy {l : Launch} {D : va_G} {G : Nat → ClassId} {KV : jV} {ad : Nat → Nat} {nd : Nat} (n : Nat) (v1 : Int32) (v2 : Int32) (v3 : Int32) (v4 : Int32) (v5 : Int32) (v6 : Int32) (v7 : Int32) (s : jS) {p : Bool × jS} (h : F_X3_opensBy n v1 v2 v3 v4 v5 v6 v7 s = some p) : jM l D G KV yX3_opensBy cX3_opensBy 8 (some .boolean) rm_X3_opensBy [.ref (ad 29), .int v1, .int v2, .int v3, .int v4, .int v5, .int v6, .int v7] (jw 54 (cellC G nd) ad s) 0 0 (fun v u => v = some (.int (jb p.1)) ∧ u = jw 54 (cellC G nd) ad p.2) := by
  refine jM.of (by decide) (Nat.le_of_ble_eq_true rfl) ?_
  intro K C
  unfold F_X3_opensBy at h
  show K 0 0 (jw 54 (cellC G nd) ad s) 0 [(0, .ref (ad 29)), (1, .int v1), (2, .int v2), (3, .int v3), (4, .int v4), (5, .int v5), (6, .int v6), (7, .int v7)] []
  refine j_aload_n C dX3_opensBy_0 0 rfl ?_
  refine j_iload_n C dX3_opensBy_1 1 rfl ?_
  obtain ⟨p2, he2, h⟩ := jbind h
  refine j_cV1 C dX3_opensBy_2 (m_X3_isOpening v1 s he2) kc_X3_isOpening w_650 w_651 w_652 w_7 jy_X3_isOpening ⟨⟨Nat.le_of_ble_eq_true rfl, Nat.le_of_ble_eq_true rfl⟩, ⟨rfl, rfl⟩, ⟨Nat.zero_le _, Nat.zero_le _⟩⟩ (Nat.le_of_ble_eq_true rfl) (by decide) rfl (r := (RX3, TX3, 7)) rfl rfl rfl (fun _ _ h => h) ?_
  refine j_if_ne C dX3_opensBy_5 (tgt := 10) (by decide) (fun cq => ?_) (fun cq => ?_)
  · have h := jite_t h (jb_t cq)
    refine j_aload_n C dX3_opensBy_10 0 rfl ?_
    refine j_iload_n C dX3_opensBy_11 2 rfl ?_
    refine j_iload_n C dX3_opensBy_12 3 rfl ?_
    refine j_iload C dX3_opensBy_13 7 rfl ?_
    obtain ⟨p15, he15, h⟩ := jbind h
    refine j_cV0 C dX3_opensBy_15 (m_X3_face v2 v3 v7 s he15) kc_X3_face w_654 w_656 wp_24 w_7 jy_X3_face ⟨⟨Nat.le_of_ble_eq_true rfl, Nat.le_of_ble_eq_true rfl⟩, ⟨rfl, rfl⟩, ⟨Nat.zero_le _, Nat.zero_le _⟩⟩ (Nat.le_of_ble_eq_true rfl) (by decide) rfl (r := (RX3, TX3, 7)) rfl rfl rfl (fun _ _ h => h) ?_
    refine j_aload_n C dX3_opensBy_18 0 rfl ?_
    refine j_getW C dX3_opensBy_19 inX3 rfl (by decide) rfl 3 (by decide) w_204 rfl rfl ?_
    refine j_bipush C dX3_opensBy_22 (v := 6) (by decide) ?_
    refine j_iload C dX3_opensBy_24 6 rfl ?_
    refine j_iastW C dX3_opensBy_26 (by decide) (fun _ => rfl) (jin_vp (i := 6) (n := 8) (by decide)) (fun s26_1 hs26_1 => ?_)
    have h := jlet h hs26_1
    refine j_aload_n C dX3_opensBy_27 0 rfl ?_
    refine j_getW C dX3_opensBy_28 inX3 rfl (by decide) rfl 3 (by decide) w_204 rfl rfl ?_
    refine j_iconst C dX3_opensBy_31 (v := 5) (by decide) ?_
    refine j_iload C dX3_opensBy_32 4 rfl ?_
    refine j_iastW C dX3_opensBy_34 (by decide) (fun _ => rfl) (jin_vp (i := 5) (n := 8) (by decide)) (fun s34_2 hs34_2 => ?_)
    have h := jlet h hs34_2
    refine j_aload_n C dX3_opensBy_35 0 rfl ?_
    refine j_getW C dX3_opensBy_36 inX3 rfl (by decide) rfl 3 (by decide) w_204 rfl rfl ?_
    refine j_iconst C dX3_opensBy_39 (v := 4) (by decide) ?_
    refine j_iload C dX3_opensBy_40 5 rfl ?_
    refine j_iastW C dX3_opensBy_42 (by decide) (fun _ => rfl) (jin_vp (i := 4) (n := 8) (by decide)) (fun s42_3 hs42_3 => ?_)
    have h := jlet h hs42_3
    refine j_aload_n C dX3_opensBy_43 0 rfl ?_
    refine j_aload_n C dX3_opensBy_44 0 rfl ?_
    refine j_getW C dX3_opensBy_45 inX3 rfl (by decide) rfl 2 (by decide) w_203 rfl rfl ?_
    refine j_iload_n C dX3_opensBy_48 1 rfl ?_
    obtain ⟨c49_4, h⟩ := jchk h
    refine j_aaldT C dX3_opensBy_49 (by decide) rfl c49_4 ?_
    obtain ⟨p50, he50, h⟩ := jbind h
    refine j_cV1 C dX3_opensBy_50 (m_X3_holds_T n (Int32.toNatClampNeg v1) s42_3 (jin_lt (i := v1) (n := 4) c49_4) he50) kc_X3_holds w_658 w_660 wp_25 w_7 jy_X3_holds ⟨⟨Nat.le_of_ble_eq_true rfl, Nat.le_of_ble_eq_true rfl⟩, ⟨rfl, rfl⟩, ⟨Nat.zero_le _, Nat.zero_le _⟩⟩ (Nat.le_of_ble_eq_true rfl) (by decide) rfl (r := (RX3, TX3, 7)) rfl rfl rfl (fun _ _ h => h) ?_
    exact j_iret C dX3_opensBy_53 rfl (jb_nar p50.1) (Nat.zero_le _) (Nat.zero_le _) (jretWB h)
  · have h := jite_f h (jb_f cq)
    refine j_iconst C dX3_opensBy_8 (v := 0) (by decide) ?_
    exact j_iret C dX3_opensBy_9 rfl (jb_nar false) (Nat.zero_le _) (Nat.zero_le _) (jretWB h)
-- X8_opens
def F_X8_opens (n : Nat) (v1 : Int32) (v2 : Int32) (v3 : Int32) (v4 : Int32) (v5 : Int32) (v6 : Int32) (s : jS) : Option (Bool × jS) :=
  (if (F_X8_isKnock v1 v2 v3 v4 v5 s) = true then (if (F_X8_within v6 0 9) = true then (if jin v1 8 = true then (if (jz (s.1 22 (Int32.toNatClampNeg v1))) = true then some (true, s) else ((F_X3_opensBy n (s.1 21 (Int32.toNatClampNeg v1)) v1 v2 v3 v4 v5 v6 s).bind fun p61 => (if p61.1 = true then some (true, p61.2) else some (false, p61.2)))) else none) else some (false, s)) else some (false, s))
def rm_X8_opens : Room := { frames := 3, cells := 0, slots := 0, locals := 76 }
set_option maxHeartbeats 4000000 in
set_option maxRecDepth 100000 in
theorem m_X8_opens {l : Launch} {D : va_G} {G : Nat → ClassId} {KV : jV} {ad : Nat → Nat} {nd : Nat} (n : Nat) (v1 : Int32) (v2 : Int32) (v3 : Int32) (v4 : Int32) (v5 : Int32) (v6 : Int32) (s : jS) {p : Bool × jS} (h : F_X8_opens n v1 v2 v3 v4 v5 v6 s = some p) : jM l D G KV yX8_opens cX8_opens 7 (some .boolean) rm_X8_opens [.ref (ad 0), .int v1, .int v2, .int v3, .int v4, .int v5, .int v6] (jw 54 (cellC G nd) ad s) 0 0 (fun v u => v = some (.int (jb p.1)) ∧ u = jw 54 (cellC G nd) ad p.2) := by
  refine jM.of (by decide) (Nat.le_of_ble_eq_true rfl) ?_
  intro K C
  unfold F_X8_opens at h
  show K 0 0 (jw 54 (cellC G nd) ad s) 0 [(0, .ref (ad 0)), (1, .int v1), (2, .int v2), (3, .int v3), (4, .int v4), (5, .int v5), (6, .int v6)] []
  refine j_aload_n C dX8_opens_0 0 rfl ?_
  refine j_iload_n C dX8_opens_1 1 rfl ?_
  refine j_iload_n C dX8_opens_2 2 rfl ?_
  refine j_iload_n C dX8_opens_3 3 rfl ?_
  refine j_iload C dX8_opens_4 4 rfl ?_
  refine j_iload C dX8_opens_6 5 rfl ?_
  refine j_cV1 C dX8_opens_8 (m_X8_isKnock v1 v2 v3 v4 v5 s rfl) kc_X8_isKnock w_642 w_644 wp_23 w_1 jy_X8_isKnock ⟨⟨Nat.le_of_ble_eq_true rfl, Nat.le_of_ble_eq_true rfl⟩, ⟨rfl, rfl⟩, ⟨Nat.zero_le _, Nat.zero_le _⟩⟩ (Nat.le_of_ble_eq_true rfl) (by decide) rfl (r := (RX8, TX8, 9)) rfl rfl rfl (fun _ _ h => h) ?_
  refine j_if_eq C dX8_opens_11 (tgt := 25) (by decide) (fun cq => ?_) (fun cq => ?_)
  · have h := jite_f h (jb_f cq)
    refine j_iconst C dX8_opens_25 (v := 0) (by decide) ?_
    exact j_iret C dX8_opens_26 rfl (jb_nar false) (Nat.zero_le _) (Nat.zero_le _) (jretWB h)
  · have h := jite_t h (jb_t cq)
    refine j_iload C dX8_opens_14 6 rfl ?_
    refine j_iconst C dX8_opens_16 (v := 0) (by decide) ?_
    refine j_bipush C dX8_opens_17 (v := 9) (by decide) ?_
    refine j_cS1 C dX8_opens_19 (m_X8_within v6 0 9 rfl) kc_X8_within w_377 w_378 w_1 jy_X8_within ⟨⟨Nat.le_of_ble_eq_true rfl, Nat.le_of_ble_eq_true rfl⟩, ⟨rfl, rfl⟩, ⟨Nat.zero_le _, Nat.zero_le _⟩⟩ (Nat.le_of_ble_eq_true rfl) rfl (fun _ _ h => h) ?_
    refine j_if_ne C dX8_opens_22 (tgt := 27) (by decide) (fun cq => ?_) (fun cq => ?_)
    · have h := jite_t h (jb_t cq)
      refine j_aload_n C dX8_opens_27 0 rfl ?_
      refine j_getW C dX8_opens_28 inX8 rfl (by decide) rfl 1 (by decide) w_343 rfl rfl ?_
      refine j_getW C dX8_opens_31 inX2 rfl (by decide) rfl 3 (by decide) w_127 rfl rfl ?_
      refine j_iload_n C dX8_opens_34 1 rfl ?_
      obtain ⟨c35_1, h⟩ := jchk h
      refine j_zaldW C dX8_opens_35 (by decide) rfl (jin_vp c35_1) ?_
      refine j_if_ne C dX8_opens_36 (tgt := 67) (by decide) (fun cq => ?_) (fun cq => ?_)
      · have h := jite_t h (jb_t cq)
        refine j_iconst C dX8_opens_67 (v := 1) (by decide) ?_
        refine j_goto C dX8_opens_68 (tgt := 72) (by decide) ?_
        exact j_iret C dX8_opens_72 rfl (jb_nar true) (Nat.zero_le _) (Nat.zero_le _) (jretWB h)
      · have h := jite_f h (jb_f cq)
        refine j_aload_n C dX8_opens_39 0 rfl ?_
        refine j_getW C dX8_opens_40 inX8 rfl (by decide) rfl 6 (by decide) w_348 rfl rfl ?_
        refine j_aload_n C dX8_opens_43 0 rfl ?_
        refine j_getW C dX8_opens_44 inX8 rfl (by decide) rfl 1 (by decide) w_343 rfl rfl ?_
        refine j_getW C dX8_opens_47 inX2 rfl (by decide) rfl 2 (by decide) w_124 rfl rfl ?_
        refine j_iload_n C dX8_opens_50 1 rfl ?_
        refine j_ialdW C dX8_opens_51 (by decide) rfl (jin_vp c35_1) ?_
        refine j_iload_n C dX8_opens_52 1 rfl ?_
        refine j_iload_n C dX8_opens_53 2 rfl ?_
        refine j_iload_n C dX8_opens_54 3 rfl ?_
        refine j_iload C dX8_opens_55 4 rfl ?_
        refine j_iload C dX8_opens_57 5 rfl ?_
        refine j_iload C dX8_opens_59 6 rfl ?_
        obtain ⟨p61, he61, h⟩ := jbind h
        refine j_cV1 C dX8_opens_61 (m_X3_opensBy n (s.1 21 (Int32.toNatClampNeg v1)) v1 v2 v3 v4 v5 v6 s he61) kc_X3_opensBy w_646 w_647 w_648 w_7 jy_X3_opensBy ⟨⟨Nat.le_of_ble_eq_true rfl, Nat.le_of_ble_eq_true rfl⟩, ⟨rfl, rfl⟩, ⟨Nat.zero_le _, Nat.zero_le _⟩⟩ (Nat.le_of_ble_eq_true rfl) (by decide) rfl (r := (RX3, TX3, 7)) rfl rfl rfl (fun _ _ h => h) ?_
        refine j_if_eq C dX8_opens_64 (tgt := 71) (by decide) (fun cq => ?_) (fun cq => ?_)
        · have h := jite_f h (jb_f cq)
          refine j_iconst C dX8_opens_71 (v := 0) (by decide) ?_
          exact j_iret C dX8_opens_72 rfl (jb_nar false) (Nat.zero_le _) (Nat.zero_le _) (jretWB h)
        · have h := jite_t h (jb_t cq)
          refine j_iconst C dX8_opens_67 (v := 1) (by decide) ?_
          refine j_goto C dX8_opens_68 (tgt := 72) (by decide) ?_
          exact j_iret C dX8_opens_72 rfl (jb_nar true) (Nat.zero_le _) (Nat.zero_le _) (jretWB h)
    · have h := jite_f h (jb_f cq)
      refine j_iconst C dX8_opens_25 (v := 0) (by decide) ?_
      exact j_iret C dX8_opens_26 rfl (jb_nar false) (Nat.zero_le _) (Nat.zero_le _) (jretWB h)
-- X8_isTraveller
def F_X8_isTraveller (v1 : Int32) (v2 : Int32) (v3 : Int32) (v4 : Int32) (s : jS) : Bool :=
  (if (F_X8_within v1 0 9) = true then (if (F_X8_within v2 0 (((1 : Int32) <<< ((s.1 0 0) &&& 31)) - 1)) = true then (if (F_X8_isHour v3) = true then (if (F_X8_within v4 0 99) = true then true else false) else false) else false) else false)
def rm_X8_isTraveller : Room := { frames := 2, cells := 0, slots := 0, locals := 42 }
set_option maxHeartbeats 4000000 in
set_option maxRecDepth 100000 in
theorem m_X8_isTraveller {l : Launch} {D : va_G} {G : Nat → ClassId} {KV : jV} {ad : Nat → Nat} {nd : Nat} (v1 : Int32) (v2 : Int32) (v3 : Int32) (v4 : Int32) (s : jS) {p : Bool} (h : F_X8_isTraveller v1 v2 v3 v4 s = p) : jM l D G KV yX8_isTraveller cX8_isTraveller 5 (some .boolean) rm_X8_isTraveller [.ref (ad 0), .int v1, .int v2, .int v3, .int v4] (jw 54 (cellC G nd) ad s) 0 0 (fun v u => v = some (.int (jb p)) ∧ u = jw 54 (cellC G nd) ad s) := by
  refine jM.of (by decide) (Nat.le_of_ble_eq_true rfl) ?_
  intro K C
  unfold F_X8_isTraveller at h
  show K 0 0 (jw 54 (cellC G nd) ad s) 0 [(0, .ref (ad 0)), (1, .int v1), (2, .int v2), (3, .int v3), (4, .int v4)] []
  refine j_iload_n C dX8_isTraveller_0 1 rfl ?_
  refine j_iconst C dX8_isTraveller_1 (v := 0) (by decide) ?_
  refine j_bipush C dX8_isTraveller_2 (v := 9) (by decide) ?_
  refine j_cS1 C dX8_isTraveller_4 (m_X8_within v1 0 9 rfl) kc_X8_within w_377 w_378 w_1 jy_X8_within ⟨⟨Nat.le_of_ble_eq_true rfl, Nat.le_of_ble_eq_true rfl⟩, ⟨rfl, rfl⟩, ⟨Nat.zero_le _, Nat.zero_le _⟩⟩ (Nat.le_of_ble_eq_true rfl) rfl (fun _ _ h => h) ?_
  refine j_if_eq C dX8_isTraveller_7 (tgt := 48) (by decide) (fun cq => ?_) (fun cq => ?_)
  · have h := jite_f h (jb_f cq)
    refine j_iconst C dX8_isTraveller_48 (v := 0) (by decide) ?_
    exact j_iret C dX8_isTraveller_49 rfl (jb_nar false) (Nat.zero_le _) (Nat.zero_le _) (jretTB h)
  · have h := jite_t h (jb_t cq)
    refine j_iload_n C dX8_isTraveller_10 2 rfl ?_
    refine j_iconst C dX8_isTraveller_11 (v := 0) (by decide) ?_
    refine j_iconst C dX8_isTraveller_12 (v := 1) (by decide) ?_
    refine j_aload_n C dX8_isTraveller_13 0 rfl ?_
    refine j_getW C dX8_isTraveller_14 inX8 rfl (by decide) rfl 0 (by decide) w_342 rfl rfl ?_
    refine j_ishl C dX8_isTraveller_17 ?_
    refine j_iconst C dX8_isTraveller_18 (v := 1) (by decide) ?_
    refine j_isub C dX8_isTraveller_19 ?_
    refine j_cS1 C dX8_isTraveller_20 (m_X8_within v2 0 (((1 : Int32) <<< ((s.1 0 0) &&& 31)) - 1) rfl) kc_X8_within w_377 w_378 w_1 jy_X8_within ⟨⟨Nat.le_of_ble_eq_true rfl, Nat.le_of_ble_eq_true rfl⟩, ⟨rfl, rfl⟩, ⟨Nat.zero_le _, Nat.zero_le _⟩⟩ (Nat.le_of_ble_eq_true rfl) rfl (fun _ _ h => h) ?_
    refine j_if_eq C dX8_isTraveller_23 (tgt := 48) (by decide) (fun cq => ?_) (fun cq => ?_)
    · have h := jite_f h (jb_f cq)
      refine j_iconst C dX8_isTraveller_48 (v := 0) (by decide) ?_
      exact j_iret C dX8_isTraveller_49 rfl (jb_nar false) (Nat.zero_le _) (Nat.zero_le _) (jretTB h)
    · have h := jite_t h (jb_t cq)
      refine j_iload_n C dX8_isTraveller_26 3 rfl ?_
      refine j_cS1 C dX8_isTraveller_27 (m_X8_isHour v3 rfl) kc_X8_isHour w_374 w_375 w_1 jy_X8_isHour ⟨⟨Nat.le_of_ble_eq_true rfl, Nat.le_of_ble_eq_true rfl⟩, ⟨rfl, rfl⟩, ⟨Nat.zero_le _, Nat.zero_le _⟩⟩ (Nat.le_of_ble_eq_true rfl) rfl (fun _ _ h => h) ?_
      refine j_if_eq C dX8_isTraveller_30 (tgt := 48) (by decide) (fun cq => ?_) (fun cq => ?_)
      · have h := jite_f h (jb_f cq)
        refine j_iconst C dX8_isTraveller_48 (v := 0) (by decide) ?_
        exact j_iret C dX8_isTraveller_49 rfl (jb_nar false) (Nat.zero_le _) (Nat.zero_le _) (jretTB h)
      · have h := jite_t h (jb_t cq)
        refine j_iload C dX8_isTraveller_33 4 rfl ?_
        refine j_iconst C dX8_isTraveller_35 (v := 0) (by decide) ?_
        refine j_bipush C dX8_isTraveller_36 (v := 99) (by decide) ?_
        refine j_cS1 C dX8_isTraveller_38 (m_X8_within v4 0 99 rfl) kc_X8_within w_377 w_378 w_1 jy_X8_within ⟨⟨Nat.le_of_ble_eq_true rfl, Nat.le_of_ble_eq_true rfl⟩, ⟨rfl, rfl⟩, ⟨Nat.zero_le _, Nat.zero_le _⟩⟩ (Nat.le_of_ble_eq_true rfl) rfl (fun _ _ h => h) ?_
        refine j_if_eq C dX8_isTraveller_41 (tgt := 48) (by decide) (fun cq => ?_) (fun cq => ?_)
        · have h := jite_f h (jb_f cq)
          refine j_iconst C dX8_isTraveller_48 (v := 0) (by decide) ?_
          exact j_iret C dX8_isTraveller_49 rfl (jb_nar false) (Nat.zero_le _) (Nat.zero_le _) (jretTB h)
        · have h := jite_t h (jb_t cq)
          refine j_iconst C dX8_isTraveller_44 (v := 1) (by decide) ?_
          refine j_goto C dX8_isTraveller_45 (tgt := 49) (by decide) ?_
          exact j_iret C dX8_isTraveller_49 rfl (jb_nar true) (Nat.zero_le _) (Nat.zero_le _) (jretTB h)
-- X6_starts_25
def F_X6_starts_25 (v1 : Int32) (v2 : Int32) (v3 : Int32) (v4 : Int32) (s : jS) : Option jS :=
  (jl (upI s 25 0 v1) fun s2_1 => (jl (upI s2_1 25 1 v2) fun s7_2 => (jl (upI s7_2 25 3 v3) fun s12_3 => (jl (upI s12_3 25 2 v4) fun s18_4 => (jl (upI s18_4 25 4 0) fun s23_5 => (jl (upI s23_5 25 5 0) fun s28_6 => (jl (upI s28_6 25 6 0) fun s33_7 => some s33_7)))))))
def rm_X6_starts_25 : Room := { frames := 0, cells := 0, slots := 0, locals := 0 }
set_option maxHeartbeats 4000000 in
set_option maxRecDepth 100000 in
theorem m_X6_starts_25 {l : Launch} {D : va_G} {G : Nat → ClassId} {KV : jV} {ad : Nat → Nat} {nd : Nat} (v1 : Int32) (v2 : Int32) (v3 : Int32) (v4 : Int32) (s : jS) {p : jS} (h : F_X6_starts_25 v1 v2 v3 v4 s = some p) : jM l D G KV yX6_starts cX6_starts 5 none rm_X6_starts_25 [.ref (ad 25), .int v1, .int v2, .int v3, .int v4] (jw 54 (cellC G nd) ad s) 0 0 (fun v u => v = none ∧ u = jw 54 (cellC G nd) ad p) := by
  refine jM.of (by decide) (Nat.le_of_ble_eq_true rfl) ?_
  intro K C
  unfold F_X6_starts_25 at h
  show K 0 0 (jw 54 (cellC G nd) ad s) 0 [(0, .ref (ad 25)), (1, .int v1), (2, .int v2), (3, .int v3), (4, .int v4)] []
  refine j_aload_n C dX6_starts_0 0 rfl ?_
  refine j_iload_n C dX6_starts_1 1 rfl ?_
  refine j_putI C dX6_starts_2 inX6 tyX6 tyX6_ok nmX6 rfl (by decide) 0 rfl rfl (by decide) w_83 rfl rfl rfl rfl (Nat.le_of_ble_eq_true rfl) (fun s2_1 hs2_1 => ?_)
  have h := jlet h hs2_1
  refine j_aload_n C dX6_starts_5 0 rfl ?_
  refine j_iload_n C dX6_starts_6 2 rfl ?_
  refine j_putI C dX6_starts_7 inX6 tyX6 tyX6_ok nmX6 rfl (by decide) 1 rfl rfl (by decide) w_85 rfl rfl rfl rfl (Nat.le_of_ble_eq_true rfl) (fun s7_2 hs7_2 => ?_)
  have h := jlet h hs7_2
  refine j_aload_n C dX6_starts_10 0 rfl ?_
  refine j_iload_n C dX6_starts_11 3 rfl ?_
  refine j_putI C dX6_starts_12 inX6 tyX6 tyX6_ok nmX6 rfl (by decide) 3 rfl rfl (by decide) w_89 rfl rfl rfl rfl (Nat.le_of_ble_eq_true rfl) (fun s12_3 hs12_3 => ?_)
  have h := jlet h hs12_3
  refine j_aload_n C dX6_starts_15 0 rfl ?_
  refine j_iload C dX6_starts_16 4 rfl ?_
  refine j_putI C dX6_starts_18 inX6 tyX6 tyX6_ok nmX6 rfl (by decide) 2 rfl rfl (by decide) w_87 rfl rfl rfl rfl (Nat.le_of_ble_eq_true rfl) (fun s18_4 hs18_4 => ?_)
  have h := jlet h hs18_4
  refine j_aload_n C dX6_starts_21 0 rfl ?_
  refine j_iconst C dX6_starts_22 (v := 0) (by decide) ?_
  refine j_putI C dX6_starts_23 inX6 tyX6 tyX6_ok nmX6 rfl (by decide) 4 rfl rfl (by decide) w_91 rfl rfl rfl rfl (Nat.le_of_ble_eq_true rfl) (fun s23_5 hs23_5 => ?_)
  have h := jlet h hs23_5
  refine j_aload_n C dX6_starts_26 0 rfl ?_
  refine j_iconst C dX6_starts_27 (v := 0) (by decide) ?_
  refine j_putI C dX6_starts_28 inX6 tyX6 tyX6_ok nmX6 rfl (by decide) 5 rfl rfl (by decide) w_93 rfl rfl rfl rfl (Nat.le_of_ble_eq_true rfl) (fun s28_6 hs28_6 => ?_)
  have h := jlet h hs28_6
  refine j_aload_n C dX6_starts_31 0 rfl ?_
  refine j_iconst C dX6_starts_32 (v := 0) (by decide) ?_
  refine j_putI C dX6_starts_33 inX6 tyX6 tyX6_ok nmX6 rfl (by decide) 6 rfl rfl (by decide) w_95 rfl rfl rfl rfl (Nat.le_of_ble_eq_true rfl) (fun s33_7 hs33_7 => ?_)
  have h := jlet h hs33_7
  exact j_vret C dX6_starts_36 rfl (Nat.zero_le _) (Nat.zero_le _) (jretWV h)
-- X8_sets
def F_X8_sets (v1 : Int32) (v2 : Int32) (v3 : Int32) (v4 : Int32) (s : jS) : Option (Bool × jS) :=
  (if (F_X8_isTraveller v1 v2 v3 v4 s) = true then ((F_X6_starts_25 v1 v2 v3 v4 s).bind fun p26 => some (true, p26)) else some (false, s))
def rm_X8_sets : Room := { frames := 3, cells := 0, slots := 0, locals := 66 }
set_option maxHeartbeats 4000000 in
set_option maxRecDepth 100000 in
theorem m_X8_sets {l : Launch} {D : va_G} {G : Nat → ClassId} {KV : jV} {ad : Nat → Nat} {nd : Nat} (v1 : Int32) (v2 : Int32) (v3 : Int32) (v4 : Int32) (s : jS) {p : Bool × jS} (h : F_X8_sets v1 v2 v3 v4 s = some p) : jM l D G KV yX8_sets cX8_sets 5 (some .boolean) rm_X8_sets [.ref (ad 0), .int v1, .int v2, .int v3, .int v4] (jw 54 (cellC G nd) ad s) 0 0 (fun v u => v = some (.int (jb p.1)) ∧ u = jw 54 (cellC G nd) ad p.2) := by
  refine jM.of (by decide) (Nat.le_of_ble_eq_true rfl) ?_
  intro K C
  unfold F_X8_sets at h
  show K 0 0 (jw 54 (cellC G nd) ad s) 0 [(0, .ref (ad 0)), (1, .int v1), (2, .int v2), (3, .int v3), (4, .int v4)] []
  refine j_aload_n C dX8_sets_0 0 rfl ?_
  refine j_iload_n C dX8_sets_1 1 rfl ?_
  refine j_iload_n C dX8_sets_2 2 rfl ?_
  refine j_iload_n C dX8_sets_3 3 rfl ?_
  refine j_iload C dX8_sets_4 4 rfl ?_
  refine j_cV1 C dX8_sets_6 (m_X8_isTraveller v1 v2 v3 v4 s rfl) kc_X8_isTraveller w_673 w_675 wp_26 w_1 jy_X8_isTraveller ⟨⟨Nat.le_of_ble_eq_true rfl, Nat.le_of_ble_eq_true rfl⟩, ⟨rfl, rfl⟩, ⟨Nat.zero_le _, Nat.zero_le _⟩⟩ (Nat.le_of_ble_eq_true rfl) (by decide) rfl (r := (RX8, TX8, 9)) rfl rfl rfl (fun _ _ h => h) ?_
  refine j_if_ne C dX8_sets_9 (tgt := 14) (by decide) (fun cq => ?_) (fun cq => ?_)
  · have h := jite_t h (jb_t cq)
    refine j_aload_n C dX8_sets_14 0 rfl ?_
    refine j_getW C dX8_sets_15 inX8 rfl (by decide) rfl 1 (by decide) w_343 rfl rfl ?_
    refine j_getW C dX8_sets_18 inX2 rfl (by decide) rfl 6 (by decide) w_134 rfl rfl ?_
    refine j_iload_n C dX8_sets_21 1 rfl ?_
    refine j_iload_n C dX8_sets_22 2 rfl ?_
    refine j_iload_n C dX8_sets_23 3 rfl ?_
    refine j_iload C dX8_sets_24 4 rfl ?_
    obtain ⟨p26, he26, h⟩ := jbind h
    refine j_cV0 C dX8_sets_26 (m_X6_starts_25 v1 v2 v3 v4 s he26) kc_X6_starts w_677 w_678 w_679 w_5 jy_X6_starts ⟨⟨Nat.le_of_ble_eq_true rfl, Nat.le_of_ble_eq_true rfl⟩, ⟨rfl, rfl⟩, ⟨Nat.zero_le _, Nat.zero_le _⟩⟩ (Nat.le_of_ble_eq_true rfl) (by decide) rfl (r := (RX6, TX6, 8)) rfl rfl rfl (fun _ _ h => h) ?_
    refine j_iconst C dX8_sets_29 (v := 1) (by decide) ?_
    exact j_iret C dX8_sets_30 rfl (jb_nar true) (Nat.zero_le _) (Nat.zero_le _) (jretWB h)
  · have h := jite_f h (jb_f cq)
    refine j_iconst C dX8_sets_12 (v := 0) (by decide) ?_
    exact j_iret C dX8_sets_13 rfl (jb_nar false) (Nat.zero_le _) (Nat.zero_le _) (jretWB h)
-- X8_canKnock
def F_X8_canKnock (v1 : Int32) (v2 : Int32) (s : jS) : Bool :=
  (if (F_X8_isDoor (s.1 25 5) s) = true then (if (F_X8_within v1 1 7) = true then (if (F_X8_within v2 0 5) = true then (if (s.1 25 2) < v2 then false else true) else false) else false) else false)
def rm_X8_canKnock : Room := { frames := 2, cells := 0, slots := 0, locals := 43 }
set_option maxHeartbeats 4000000 in
set_option maxRecDepth 100000 in
theorem m_X8_canKnock {l : Launch} {D : va_G} {G : Nat → ClassId} {KV : jV} {ad : Nat → Nat} {nd : Nat} (v1 : Int32) (v2 : Int32) (s : jS) {p : Bool} (h : F_X8_canKnock v1 v2 s = p) : jM l D G KV yX8_canKnock cX8_canKnock 3 (some .boolean) rm_X8_canKnock [.ref (ad 0), .int v1, .int v2] (jw 54 (cellC G nd) ad s) 0 0 (fun v u => v = some (.int (jb p)) ∧ u = jw 54 (cellC G nd) ad s) := by
  refine jM.of (by decide) (Nat.le_of_ble_eq_true rfl) ?_
  intro K C
  unfold F_X8_canKnock at h
  show K 0 0 (jw 54 (cellC G nd) ad s) 0 [(0, .ref (ad 0)), (1, .int v1), (2, .int v2)] []
  refine j_aload_n C dX8_canKnock_0 0 rfl ?_
  refine j_aload_n C dX8_canKnock_1 0 rfl ?_
  refine j_getW C dX8_canKnock_2 inX8 rfl (by decide) rfl 1 (by decide) w_343 rfl rfl ?_
  refine j_getW C dX8_canKnock_5 inX2 rfl (by decide) rfl 6 (by decide) w_134 rfl rfl ?_
  refine j_getW C dX8_canKnock_8 inX6 rfl (by decide) rfl 5 (by decide) w_94 rfl rfl ?_
  refine j_cV1 C dX8_canKnock_11 (m_X8_isDoor (s.1 25 5) s rfl) kc_X8_isDoor w_396 w_398 wp_1 w_1 jy_X8_isDoor ⟨⟨Nat.le_of_ble_eq_true rfl, Nat.le_of_ble_eq_true rfl⟩, ⟨rfl, rfl⟩, ⟨Nat.zero_le _, Nat.zero_le _⟩⟩ (Nat.le_of_ble_eq_true rfl) (by decide) rfl (r := (RX8, TX8, 9)) rfl rfl rfl (fun _ _ h => h) ?_
  refine j_if_eq C dX8_canKnock_14 (tgt := 54) (by decide) (fun cq => ?_) (fun cq => ?_)
  · have h := jite_f h (jb_f cq)
    refine j_iconst C dX8_canKnock_54 (v := 0) (by decide) ?_
    exact j_iret C dX8_canKnock_55 rfl (jb_nar false) (Nat.zero_le _) (Nat.zero_le _) (jretTB h)
  · have h := jite_t h (jb_t cq)
    refine j_iload_n C dX8_canKnock_17 1 rfl ?_
    refine j_iconst C dX8_canKnock_18 (v := 1) (by decide) ?_
    refine j_bipush C dX8_canKnock_19 (v := 7) (by decide) ?_
    refine j_cS1 C dX8_canKnock_21 (m_X8_within v1 1 7 rfl) kc_X8_within w_377 w_378 w_1 jy_X8_within ⟨⟨Nat.le_of_ble_eq_true rfl, Nat.le_of_ble_eq_true rfl⟩, ⟨rfl, rfl⟩, ⟨Nat.zero_le _, Nat.zero_le _⟩⟩ (Nat.le_of_ble_eq_true rfl) rfl (fun _ _ h => h) ?_
    refine j_if_eq C dX8_canKnock_24 (tgt := 54) (by decide) (fun cq => ?_) (fun cq => ?_)
    · have h := jite_f h (jb_f cq)
      refine j_iconst C dX8_canKnock_54 (v := 0) (by decide) ?_
      exact j_iret C dX8_canKnock_55 rfl (jb_nar false) (Nat.zero_le _) (Nat.zero_le _) (jretTB h)
    · have h := jite_t h (jb_t cq)
      refine j_iload_n C dX8_canKnock_27 2 rfl ?_
      refine j_iconst C dX8_canKnock_28 (v := 0) (by decide) ?_
      refine j_iconst C dX8_canKnock_29 (v := 5) (by decide) ?_
      refine j_cS1 C dX8_canKnock_30 (m_X8_within v2 0 5 rfl) kc_X8_within w_377 w_378 w_1 jy_X8_within ⟨⟨Nat.le_of_ble_eq_true rfl, Nat.le_of_ble_eq_true rfl⟩, ⟨rfl, rfl⟩, ⟨Nat.zero_le _, Nat.zero_le _⟩⟩ (Nat.le_of_ble_eq_true rfl) rfl (fun _ _ h => h) ?_
      refine j_if_eq C dX8_canKnock_33 (tgt := 54) (by decide) (fun cq => ?_) (fun cq => ?_)
      · have h := jite_f h (jb_f cq)
        refine j_iconst C dX8_canKnock_54 (v := 0) (by decide) ?_
        exact j_iret C dX8_canKnock_55 rfl (jb_nar false) (Nat.zero_le _) (Nat.zero_le _) (jretTB h)
      · have h := jite_t h (jb_t cq)
        refine j_iload_n C dX8_canKnock_36 2 rfl ?_
        refine j_aload_n C dX8_canKnock_37 0 rfl ?_
        refine j_getW C dX8_canKnock_38 inX8 rfl (by decide) rfl 1 (by decide) w_343 rfl rfl ?_
        refine j_getW C dX8_canKnock_41 inX2 rfl (by decide) rfl 6 (by decide) w_134 rfl rfl ?_
        refine j_getW C dX8_canKnock_44 inX6 rfl (by decide) rfl 2 (by decide) w_88 rfl rfl ?_
        refine j_icmp_gt C dX8_canKnock_47 (tgt := 54) (by decide) (fun cq => ?_) (fun cq => ?_)
        · have h := jite_t h cq
          refine j_iconst C dX8_canKnock_54 (v := 0) (by decide) ?_
          exact j_iret C dX8_canKnock_55 rfl (jb_nar false) (Nat.zero_le _) (Nat.zero_le _) (jretTB h)
        · have h := jite_f h cq
          refine j_iconst C dX8_canKnock_50 (v := 1) (by decide) ?_
          refine j_goto C dX8_canKnock_51 (tgt := 55) (by decide) ?_
          exact j_iret C dX8_canKnock_55 rfl (jb_nar true) (Nat.zero_le _) (Nat.zero_le _) (jretTB h)
-- X8_hasKey
def F_X8_hasKey (v0 : Int32) (v1 : Int32) : Bool :=
  (if ((v0 >>> (v1 &&& 31)) &&& (1 : Int32)) = 1 then true else false)
def rm_X8_hasKey : Room := { frames := 0, cells := 0, slots := 0, locals := 0 }
set_option maxHeartbeats 4000000 in
set_option maxRecDepth 100000 in
theorem m_X8_hasKey {l : Launch} {D : va_G} {G : Nat → ClassId} {KV : jV} {ad : Nat → Nat} {nd : Nat} {s : jS} (v0 : Int32) (v1 : Int32) {p : Bool} (h : F_X8_hasKey v0 v1 = p) : jM l D G KV yX8_hasKey cX8_hasKey 2 (some .boolean) rm_X8_hasKey [.int v0, .int v1] (jw 54 (cellC G nd) ad s) 0 0 (fun v u => v = some (.int (jb p)) ∧ u = jw 54 (cellC G nd) ad s) := by
  refine jM.of (by decide) (Nat.le_of_ble_eq_true rfl) ?_
  intro K C
  unfold F_X8_hasKey at h
  show K 0 0 (jw 54 (cellC G nd) ad s) 0 [(0, .int v0), (1, .int v1)] []
  refine j_iload_n C dX8_hasKey_0 0 rfl ?_
  refine j_iload_n C dX8_hasKey_1 1 rfl ?_
  refine j_ishr C dX8_hasKey_2 ?_
  refine j_iconst C dX8_hasKey_3 (v := 1) (by decide) ?_
  refine j_iand C dX8_hasKey_4 ?_
  refine j_iconst C dX8_hasKey_5 (v := 1) (by decide) ?_
  refine j_icmp_ne C dX8_hasKey_6 (tgt := 13) (by decide) (fun cq => ?_) (fun cq => ?_)
  · have h := jite_f h cq
    refine j_iconst C dX8_hasKey_13 (v := 0) (by decide) ?_
    exact j_iret C dX8_hasKey_14 rfl (jb_nar false) (Nat.zero_le _) (Nat.zero_le _) (jretTB h)
  · have h := jite_t h cq
    refine j_iconst C dX8_hasKey_9 (v := 1) (by decide) ?_
    refine j_goto C dX8_hasKey_10 (tgt := 14) (by decide) ?_
    exact j_iret C dX8_hasKey_14 rfl (jb_nar true) (Nat.zero_le _) (Nat.zero_le _) (jretTB h)
-- X6_keepsStep_25
def J_X6_keepsStep_25_30 (s : jS) : Option jS :=
  (if jin (s.1 25 6) 30 = true then (jl (upI s 26 (Int32.toNatClampNeg (s.1 25 6)) (((((((s.1 25 5) * 24) + (s.1 25 3)) * 10) + (s.1 25 4)) * 100) + (s.1 25 2))) fun s66_2 => (jl (upI s66_2 25 6 ((s66_2.1 25 6) + 1)) fun s74_3 => some s74_3)) else none)
def F_X6_keepsStep_25 (s : jS) : Option jS :=
  (if (s.1 25 6) < 30 then J_X6_keepsStep_25_30 s else (jl (upR s 26 (va_cpy (s.1 26) (s.1 26) (Int32.toNatClampNeg 1) (Int32.toNatClampNeg 0) (Int32.toNatClampNeg 29))) fun s21_4 => (jl (upI s21_4 25 6 29) fun s27_5 => J_X6_keepsStep_25_30 s27_5)))
def rm_X6_keepsStep_25 : Room := { frames := 1, cells := 0, slots := 0, locals := 26 }
set_option maxHeartbeats 4000000 in
set_option maxRecDepth 100000 in
theorem m_X6_keepsStep_25 {l : Launch} {D : va_G} {G : Nat → ClassId} {KV : jV} {ad : Nat → Nat} {nd : Nat} (s : jS) {p : jS} (h : F_X6_keepsStep_25 s = some p) : jM l D G KV yX6_keepsStep cX6_keepsStep 1 none rm_X6_keepsStep_25 [.ref (ad 25)] (jw 54 (cellC G nd) ad s) 0 0 (fun v u => v = none ∧ u = jw 54 (cellC G nd) ad p) := by
  refine jM.of (by decide) (Nat.le_of_ble_eq_true rfl) ?_
  intro K C
  unfold F_X6_keepsStep_25 at h
  have jn30 : ∀ (s : jS) (_ : J_X6_keepsStep_25_30 s = some p), K 0 0 (jw 54 (cellC G nd) ad s) 30 [(0, .ref (ad 25))] [] := by
    intro s h
    unfold J_X6_keepsStep_25_30 at h
    refine j_aload_n C dX6_keepsStep_30 0 rfl ?_
    refine j_getW C dX6_keepsStep_31 inX6 rfl (by decide) rfl 7 (by decide) w_97 rfl rfl ?_
    refine j_aload_n C dX6_keepsStep_34 0 rfl ?_
    refine j_getW C dX6_keepsStep_35 inX6 rfl (by decide) rfl 6 (by decide) w_95 rfl rfl ?_
    refine j_aload_n C dX6_keepsStep_38 0 rfl ?_
    refine j_getW C dX6_keepsStep_39 inX6 rfl (by decide) rfl 5 (by decide) w_93 rfl rfl ?_
    refine j_bipush C dX6_keepsStep_42 (v := 24) (by decide) ?_
    refine j_imul C dX6_keepsStep_44 ?_
    refine j_aload_n C dX6_keepsStep_45 0 rfl ?_
    refine j_getW C dX6_keepsStep_46 inX6 rfl (by decide) rfl 3 (by decide) w_89 rfl rfl ?_
    refine j_iadd C dX6_keepsStep_49 ?_
    refine j_bipush C dX6_keepsStep_50 (v := 10) (by decide) ?_
    refine j_imul C dX6_keepsStep_52 ?_
    refine j_aload_n C dX6_keepsStep_53 0 rfl ?_
    refine j_getW C dX6_keepsStep_54 inX6 rfl (by decide) rfl 4 (by decide) w_91 rfl rfl ?_
    refine j_iadd C dX6_keepsStep_57 ?_
    refine j_bipush C dX6_keepsStep_58 (v := 100) (by decide) ?_
    refine j_imul C dX6_keepsStep_60 ?_
    refine j_aload_n C dX6_keepsStep_61 0 rfl ?_
    refine j_getW C dX6_keepsStep_62 inX6 rfl (by decide) rfl 2 (by decide) w_87 rfl rfl ?_
    refine j_iadd C dX6_keepsStep_65 ?_
    obtain ⟨c66_1, h⟩ := jchk h
    refine j_iastW C dX6_keepsStep_66 (by decide) (fun _ => rfl) (jin_vp c66_1) (fun s66_2 hs66_2 => ?_)
    have h := jlet h hs66_2
    refine j_aload_n C dX6_keepsStep_67 0 rfl ?_
    refine j_dup C dX6_keepsStep_68 rfl ?_
    refine j_getW C dX6_keepsStep_69 inX6 rfl (by decide) rfl 6 (by decide) w_95 rfl rfl ?_
    refine j_iconst C dX6_keepsStep_72 (v := 1) (by decide) ?_
    refine j_iadd C dX6_keepsStep_73 ?_
    refine j_putI C dX6_keepsStep_74 inX6 tyX6 tyX6_ok nmX6 rfl (by decide) 6 rfl rfl (by decide) w_95 rfl rfl rfl rfl (Nat.le_of_ble_eq_true rfl) (fun s74_3 hs74_3 => ?_)
    have h := jlet h hs74_3
    exact j_vret C dX6_keepsStep_77 rfl (Nat.zero_le _) (Nat.zero_le _) (jretWV h)
  show K 0 0 (jw 54 (cellC G nd) ad s) 0 [(0, .ref (ad 25))] []
  refine j_aload_n C dX6_keepsStep_0 0 rfl ?_
  refine j_getW C dX6_keepsStep_1 inX6 rfl (by decide) rfl 6 (by decide) w_95 rfl rfl ?_
  refine j_bipush C dX6_keepsStep_4 (v := 30) (by decide) ?_
  refine j_icmp_lt C dX6_keepsStep_6 (tgt := 30) (by decide) (fun cq => ?_) (fun cq => ?_)
  · have h := jite_t h cq
    refine j_loc C [0] rfl ?_
    exact jn30  s  h
  · have h := jite_f h cq
    refine j_aload_n C dX6_keepsStep_9 0 rfl ?_
    refine j_getW C dX6_keepsStep_10 inX6 rfl (by decide) rfl 7 (by decide) w_97 rfl rfl ?_
    refine j_iconst C dX6_keepsStep_13 (v := 1) (by decide) ?_
    refine j_aload_n C dX6_keepsStep_14 0 rfl ?_
    refine j_getW C dX6_keepsStep_15 inX6 rfl (by decide) rfl 7 (by decide) w_97 rfl rfl ?_
    refine j_iconst C dX6_keepsStep_18 (v := 0) (by decide) ?_
    refine j_bipush C dX6_keepsStep_19 (v := 29) (by decide) ?_
    refine j_copyI C dX6_keepsStep_21 w_700 w_702 w_701 w_16 (by decide) (by decide) (fun _ => rfl) (fun _ => rfl) (by decide) (by decide) (by decide) (by decide) (by decide) (Nat.le_of_ble_eq_true rfl) (Nat.le_of_ble_eq_true rfl) (fun s21_4 hs21_4 => ?_)
    have h := jlet h hs21_4
    refine j_aload_n C dX6_keepsStep_24 0 rfl ?_
    refine j_bipush C dX6_keepsStep_25 (v := 29) (by decide) ?_
    refine j_putI C dX6_keepsStep_27 inX6 tyX6 tyX6_ok nmX6 rfl (by decide) 6 rfl rfl (by decide) w_95 rfl rfl rfl rfl (Nat.le_of_ble_eq_true rfl) (fun s27_5 hs27_5 => ?_)
    have h := jlet h hs27_5
    refine j_loc C [0] rfl ?_
    exact jn30  s27_5  h
-- X6_hourGoes_25
def F_X6_hourGoes_25 (s : jS) : Option jS :=
  (jl (upI s 25 3 (((s.1 25 3) + 1) - ((s.1 25 3) + 1) / 24 * 24)) fun s10_1 => some s10_1)
def rm_X6_hourGoes_25 : Room := { frames := 0, cells := 0, slots := 0, locals := 0 }
set_option maxHeartbeats 4000000 in
set_option maxRecDepth 100000 in
theorem m_X6_hourGoes_25 {l : Launch} {D : va_G} {G : Nat → ClassId} {KV : jV} {ad : Nat → Nat} {nd : Nat} (s : jS) {p : jS} (h : F_X6_hourGoes_25 s = some p) : jM l D G KV yX6_hourGoes cX6_hourGoes 1 none rm_X6_hourGoes_25 [.ref (ad 25)] (jw 54 (cellC G nd) ad s) 0 0 (fun v u => v = none ∧ u = jw 54 (cellC G nd) ad p) := by
  refine jM.of (by decide) (Nat.le_of_ble_eq_true rfl) ?_
  intro K C
  unfold F_X6_hourGoes_25 at h
  show K 0 0 (jw 54 (cellC G nd) ad s) 0 [(0, .ref (ad 25))] []
  refine j_aload_n C dX6_hourGoes_0 0 rfl ?_
  refine j_aload_n C dX6_hourGoes_1 0 rfl ?_
  refine j_getW C dX6_hourGoes_2 inX6 rfl (by decide) rfl 3 (by decide) w_89 rfl rfl ?_
  refine j_iconst C dX6_hourGoes_5 (v := 1) (by decide) ?_
  refine j_iadd C dX6_hourGoes_6 ?_
  refine j_bipush C dX6_hourGoes_7 (v := 24) (by decide) ?_
  refine j_irem C dX6_hourGoes_9 (by decide) ?_
  refine j_putI C dX6_hourGoes_10 inX6 tyX6 tyX6_ok nmX6 rfl (by decide) 3 rfl rfl (by decide) w_89 rfl rfl rfl rfl (Nat.le_of_ble_eq_true rfl) (fun s10_1 hs10_1 => ?_)
  have h := jlet h hs10_1
  exact j_vret C dX6_hourGoes_13 rfl (Nat.zero_le _) (Nat.zero_le _) (jretWV h)
-- X6_stays_25
def F_X6_stays_25 (s : jS) : Option jS :=
  (jl (upI s 25 4 (if (((s.1 25 4) + 1) : Int32) < 9 then ((s.1 25 4) + 1) else 9)) fun s12_1 => some s12_1)
def rm_X6_stays_25 : Room := { frames := 1, cells := 0, slots := 0, locals := 26 }
set_option maxHeartbeats 4000000 in
set_option maxRecDepth 100000 in
theorem m_X6_stays_25 {l : Launch} {D : va_G} {G : Nat → ClassId} {KV : jV} {ad : Nat → Nat} {nd : Nat} (s : jS) {p : jS} (h : F_X6_stays_25 s = some p) : jM l D G KV yX6_stays cX6_stays 1 none rm_X6_stays_25 [.ref (ad 25)] (jw 54 (cellC G nd) ad s) 0 0 (fun v u => v = none ∧ u = jw 54 (cellC G nd) ad p) := by
  refine jM.of (by decide) (Nat.le_of_ble_eq_true rfl) ?_
  intro K C
  unfold F_X6_stays_25 at h
  show K 0 0 (jw 54 (cellC G nd) ad s) 0 [(0, .ref (ad 25))] []
  refine j_aload_n C dX6_stays_0 0 rfl ?_
  refine j_bipush C dX6_stays_1 (v := 9) (by decide) ?_
  refine j_aload_n C dX6_stays_3 0 rfl ?_
  refine j_getW C dX6_stays_4 inX6 rfl (by decide) rfl 4 (by decide) w_91 rfl rfl ?_
  refine j_iconst C dX6_stays_7 (v := 1) (by decide) ?_
  refine j_iadd C dX6_stays_8 ?_
  refine j_mmin C dX6_stays_9 w_711 w_27 w_2 w_28 (Nat.le_of_ble_eq_true rfl) (Nat.le_of_ble_eq_true rfl) (Nat.zero_le _) (Nat.zero_le _) ?_
  refine j_putI C dX6_stays_12 inX6 tyX6 tyX6_ok nmX6 rfl (by decide) 4 rfl rfl (by decide) w_91 rfl rfl rfl rfl (Nat.le_of_ble_eq_true rfl) (fun s12_1 hs12_1 => ?_)
  have h := jlet h hs12_1
  exact j_vret C dX6_stays_15 rfl (Nat.zero_le _) (Nat.zero_le _) (jretWV h)
